/-! What a surveyed chart tells, as functions of the diagram. -/
noncomputable def pm_m (r : Nat → Nat → Prop) (i : Nat) : Nat := lsv (fun j => r i j ∧ pm_L r j) (i + 1)
noncomputable def rn (r : Nat → Nat → Prop) (i : Nat) : Nat := pm_c (pm_L r) (pm_m r i)
theorem pm_m_spec {N : Nat} {r : Nat → Nat → Prop} (E : pm_E N r) {i : Nat} (hi : i < N) : pm_m r i ≤ i ∧ r i (pm_m r i) ∧ pm_L r (pm_m r i) := by
  obtain ⟨j, j1, j2, j3⟩ := pm_least E hi
  obtain ⟨a, b⟩ := lsv_spec (p := fun j => r i j ∧ pm_L r j) (m := i + 1) (a := j) (by omega) ⟨j2, j3⟩
  have e : lsv (fun j => r i j ∧ pm_L r j) (i + 1) = pm_m r i := rfl
  rw [e] at a b
  exact ⟨by omega, b⟩
theorem pm_m_eq {N : Nat} {r : Nat → Nat → Prop} (E : pm_E N r) {i j : Nat} (hi : i < N) (hj : j < N) (h1 : r i j) (h2 : pm_L r j) : pm_m r i = j := by
  obtain ⟨a, b, c⟩ := pm_m_spec E hi
  exact pm_least_eq E hi (by omega) hj b h1 c h2
theorem pm_m_iff {N : Nat} {r : Nat → Nat → Prop} (E : pm_E N r) {i j : Nat} (hi : i < N) (hj : j < N) : pm_m r i = pm_m r j ↔ r i j := by
  obtain ⟨a, b, c⟩ := pm_m_spec E hi
  obtain ⟨a', b', c'⟩ := pm_m_spec E hj
  constructor
  · intro e
    rw [e] at b
    exact E.2.2 i _ j hi (by omega) hj b (E.2.1 j _ hj (by omega) b')
  · intro q
    exact pm_m_eq E hi (by omega) (E.2.2 i j _ hi hj (by omega) q b') c'
theorem pm_c_inj {p : Nat → Prop} {i j : Nat} (hi : p i) (hj : p j) (e : pm_c p i = pm_c p j) : i = j := by
  rcases Nat.lt_trichotomy i j with z | z | z
  · have := pm_c_lt z hi; omega
  · exact z
  · have := pm_c_lt z hj; omega
theorem rn_iff {N : Nat} {r : Nat → Nat → Prop} (E : pm_E N r) {i j : Nat} (hi : i < N) (hj : j < N) : rn r i = rn r j ↔ r i j := by
  rw [← pm_m_iff E hi hj]
  constructor
  · exact pm_c_inj (pm_m_spec E hi).2.2 (pm_m_spec E hj).2.2
  · intro e; unfold rn; rw [e]
theorem rn_lt {N : Nat} {r : Nat → Nat → Prop} (E : pm_E N r) {i : Nat} (hi : i < N) : rn r i < pm_n N r := by
  obtain ⟨a, b, c⟩ := pm_m_spec E hi
  have := pm_c_lt (p := pm_L r) (a := pm_m r i) (b := N) (by omega) c
  exact this
theorem pm_m_self {N : Nat} {r : Nat → Nat → Prop} (E : pm_E N r) {i : Nat} (hi : i < N) : pm_m r i = i ↔ pm_L r i := by
  obtain ⟨a, b, c⟩ := pm_m_spec E hi
  constructor
  · intro e; rw [← e]; exact c
  · intro q; exact pm_m_eq E hi hi (E.1 i hi) q
theorem pm_n_le (N : Nat) (r : Nat → Nat → Prop) : pm_n N r ≤ N := pm_c_le _ N
def gpv (t : gt_T) (N : Nat) (r : Nat → Nat → Prop) : Prop := t.1 2 = (N : Int) ∧ t.1 3 = (pm_n N r : Int) ∧ ∀ i, i < N → t.2 0 i = (pm_m r i : Int) ∧ t.2 1 i = (rn r i : Int)
theorem gpv_of {t : gt_T} {N : Nat} {r : Nat → Nat → Prop} (E : pm_E N r) (h : gp_ok t N r) : gpv t N r := by
  refine ⟨h.1.1, h.2.1, fun i hi => ?_⟩
  obtain ⟨a, b, c⟩ := pm_m_spec E hi
  exact ⟨h.1.2 i _ hi (by omega) b c, h.2.2 i _ hi (by omega) b c⟩
/-- p steps bring j round, and no fewer -/
def pm_o (π : Nat → Nat) (j p : Nat) : Prop := 1 ≤ p ∧ pm_it π p j = j ∧ ∀ q, 1 ≤ q → q < p → pm_it π q j ≠ j
theorem pm_o_uniq {π : Nat → Nat} {j p q : Nat} (h : pm_o π j p) (k : pm_o π j q) : p = q := by
  rcases Nat.lt_trichotomy p q with z | z | z
  · exact absurd h.2.1 (k.2.2 p h.1 z)
  · exact z
  · exact absurd k.2.1 (h.2.2 q k.1 z)
def rdv (t : gt_T) (N : Nat) (π : Nat → Nat) : Prop := t.1 4 = (N : Int) ∧ t.1 5 = (pm_z N π : Int) ∧ (∀ i, i < N → t.2 0 i = (π i : Int) ∧ t.2 1 i = (rn (pm_R π) i : Int)) ∧ ∀ k, k < pm_z N π → ∃ j : Nat, j < N ∧ pm_L (pm_R π) j ∧ pm_c (pm_L (pm_R π)) j = k ∧ t.2 2 k = (j : Int) ∧ ∃ p : Nat, t.2 3 k = (p : Int) ∧ p ≤ N ∧ pm_o π j p
theorem rdv_of {t : gt_T} {N : Nat} {π : Nat → Nat} (hp : pm_P N π) (h : rd_ok t N π) : rdv t N π := by
  have E := pm_RE hp
  refine ⟨h.1, h.2.2.1, fun i hi => ⟨h.2.1 i hi, ?_⟩, fun k hk => ?_⟩
  · obtain ⟨a, b, c⟩ := pm_m_spec E hi
    exact h.2.2.2.1 i _ hi b c
  · obtain ⟨j, j1, j2, j3⟩ := pm_c_nth hk
    obtain ⟨q1, p, q2, q3, q4, q5, q6⟩ := h.2.2.2.2 j j1 j2
    rw [j3] at q1 q2
    exact ⟨j, j1, j2, j3, q1, p, q2, q4, q3, q5, q6⟩
noncomputable def pi_c (f : Nat → Int) (c n : Nat) (sg lb : Nat → Int) : Nat → Nat := pi_of f c sg lb (4 * n) na_across
noncomputable def pi_s (f : Nat → Int) (c n : Nat) (sg lb : Nat → Int) : Nat → Nat := pi_of f c sg lb (4 * n) (na_seif sg)
noncomputable def pi_q (f : Nat → Int) (c n : Nat) (sg lb : Nat → Int) : Nat → Nat := pi_d f c sg lb (4 * n)
def ar_r (f : Nat → Int) (c n : Nat) (sg lb : Nat → Int) : Nat → Nat → Prop := cl_r c (fun e => e) (ar_B f c sg lb (4 * n))
def edv (t : gt_T) (n c : Nat) (f sg lb : Nat → Int) : Prop := t.1 5 = (c : Int) ∧ (∀ i, i < c → t.2 0 i = f i ∧ t.2 2 i = (os sg lb (4 * n) (f i) : Int) ∧ t.2 3 i = (is sg lb (4 * n) (f i) : Int)) ∧ ∀ a, a < 4 * n → t.2 4 a = (er f (lb a) c : Int)
def cv (T : gx_Ch) (n c : Nat) (f sg lb : Nat → Int) : Prop :=
  rw_ok T.1 n ∧ dsm n (T.1.2 0) (T.1.2 1) sg lb ∧ edv T.2.1 n c f sg lb ∧ gpv T.2.2.1 n (pr_L n lb) ∧ gpv T.2.2.2.1 c (ar_r f c n sg lb) ∧ rdv T.2.2.2.2.1 c (pi_c f c n sg lb) ∧ rdv T.2.2.2.2.2.1 c (pi_s f c n sg lb) ∧ rdv T.2.2.2.2.2.2.1 (2 * c) (pi_q f c n sg lb)
section VW
variable {n c : Nat} {sg lb f : Nat → Int}
theorem pcP (M : mr n sg lb) (hS : ed_S f c lb (4 * n)) : pm_P c (pi_c f c n sg lb) := piP M hS
theorem psP (M : mr n sg lb) (hS : ed_S f c lb (4 * n)) : pm_P c (pi_s f c n sg lb) := pi_P M.2.2.2 hS (fun _ h => na_seif_lt h) (fun a _ _ => na_seif_out sg a) (fun _ _ ha hb h => na_seif_inj ha hb h)
theorem pqP (M : mr n sg lb) (hS : ed_S f c lb (4 * n)) : pm_P (2 * c) (pi_q f c n sg lb) := pi_d_P M.2.2.2 hS
theorem cv_of {T : gx_Ch} {c0 : Nat} (h : ch_ok T n c0) (e : dsm n (T.1.2 0) (T.1.2 1) sg lb) (M : mr n sg lb) (hS : ed_S f c lb (4 * n)) : cv T n c f sg lb ∧ ∀ k, k < n → ok3 f c n sg lb k := by
  obtain ⟨⟨h1, h2, h3, h4, h5, h6, h7⟩, hpc, har, hcm, hsf, hfc, hok⟩ := h
  have hD := M.2.2.2
  have h4' := h4.c e.2
  obtain ⟨ec, ef⟩ := h4'.uniq hS
  subst ec
  have eB : ∀ i, i < c0 → ar_B (T.2.1.2 0) c0 (T.1.2 0) (T.1.2 1) (4 * n) i = ar_B f c0 sg lb (4 * n) i := fun i hi => by
    unfold ar_B
    rw [ef i hi, e.is, e.pi hD hS ef (fun _ _ => rfl) (fun _ q => na_across_lt q) hi]
  refine ⟨⟨h1, e, ⟨h3, fun i hi => ⟨ef i hi, ?_, ?_⟩, fun a ha => ?_⟩, gpv_of (pr_E n n lb) (hpc.congr (fun i j _ _ => e.pr i j)), gpv_of (cl_E c0 c0 _ _) (har.congr (fun i j _ _ => ?_)), rdv_of (pcP M hS) (hcm.c (pcP M hS) (fun i hi => e.pi hD hS ef (fun _ _ => rfl) (fun _ q => na_across_lt q) hi)), rdv_of (psP M hS) (hsf.c (psP M hS) (fun i hi => e.pi hD hS ef (fun _ q => e.seif q) (fun _ q => na_seif_lt q) hi)), rdv_of (pqP M hS) (hfc.c (pqP M hS) (fun i hi => e.pid hD hS ef hi))⟩, fun k hk => (e.ok3 hD hS ef hk).mp (hok k hk)⟩
  · rw [(h6 i hi).1, ef i hi, e.os]
  · rw [(h6 i hi).2, ef i hi, e.is]
  · rw [h7 a ha, e.2 a ha, er_congr ef]
  · unfold cl_r
    constructor
    · intro q P hP; exact q P (fun k hk => by rw [eB k hk]; exact hP k hk)
    · intro q P hP; exact q P (fun k hk => by rw [← eB k hk]; exact hP k hk)
end VW
