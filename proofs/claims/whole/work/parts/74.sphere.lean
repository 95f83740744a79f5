/-! Faces by places; on spheres: piece by piece and in all. -/
theorem pm_c_inj_le {N' : Nat} {g : Nat → Nat} : ∀ {N : Nat} {p q : Nat → Prop}, (∀ i, i < N → p i → g i < N' ∧ q (g i)) → (∀ i j, i < N → j < N → p i → p j → g i = g j → i = j) → pm_c p N ≤ pm_c q N'
  | 0, _, _, _, _ => Nat.zero_le _
  | N + 1, p, q, h1, h2 => by
    by_cases hp : p N
    · have ih := pm_c_inj_le (N := N) (p := p) (q := fun x => q x ∧ x ≠ g N) (fun i hi pi => ⟨(h1 i (by omega) pi).1, (h1 i (by omega) pi).2, fun e => by have := h2 i N (by omega) (by omega) pi hp e; omega⟩) (fun i j hi hj => h2 i j (by omega) (by omega))
      rw [pm_c_y hp, pm_c_one (p := q) (q := fun x => q x ∧ x ≠ g N) (h1 N (by omega) hp).1 (fun i _ hi => ⟨fun z => ⟨z, hi⟩, fun z => z.1⟩) (h1 N (by omega) hp).2 (fun z => z.2 rfl)]
      omega
    · rw [pm_c_n hp]
      exact pm_c_inj_le (N := N) (fun i hi => h1 i (by omega)) (fun i j hi hj => h2 i j (by omega) (by omega))
theorem nq_le {N N' : Nat} {h : Nat → Nat} {r r' : Nat → Nat → Prop} {Q Q' : Nat → Prop} (E : pm_E N r) (E' : pm_E N' r') (h1 : ∀ i, i < N → h i < N') (hr : ∀ i j, i < N → j < N → (r i j ↔ r' (h i) (h j))) (hQ : ∀ i, i < N → Q i → Q' (h i)) (hi : ∀ i j, i < N' → j < N' → r' i j → Q' i → Q' j) : pm_c (fun i => pm_L r i ∧ Q i) N ≤ pm_c (fun i => pm_L r' i ∧ Q' i) N' := by
  refine pm_c_inj_le (g := fun i => pm_m r' (h i)) (fun i hiN q => ?_) (fun i j hiN hjN qi qj e => ?_)
  · obtain ⟨a, b, c⟩ := pm_m_spec E' (h1 i hiN)
    have := h1 i hiN
    exact ⟨by omega, c, hi _ _ (h1 i hiN) (by omega) b (hQ i hiN q.2)⟩
  · have e1 := (pm_m_iff E' (h1 i hiN) (h1 j hjN)).mp e
    exact pm_least_eq E hiN hiN hjN (E.1 i hiN) ((hr i j hiN hjN).mpr e1) qi.1 qj.1
theorem nq_bij {N : Nat} {h : Nat → Nat} {r r' : Nat → Nat → Prop} {Q Q' : Nat → Prop} (hP : pm_P N h) (E : pm_E N r) (E' : pm_E N r') (hr : ∀ i j, i < N → j < N → (r i j ↔ r' (h i) (h j))) (hQ : ∀ i, i < N → (Q i ↔ Q' (h i))) (hi : ∀ i j, i < N → j < N → r' i j → Q' i → Q' j) : pm_c (fun i => pm_L r i ∧ Q i) N = pm_c (fun i => pm_L r' i ∧ Q' i) N := by
  have hg : ∀ j, j < N → lsv (fun i => h i = j) N < N ∧ h (lsv (fun i => h i = j) N) = j := fun j hj => by
    obtain ⟨a, a1, a2⟩ := pm_inv hP hj
    exact lsv_spec (p := fun i => h i = j) a1 a2
  refine Nat.le_antisymm (nq_le E E' hP.1 hr (fun i hiN q => (hQ i hiN).mp q) hi) (nq_le (h := fun j => lsv (fun i => h i = j) N) E' E (fun j hj => (hg j hj).1) (fun i j hiN hjN => ?_) (fun j hj q => ?_) (fun i j hiN hjN hr' q => ?_))
  · rw [hr _ _ (hg i hiN).1 (hg j hjN).1, (hg i hiN).2, (hg j hjN).2]
  · rw [hQ _ (hg j hj).1, (hg j hj).2]; exact q
  · exact (hQ j hjN).mpr (hi _ _ (hP.1 i hiN) (hP.1 j hjN) ((hr i j hiN hjN).mp hr') ((hQ i hiN).mp q))
noncomputable def fa (n : Nat) (lb : Nat → Int) (a : Nat) : Nat := na_beside (mt lb (4 * n) a)
noncomputable def FS (n : Nat) (lb : Nat → Int) (k : Nat) : Nat := pm_c (fun a => pm_L (pm_R (fa n lb)) a ∧ pr_L n lb (a / 4) k) (4 * n)
def SPh (n : Nat) (lb : Nat → Int) : Prop := ∀ k, k < n → pm_L (pr_L n lb) k → FS n lb k = NC n lb k + 2
section SPS
variable {n c : Nat} {sg lb f : Nat → Int}
theorem mt_P (hD : dg_D n sg lb) : pm_P (4 * n) (mt lb (4 * n)) :=
  ⟨fun i hi => (dg_mt hD hi).1, fun i j hi hj e => by rw [← dg_mm hD hi, e, dg_mm hD hj]⟩
theorem be_P (n : Nat) : pm_P (4 * n) na_beside := ⟨fun _ hi => na_beside_lt hi, fun _ _ _ _ e => na_beside_inj e⟩
theorem fa_P (hD : dg_D n sg lb) : pm_P (4 * n) (fa n lb) := pm_P_comp (f := na_beside) (g := mt lb (4 * n)) (be_P n) (mt_P hD)
theorem fa_pr (hD : dg_D n sg lb) {a : Nat} (ha : a < 4 * n) (k : Nat) : pr_L n lb (fa n lb a / 4) k ↔ pr_L n lb (a / 4) k := by
  obtain ⟨h1, _, h3, _⟩ := dg_mt hD ha
  unfold fa
  rw [na_beside_4]
  exact pr_mate h1 ha h3 k
theorem it_inv {N : Nat} {g : Nat → Nat} {Q : Nat → Prop} (hg : pm_P N g) (h : ∀ a, a < N → (Q (g a) ↔ Q a)) {i j : Nat} (hi : i < N) (hr : pm_R g i j) : Q i ↔ Q j := by
  obtain ⟨k, e⟩ := hr
  subst e
  induction k with
  | zero => exact Iff.rfl
  | succ k ih => exact ih.trans (h _ (pm_it_lt hg hi k)).symm
theorem FS_FC (hD : dg_D n sg lb) (hS : ed_S f c lb (4 * n)) (hc : c = 2 * n) (k : Nat) : FS n lb k = FC f c n sg lb k := by
  have e2 : 2 * c = 4 * n := by omega
  have hπ := pi_d_P hD hS
  rw [e2] at hπ
  have hh : pm_P (4 * n) (da_of f c sg lb) := ⟨fun i hi => by have := da_of_lt (sg := sg) hS hi; omega, fun i j hi hj e => da_of_inj hD hS hi hj e⟩
  have half : ∀ a, a < 4 * n → da_of f c sg lb a / 2 = er f (lb a) c := fun a ha => by
    unfold da_of; split <;> omega
  have step : ∀ a, a < 4 * n → pi_d f c sg lb (4 * n) (da_of f c sg lb a) = da_of f c sg lb (fa n lb a) := fun a ha => by
    unfold pi_d fa
    have : da_ar f sg lb (4 * n) (da_of f c sg lb a) = mt lb (4 * n) a := by
      unfold da_ar
      rw [half a ha, (er_lb hS ha).2]
      by_cases ho : na_out sg a
      · rw [if_pos (by unfold da_of; rw [if_pos ho]; omega), dg_mt_o hD ha ho]
      · rw [if_neg (by unfold da_of; rw [if_neg ho]; omega), dg_mt_i hD ha ho]
    rw [this]
  have its : ∀ q a, a < 4 * n → pm_it (pi_d f c sg lb (4 * n)) q (da_of f c sg lb a) = da_of f c sg lb (pm_it (fa n lb) q a) := fun q a ha => by
    induction q with
    | zero => rfl
    | succ q ih =>
      show pi_d f c sg lb (4 * n) (pm_it _ q _) = _
      rw [ih]
      exact step _ (pm_it_lt (fa_P hD) ha q)
  unfold FS FC
  rw [e2]
  refine nq_bij hh (pm_RE (fa_P hD)) (pm_RE hπ) (fun i j hi hj => ⟨fun ⟨q, e⟩ => ⟨q, by rw [its q i hi, e]⟩, fun ⟨q, e⟩ => ⟨q, ?_⟩⟩) (fun i hi => ?_) (fun i j hi hj hr q => ?_)
  · rw [its q i hi] at e
    exact da_of_inj hD hS (pm_it_lt (fa_P hD) hi q) hj e
  · rw [half i hi, (er_lb hS hi).2]
    obtain ⟨i1, i2, _⟩ := dg_is hD hi
    exact (pr_mate i1 hi i2 k).symm
  · refine (it_inv (Q := fun j => pr_L n lb (is sg lb (4 * n) (f (j / 2)) / 4) k) hπ (fun a ha => ?_) hi hr).mp q
    obtain ⟨x, x1, x2⟩ := pm_inv hh ha
    subst x2
    have h1 := (fa_P hD).1 x x1
    rw [step x x1, half _ h1, half x x1, (er_lb hS h1).2, (er_lb hS x1).2]
    obtain ⟨i1, i2, _⟩ := dg_is hD h1
    obtain ⟨i3, i4, _⟩ := dg_is hD x1
    rw [pr_mate i1 h1 i2 k, pr_mate i3 x1 i4 k]
    exact fa_pr hD x1 k
theorem SP_ok3 (hD : dg_D n sg lb) (hS : ed_S f c lb (4 * n)) (hc : c = 2 * n) : SPh n lb ↔ ∀ k, k < n → ok3 f c n sg lb k := by
  constructor
  · intro h k hk hl; rw [← FS_FC hD hS hc]; exact h k hk hl
  · intro h k hk hl; rw [FS_FC hD hS hc]; exact h k hk hl
end SPS
/-! counting -/
theorem pm_c_split (A Q : Nat → Prop) : ∀ N, pm_c A N = pm_c (fun i => A i ∧ Q i) N + pm_c (fun i => A i ∧ ¬ Q i) N
  | 0 => rfl
  | N + 1 => by
    have ih := pm_c_split A Q N
    by_cases ha : A N
    · by_cases hq : Q N
      · rw [pm_c_y ha, pm_c_y (p := fun i => A i ∧ Q i) ⟨ha, hq⟩, pm_c_n (p := fun i => A i ∧ ¬ Q i) (fun z => z.2 hq)]; omega
      · rw [pm_c_y ha, pm_c_n (p := fun i => A i ∧ Q i) (fun z => hq z.2), pm_c_y (p := fun i => A i ∧ ¬ Q i) ⟨ha, hq⟩]; omega
    · rw [pm_c_n ha, pm_c_n (p := fun i => A i ∧ Q i) (fun z => ha z.1), pm_c_n (p := fun i => A i ∧ ¬ Q i) (fun z => ha z.1)]; exact ih
theorem pm_c_4 (Q : Nat → Prop) : ∀ n, pm_c (fun a => a % 4 = 0 ∧ Q (a / 4)) (4 * n) = pm_c Q n
  | 0 => rfl
  | n + 1 => by
    have ih := pm_c_4 Q n
    rw [show 4 * (n + 1) = 4 * n + 1 + 1 + 1 + 1 by omega, pm_c_n (p := fun a => a % 4 = 0 ∧ Q (a / 4)) (by omega), pm_c_n (p := fun a => a % 4 = 0 ∧ Q (a / 4)) (by omega), pm_c_n (p := fun a => a % 4 = 0 ∧ Q (a / 4)) (by omega)]
    by_cases h : Q n
    · rw [pm_c_y h, pm_c_y (p := fun a => a % 4 = 0 ∧ Q (a / 4)) ⟨by omega, by rw [show 4 * n / 4 = n by omega]; exact h⟩, ih]
    · rw [pm_c_n h, pm_c_n (p := fun a => a % 4 = 0 ∧ Q (a / 4)) (fun z => h (by have := z.2; rw [show 4 * n / 4 = n by omega] at this; exact this)), ih]
theorem pm_c_44 (Q : Nat → Prop) : ∀ n, pm_c (fun a => Q (a / 4)) (4 * n) = 4 * pm_c Q n
  | 0 => rfl
  | n + 1 => by
    have ih := pm_c_44 Q n
    have e0 : 4 * n / 4 = n := by omega
    have e1 : (4 * n + 1) / 4 = n := by omega
    have e2 : (4 * n + 1 + 1) / 4 = n := by omega
    have e3 : (4 * n + 1 + 1 + 1) / 4 = n := by omega
    rw [show 4 * (n + 1) = 4 * n + 1 + 1 + 1 + 1 by omega]
    by_cases h : Q n
    · rw [pm_c_y h, pm_c_y (p := fun a => Q (a / 4)) (by rw [e3]; exact h), pm_c_y (p := fun a => Q (a / 4)) (by rw [e2]; exact h), pm_c_y (p := fun a => Q (a / 4)) (by rw [e1]; exact h), pm_c_y (p := fun a => Q (a / 4)) (by rw [e0]; exact h), ih]; omega
    · rw [pm_c_n h, pm_c_n (p := fun a => Q (a / 4)) (by rw [e3]; exact h), pm_c_n (p := fun a => Q (a / 4)) (by rw [e2]; exact h), pm_c_n (p := fun a => Q (a / 4)) (by rw [e1]; exact h), pm_c_n (p := fun a => Q (a / 4)) (by rw [e0]; exact h), ih]
theorem be_it (k a : Nat) : pm_it na_beside k a = 4 * (a / 4) + (a + 3 * k) % 4 := by
  induction k with
  | zero => show a = _; omega
  | succ k ih =>
    show na_beside (pm_it na_beside k a) = _
    rw [ih]; unfold na_beside; omega
theorem be_R (a b : Nat) : pm_R na_beside a b ↔ a / 4 = b / 4 := by
  constructor
  · rintro ⟨k, e⟩; rw [be_it] at e; omega
  · intro e; exact ⟨(4 + a % 4 - b % 4) % 4, by rw [be_it]; omega⟩
theorem be_L (a : Nat) : pm_L (pm_R na_beside) a ↔ a % 4 = 0 := by
  constructor
  · intro h
    rcases Nat.eq_zero_or_pos (a % 4) with z | z
    · exact z
    · exact absurd ((be_R a (4 * (a / 4))).mpr (by omega)) (h _ (by omega))
  · intro h j hj hr; have := (be_R a j).mp hr; omega
/-- fixed-point-free involutions -/
theorem iv_R {N : Nat} {μ : Nat → Nat} (hm : ∀ a, a < N → μ a < N ∧ μ (μ a) = a) {a b : Nat} (ha : a < N) : pm_R μ a b ↔ b = a ∨ b = μ a := by
  have key : ∀ k, pm_it μ k a = a ∨ pm_it μ k a = μ a := by
    intro k
    induction k with
    | zero => exact Or.inl rfl
    | succ k ih =>
      show μ (pm_it μ k a) = a ∨ μ (pm_it μ k a) = μ a
      rcases ih with e | e <;> rw [e]
      · exact Or.inr rfl
      · exact Or.inl (hm a ha).2
  constructor
  · rintro ⟨k, e⟩; rw [← e]; exact key k
  · rintro (e | e) <;> rw [e]
    · exact pm_R.rf
    · exact pm_R.st
theorem iv_half {N : Nat} {μ : Nat → Nat} {Q : Nat → Prop} (hm : ∀ a, a < N → μ a < N ∧ μ (μ a) = a ∧ μ a ≠ a) (hQ : ∀ a, a < N → (Q (μ a) ↔ Q a)) : 2 * pm_c (fun a => pm_L (pm_R μ) a ∧ Q a) N = pm_c Q N := by
  have hL : ∀ a, a < N → (pm_L (pm_R μ) a ↔ a < μ a) := fun a ha => by
    obtain ⟨m1, m2, m3⟩ := hm a ha
    constructor
    · intro h
      rcases Nat.lt_or_ge a (μ a) with z | z
      · exact z
      · exact absurd pm_R.st (h (μ a) (by omega))
    · intro h j hj hr
      rcases (iv_R (fun a ha => ⟨(hm a ha).1, (hm a ha).2.1⟩) ha).mp hr with e | e <;> omega
  have e1 : pm_c (fun a => pm_L (pm_R μ) a ∧ Q a) N = pm_c (fun a => Q a ∧ a < μ a) N := pm_c_congr (fun a ha => by rw [hL a ha]; exact And.comm)
  have e2 : pm_c (fun a => Q a ∧ a < μ a) N = pm_c (fun a => Q a ∧ ¬ a < μ a) N := by
    refine Nat.le_antisymm (pm_c_inj_le (g := μ) (fun i hi q => ?_) (fun i j hi hj _ _ e => ?_)) (pm_c_inj_le (g := μ) (fun i hi q => ?_) (fun i j hi hj _ _ e => ?_))
    · obtain ⟨m1, m2, m3⟩ := hm i hi; exact ⟨m1, (hQ i hi).mpr q.1, by rw [m2]; omega⟩
    · rw [← (hm i hi).2.1, e, (hm j hj).2.1]
    · obtain ⟨m1, m2, m3⟩ := hm i hi; exact ⟨m1, (hQ i hi).mpr q.1, by rw [m2]; omega⟩
    · rw [← (hm i hi).2.1, e, (hm j hj).2.1]
  have := pm_c_split Q (fun a => a < μ a) N
  omega
/-! Euler's inequality within a closed set -/
noncomputable def cutf (Q : Nat → Prop) (g : Nat → Nat) (i : Nat) : Nat := @ite Nat (Q i) (Classical.propDecidable _) (g i) i
theorem cutf_y {Q : Nat → Prop} {g : Nat → Nat} {i : Nat} (h : Q i) : cutf Q g i = g i := by unfold cutf; rw [if_pos h]
theorem cutf_n {Q : Nat → Prop} {g : Nat → Nat} {i : Nat} (h : ¬ Q i) : cutf Q g i = i := by unfold cutf; rw [if_neg h]
theorem cutf_P {N : Nat} {Q : Nat → Prop} {g : Nat → Nat} (hg : pm_P N g) (hQ : ∀ a, a < N → (Q (g a) ↔ Q a)) : pm_P N (cutf Q g) := by
  refine ⟨fun i hi => ?_, fun i j hi hj e => ?_⟩
  · by_cases h : Q i
    · rw [cutf_y h]; exact hg.1 i hi
    · rw [cutf_n h]; exact hi
  · by_cases h : Q i <;> by_cases h' : Q j
    · rw [cutf_y h, cutf_y h'] at e; exact hg.2 i j hi hj e
    · rw [cutf_y h, cutf_n h'] at e; exact absurd ((hQ i hi).mpr h) (by rw [e]; exact h')
    · rw [cutf_n h, cutf_y h'] at e; exact absurd ((hQ j hj).mpr h') (by rw [← e]; exact h)
    · rw [cutf_n h, cutf_n h'] at e; exact e
theorem cutf_z {N : Nat} {Q : Nat → Prop} {g : Nat → Nat} (hg : pm_P N g) (hQ : ∀ a, a < N → (Q (g a) ↔ Q a)) : pm_z N (cutf Q g) = pm_c (fun i => pm_L (pm_R g) i ∧ Q i) N + pm_c (fun i => ¬ Q i) N := by
  have hy : ∀ i, i < N → Q i → ∀ k, pm_it (cutf Q g) k i = pm_it g k i ∧ Q (pm_it g k i) := by
    intro i hi q k
    induction k with
    | zero => exact ⟨rfl, q⟩
    | succ k ih =>
      show cutf Q g (pm_it (cutf Q g) k i) = g (pm_it g k i) ∧ Q (g (pm_it g k i))
      rw [ih.1, cutf_y ih.2]
      exact ⟨rfl, (hQ _ (pm_it_lt hg hi k)).mpr ih.2⟩
  have hn : ∀ i, ¬ Q i → ∀ k, pm_it (cutf Q g) k i = i := by
    intro i q k
    induction k with
    | zero => rfl
    | succ k ih =>
      show cutf Q g (pm_it (cutf Q g) k i) = i
      rw [ih, cutf_n q]
  have hL : ∀ i, i < N → (pm_L (pm_R (cutf Q g)) i ↔ (Q i → pm_L (pm_R g) i)) := by
    intro i hi
    constructor
    · intro h q j hj ⟨k, e⟩
      exact h j hj ⟨k, by rw [(hy i hi q k).1]; exact e⟩
    · intro h j hj ⟨k, e⟩
      by_cases q : Q i
      · rw [(hy i hi q k).1] at e; exact h q j hj ⟨k, e⟩
      · rw [hn i q k] at e; omega
  unfold pm_z pm_n
  rw [pm_c_split (pm_L (pm_R (cutf Q g))) Q N]
  rw [pm_c_congr (p := fun i => pm_L (pm_R (cutf Q g)) i ∧ Q i) (q := fun i => pm_L (pm_R g) i ∧ Q i) (fun i hi => ⟨fun z => ⟨(hL i hi).mp z.1 z.2, z.2⟩, fun z => ⟨(hL i hi).mpr (fun _ => z.1), z.2⟩⟩)]
  rw [pm_c_congr (p := fun i => pm_L (pm_R (cutf Q g)) i ∧ ¬ Q i) (q := fun i => ¬ Q i) (fun i hi => ⟨fun z => z.2, fun z => ⟨(hL i hi).mpr (fun q => absurd q z), z⟩⟩)]
theorem cut_G {N : Nat} {Q : Nat → Prop} {β μ : Nat → Nat} (hb : ∀ a, a < N → (Q (β a) ↔ Q a)) (hm : ∀ a, a < N → (Q (μ a) ↔ Q a)) : pm_n N (pm_G N (cutf Q β) (cutf Q μ)) = pm_c (fun i => pm_L (pm_G N β μ) i ∧ Q i) N + pm_c (fun i => ¬ Q i) N := by
  have cinv : ∀ {g : Nat → Nat}, (∀ a, a < N → (Q (g a) ↔ Q a)) → ∀ (P : Nat → Prop), (∀ a, a < N → (P (g a) ↔ P a)) → ∀ a, a < N → (P (cutf Q g a) ↔ P a) := by
    intro g _ P h a ha
    by_cases q : Q a
    · rw [cutf_y q]; exact h a ha
    · rw [cutf_n q]
  have hy : ∀ i j, Q i → (pm_G N (cutf Q β) (cutf Q μ) i j ↔ pm_G N β μ i j) := by
    intro i j q
    constructor
    · intro h P p1 p2; exact h P (cinv hb P p1) (cinv hm P p2)
    · intro h P p1 p2
      have inv : ∀ {g : Nat → Nat}, (∀ a, a < N → (Q (g a) ↔ Q a)) → (∀ a, a < N → (P (cutf Q g a) ↔ P a)) → ∀ a, a < N → ((P (g a) ∧ Q (g a)) ↔ (P a ∧ Q a)) := by
        intro g hg hp a ha
        by_cases qa : Q a
        · have := hp a ha
          rw [cutf_y qa] at this
          rw [this, hg a ha]
        · exact ⟨fun z => absurd ((hg a ha).mp z.2) qa, fun z => absurd z.2 qa⟩
      have h1 := h (fun a => P a ∧ Q a) (inv hb p1) (inv hm p2)
      have h2 := (h Q hb hm).mp q
      exact ⟨fun z => (h1.mp ⟨z, q⟩).1, fun z => (h1.mpr ⟨z, h2⟩).1⟩
  have hn : ∀ i j, ¬ Q i → (pm_G N (cutf Q β) (cutf Q μ) i j ↔ i = j) := by
    intro i j q
    constructor
    · intro h
      have inv : ∀ {g : Nat → Nat}, (∀ a, a < N → (Q (g a) ↔ Q a)) → ∀ a, a < N → (i = cutf Q g a ↔ i = a) := by
        intro g hg a ha
        by_cases qa : Q a
        · rw [cutf_y qa]
          exact ⟨fun z => absurd ((hg a ha).mpr qa) (by rw [← z]; exact q), fun z => absurd qa (by rw [← z]; exact q)⟩
        · rw [cutf_n qa]
      exact (h (fun a => i = a) (inv hb) (inv hm)).mp rfl
    · intro e; rw [e]; exact pm_G.rf
  have hL : ∀ i, pm_L (pm_G N (cutf Q β) (cutf Q μ)) i ↔ (Q i → pm_L (pm_G N β μ) i) := by
    intro i
    constructor
    · intro h q j hj hr; exact h j hj ((hy i j q).mpr hr)
    · intro h j hj hr
      by_cases q : Q i
      · exact h q j hj ((hy i j q).mp hr)
      · have := (hn i j q).mp hr; omega
  unfold pm_n
  rw [pm_c_split (pm_L (pm_G N (cutf Q β) (cutf Q μ))) Q N]
  rw [pm_c_congr (p := fun i => pm_L (pm_G N (cutf Q β) (cutf Q μ)) i ∧ Q i) (q := fun i => pm_L (pm_G N β μ) i ∧ Q i) (fun i _ => ⟨fun z => ⟨(hL i).mp z.1 z.2, z.2⟩, fun z => ⟨(hL i).mpr (fun _ => z.1), z.2⟩⟩)]
  rw [pm_c_congr (p := fun i => pm_L (pm_G N (cutf Q β) (cutf Q μ)) i ∧ ¬ Q i) (q := fun i => ¬ Q i) (fun i _ => ⟨fun z => z.2, fun z => ⟨(hL i).mpr (fun q => absurd q z), z⟩⟩)]
theorem eu_Q {N : Nat} {Q : Nat → Prop} {β μ : Nat → Nat} (hβ : pm_P N β) (hμ : pm_P N μ) (hb : ∀ a, a < N → (Q (β a) ↔ Q a)) (hm : ∀ a, a < N → (Q (μ a) ↔ Q a)) : pm_c (fun i => pm_L (pm_R β) i ∧ Q i) N + pm_c (fun i => pm_L (pm_R μ) i ∧ Q i) N + pm_c (fun i => pm_L (pm_R (fun i => β (μ i))) i ∧ Q i) N ≤ pm_c Q N + 2 * pm_c (fun i => pm_L (pm_G N β μ) i ∧ Q i) N := by
  have h := pm_euler0 (cutf_P hβ hb) (cutf_P hμ hm)
  have hbm : ∀ a, a < N → (Q (β (μ a)) ↔ Q a) := fun a ha => (hb _ (hμ.1 a ha)).trans (hm a ha)
  have e : ∀ i, i < N → cutf Q β (cutf Q μ i) = cutf Q (fun i => β (μ i)) i := fun i hi => by
    by_cases q : Q i
    · rw [cutf_y q, cutf_y q, cutf_y ((hm i hi).mpr q)]
    · rw [cutf_n q, cutf_n q, cutf_n q]
  rw [cutf_z hβ hb, cutf_z hμ hm, cut_G hb hm, pm_z_congr (cutf_P (pm_P_comp hβ hμ) hbm) e, cutf_z (pm_P_comp hβ hμ) hbm] at h
  have hN := pm_c_split (fun _ => True) Q N
  rw [pm_c_all (fun _ _ => trivial), pm_c_congr (p := fun i => True ∧ Q i) (q := Q) (fun i _ => ⟨fun z => z.2, fun z => ⟨trivial, z⟩⟩), pm_c_congr (p := fun i => True ∧ ¬ Q i) (q := fun i => ¬ Q i) (fun i _ => ⟨fun z => z.2, fun z => ⟨trivial, z⟩⟩)] at hN
  omega
/-! sums over pieces -/
def pm_s (g : Nat → Nat) : Nat → Nat
  | 0 => 0
  | m + 1 => pm_s g m + g m
theorem pm_s_congr {g g' : Nat → Nat} : ∀ {m : Nat}, (∀ i, i < m → g i = g' i) → pm_s g m = pm_s g' m
  | 0, _ => rfl
  | m + 1, h => by unfold pm_s; rw [pm_s_congr (fun i hi => h i (by omega)), h m (by omega)]
theorem pm_s_inc {g g' : Nat → Nat} {k : Nat} : ∀ {m : Nat}, k < m → (∀ i, i < m → g' i = g i + if i = k then 1 else 0) → pm_s g' m = pm_s g m + 1
  | 0, h, _ => absurd h (Nat.not_lt_zero k)
  | m + 1, h, e => by
    unfold pm_s
    by_cases z : k = m
    · subst z
      rw [pm_s_congr (g := g') (g' := g) (fun i hi => by rw [e i (by omega), if_neg (by omega)]; rfl), e k (by omega), if_pos rfl]; omega
    · rw [pm_s_inc (k := k) (g := g) (by omega) (fun i hi => e i (by omega)), e m (by omega), if_neg (by omega)]; omega
theorem pm_s_part {κ : Nat → Nat} {A : Nat → Prop} {m : Nat} : ∀ {N : Nat}, (∀ a, a < N → κ a < m) → pm_c A N = pm_s (fun k => pm_c (fun a => A a ∧ κ a = k) N) m
  | 0, _ => by
    have : ∀ m, pm_s (fun _ => 0) m = 0 := fun m => by
      induction m with
      | zero => rfl
      | succ m ih => unfold pm_s; rw [ih]
    exact (this m).symm
  | N + 1, h => by
    have ih := pm_s_part (κ := κ) (A := A) (m := m) (N := N) (fun a ha => h a (by omega))
    by_cases ha : A N
    · rw [pm_c_y ha, ih]
      refine (pm_s_inc (k := κ N) (h N (by omega)) (fun i hi => ?_)).symm
      by_cases z : i = κ N
      · rw [if_pos z, pm_c_y (p := fun a => A a ∧ κ a = i) ⟨ha, z.symm⟩]
      · rw [if_neg z, pm_c_n (p := fun a => A a ∧ κ a = i) (fun q => z q.2.symm)]; rfl
    · rw [pm_c_n ha, ih]
      exact pm_s_congr (fun i hi => by rw [pm_c_n (p := fun a => A a ∧ κ a = i) (fun q => ha q.1)])
theorem pm_s_lin {g g1 g2 : Nat → Nat} : ∀ {m : Nat}, (∀ i, i < m → g i = g1 i + 2 * g2 i) → pm_s g m = pm_s g1 m + 2 * pm_s g2 m
  | 0, _ => rfl
  | m + 1, h => by
    unfold pm_s
    rw [pm_s_lin (fun i hi => h i (by omega)), h m (by omega)]; omega
theorem pm_s_eq {g g1 g2 : Nat → Nat} : ∀ {m : Nat}, (∀ i, i < m → g i ≤ g1 i + 2 * g2 i) → pm_s g1 m + 2 * pm_s g2 m ≤ pm_s g m → ∀ i, i < m → g i = g1 i + 2 * g2 i
  | 0, _, _ => fun i hi => absurd hi (Nat.not_lt_zero i)
  | m + 1, h, e => by
    have le : ∀ m', m' ≤ m + 1 → pm_s g m' ≤ pm_s g1 m' + 2 * pm_s g2 m' := by
      intro m'
      induction m' with
      | zero => intro _; exact Nat.le_refl _
      | succ m' ih => intro hm; have h1 := ih (by omega); have h2 := h m' (by omega); unfold pm_s; omega
    have h1 := le m (by omega)
    have h2 := h m (by omega)
    unfold pm_s at e
    intro i hi
    by_cases z : i = m
    · subst z; omega
    · exact pm_s_eq (m := m) (g := g) (g1 := g1) (g2 := g2) (fun i hi => h i (by omega)) (by omega) i (by omega)
