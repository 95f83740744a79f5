/-! The survey: the first thing that is wrong, or all about the diagram. -/
theorem pm_c_nth {p : Nat → Prop} {f : Nat} : ∀ {N : Nat}, f < pm_c p N → ∃ j, j < N ∧ p j ∧ pm_c p j = f := by
  intro N
  induction N with
  | zero => intro h; exact absurd h (Nat.not_lt_zero f)
  | succ N ih =>
    intro h
    by_cases hp : p N
    · rw [pm_c_y hp] at h
      rcases Nat.lt_or_ge f (pm_c p N) with q | q
      · obtain ⟨j, j1, j2, j3⟩ := ih q
        exact ⟨j, by omega, j2, j3⟩
      · exact ⟨N, by omega, hp, by omega⟩
    · rw [pm_c_n hp] at h
      obtain ⟨j, j1, j2, j3⟩ := ih h
      exact ⟨j, by omega, j2, j3⟩
theorem pm_c_skip {p : Nat → Prop} {m j : Nat} (hmj : m ≤ j) (h : ∀ i, m ≤ i → i < j → ¬ p i) : pm_c p j = pm_c p m := by
  induction j with
  | zero => rw [show m = 0 by omega]
  | succ j ih =>
    rcases Nat.lt_or_ge j m with q | q
    · rw [show m = j + 1 by omega]
    · rw [pm_c_n (h j q (by omega)), ih q (fun i a b => h i a (by omega))]
theorem pm_c_gap {p : Nat → Prop} {m j : Nat} (hmj : m ≤ j) (e : pm_c p j = pm_c p m) : ∀ i, m ≤ i → i < j → ¬ p i := by
  intro i h1 h2 hp
  have a := pm_c_mono p h1
  have b := pm_c_lt h2 hp
  omega
noncomputable def FC (f : Nat → Int) (c n : Nat) (sg lb : Nat → Int) (k : Nat) : Nat := pm_c (fun j => pm_L (pm_R (pi_d f c sg lb (4 * n))) j ∧ pr_L n lb (is sg lb (4 * n) (f (j / 2)) / 4) k) (2 * c)
noncomputable def NC (n : Nat) (lb : Nat → Int) (k : Nat) : Nat := pm_c (fun x => pr_L n lb x k) n
theorem gp_num {t : gt_T} {N x k : Nat} {r : Nat → Nat → Prop} (E : pm_E N r) (h : gp_ok t N r) (hx : x < N) (hk : k < N) (hl : pm_L r k) : t.2 1 x = (pm_c (pm_L r) k : Int) ↔ r x k := by
  obtain ⟨j, j1, j2, j3⟩ := pm_least E hx
  have e := h.2.2 x j hx (by omega) j2 j3
  constructor
  · intro q
    rw [e] at q
    have : j = k := by
      rcases Nat.lt_trichotomy j k with z | z | z
      · have := pm_c_lt z j3; omega
      · exact z
      · have := pm_c_lt z hl; omega
    rw [← this]; exact j2
  · intro q
    rw [e, pm_least_eq E hx (by omega) hk j2 q j3 hl]
theorem sX0_pieceOfEdge {rw ed pc ar cm sf fc ow : gt_T} {n c i : Nat} (h : ch_E rw ed n c) (hpc : gp_ok pc n (pr_L n (rw.2 1))) (hi : i < c) : fX0_pieceOfEdge (rw, ed, pc, ar, cm, sf, fc, ow) (i : Int) = some (pc.2 1 (is (rw.2 0) (rw.2 1) (4 * n) (ed.2 0 i) / 4)) := by
  have hn := h.1.2.1
  have hc := h.2.2.2.2.1
  have i1 := (ch_is h hi).1
  unfold fX0_pieceOfEdge
  simp only
  rw [sX1_to h.2.2.1 (by omega) hi]
  simp only [Option.bind_some]
  rw [(h.2.2.2.2.2.1 i hi).2, show Int.tdiv ((is (rw.2 0) (rw.2 1) (4 * n) (ed.2 0 i) : Nat) : Int) (4 : Int) = ((is (rw.2 0) (rw.2 1) (4 * n) (ed.2 0 i) / 4 : Nat) : Int) from na_td _ 4, sX2_numberOf hpc.1.1 (by omega) (by omega)]
  rfl
theorem sX0_facesLess {rw ed pc ar cm sf fc ow : gt_T} {n c k : Nat} (h : ch_E rw ed n c) (hpc : gp_ok pc n (pr_L n (rw.2 1))) (hfc : rd_ok fc (2 * c) (pi_d (ed.2 0) c (rw.2 0) (rw.2 1) (4 * n))) (hk : k < n) (hl : pm_L (pr_L n (rw.2 1)) k) : fX0_facesLessCrossings (rw, ed, pc, ar, cm, sf, fc, ow) (pm_c (pm_L (pr_L n (rw.2 1))) k : Int) = some ((FC (ed.2 0) c n (rw.2 0) (rw.2 1) k : Int) - (NC n (rw.2 1) k : Int)) := by
  have hn := h.1.2.1
  have hc := h.2.2.2.2.1
  have hz := pm_z_le (2 * c) (pi_d (ed.2 0) c (rw.2 0) (rw.2 1) (4 * n))
  have hFC : FC (ed.2 0) c n (rw.2 0) (rw.2 1) k ≤ 2 * c := pm_c_le _ _
  have E := pr_E n n (rw.2 1)
  unfold fX0_facesLessCrossings
  refine wp_get ?_
  refine wp_loop (fun a => ∃ fno m : Nat, a.1 = (pm_c (pm_L (pr_L n (rw.2 1))) k : Int) ∧ a.2.2 = (fno : Int) ∧ m ≤ 2 * c ∧ pm_c (pm_L (pm_R (pi_d (ed.2 0) c (rw.2 0) (rw.2 1) (4 * n)))) m = fno ∧ a.2.1 = (pm_c (fun j => pm_L (pm_R (pi_d (ed.2 0) c (rw.2 0) (rw.2 1) (4 * n))) j ∧ pr_L n (rw.2 1) (is (rw.2 0) (rw.2 1) (4 * n) (ed.2 0 (j / 2)) / 4) k) m : Int)) (fun a => 200 - a.2.2.toNat) ?_ ⟨0, 0, rfl, rfl, Nat.zero_le _, rfl, rfl⟩ (by rw [gt_fuel_eq]; omega)
  intro kk ⟨x, y, w⟩ ⟨fno, m, e1, e2, hm, e3, e4⟩ ih
  simp only at e1 e2 e4
  subst e1; subst e2; subst e4
  have hfno := pm_c_le (pm_L (pm_R (pi_d (ed.2 0) c (rw.2 0) (rw.2 1) (4 * n)))) m
  have hbal := pm_c_le (fun j => pm_L (pm_R (pi_d (ed.2 0) c (rw.2 0) (rw.2 1) (4 * n))) j ∧ pr_L n (rw.2 1) (is (rw.2 0) (rw.2 1) (4 * n) (ed.2 0 (j / 2)) / 4) k) m
  unfold fX0_facesLessCrossings_4
  simp only
  refine wp_eq (show fX3_count fc = some (fc.1 5) from rfl) ?_
  rw [hfc.2.2.1]
  refine wp_if (fun c1 => ?_) (fun c1 => ?_)
  · -- all faces counted
    have hmono := pm_c_mono (pm_L (pm_R (pi_d (ed.2 0) c (rw.2 0) (rw.2 1) (4 * n)))) hm
    have hzz : pm_z (2 * c) (pi_d (ed.2 0) c (rw.2 0) (rw.2 1) (4 * n)) = pm_c (pm_L (pm_R (pi_d (ed.2 0) c (rw.2 0) (rw.2 1) (4 * n)))) (2 * c) := rfl
    have gap := pm_c_gap (p := pm_L (pm_R (pi_d (ed.2 0) c (rw.2 0) (rw.2 1) (4 * n)))) hm (by omega)
    have eF : pm_c (fun j => pm_L (pm_R (pi_d (ed.2 0) c (rw.2 0) (rw.2 1) (4 * n))) j ∧ pr_L n (rw.2 1) (is (rw.2 0) (rw.2 1) (4 * n) (ed.2 0 (j / 2)) / 4) k) m = FC (ed.2 0) c n (rw.2 0) (rw.2 1) k := (pm_c_skip hm (fun i a b q => gap i a b q.1)).symm
    rw [eF]
    refine wp_loop (fun a => ∃ x : Nat, a.1 = (pm_c (pm_L (pr_L n (rw.2 1))) k : Int) ∧ a.2.2 = (x : Int) ∧ x ≤ n ∧ a.2.1 = (FC (ed.2 0) c n (rw.2 0) (rw.2 1) k : Int) - (pm_c (fun x => pr_L n (rw.2 1) x k) x : Int)) (fun a => 200 - a.2.2.toNat) ?_ ⟨0, rfl, rfl, Nat.zero_le _, by show _ = _ - ((0 : Nat) : Int); simp⟩ (by rw [gt_fuel_eq]; omega)
    intro k2 ⟨x', y', w'⟩ ⟨x, f1, f2, hx, f3⟩ ih2
    simp only at f1 f2 f3
    subst f1; subst f2; subst f3
    have hcx := pm_c_le (fun x => pr_L n (rw.2 1) x k) x
    unfold fX0_facesLessCrossings_44 fX0_facesLessCrossings_70
    simp only
    refine wp_eq (sX4_crossings rw) ?_
    rw [h.1.1]
    refine wp_if (fun c2 => wp_some ?_) (fun c2 => ?_)
    · have : x = n := by omega
      subst this
      rfl
    · refine wp_eq (sX2_numberOf hpc.1.1 (by omega) (by omega)) ?_
      refine wp_if (fun c3 => ?_) (fun c3 => ?_)
      · have hr : pr_L n (rw.2 1) x k := (gp_num E hpc (by omega) hk hl).mp c3
        refine wp_ifp (by omega) ?_
        refine wp_ifp (by omega) ?_
        exact ih2 _ ⟨x + 1, rfl, by simp only; omega, by omega, by simp only; rw [pm_c_y (p := fun x => pr_L n (rw.2 1) x k) hr]; omega⟩ (by simp only; omega)
      · have hr : ¬ pr_L n (rw.2 1) x k := fun q => c3 ((gp_num E hpc (by omega) hk hl).mpr q)
        refine wp_ifp (by omega) ?_
        exact ih2 _ ⟨x + 1, rfl, by simp only; omega, by omega, by simp only; rw [pm_c_n (p := fun x => pr_L n (rw.2 1) x k) hr]⟩ (by simp only; omega)
  · -- the next face
    have hlt : fno < pm_c (pm_L (pm_R (pi_d (ed.2 0) c (rw.2 0) (rw.2 1) (4 * n)))) (2 * c) := by
      have : pm_z (2 * c) (pi_d (ed.2 0) c (rw.2 0) (rw.2 1) (4 * n)) = pm_c (pm_L (pm_R (pi_d (ed.2 0) c (rw.2 0) (rw.2 1) (4 * n)))) (2 * c) := rfl
      omega
    obtain ⟨j, j1, j2, j3⟩ := pm_c_nth hlt
    have hmj : m ≤ j := by
      rcases Nat.lt_or_ge j m with q | q
      · have := pm_c_lt q j2; omega
      · exact q
    have gap := pm_c_gap (p := pm_L (pm_R (pi_d (ed.2 0) c (rw.2 0) (rw.2 1) (4 * n)))) hmj (by omega)
    have eb := pm_c_skip (p := fun j => pm_L (pm_R (pi_d (ed.2 0) c (rw.2 0) (rw.2 1) (4 * n))) j ∧ pr_L n (rw.2 1) (is (rw.2 0) (rw.2 1) (4 * n) (ed.2 0 (j / 2)) / 4) k) hmj (fun i a b q => gap i a b q.1)
    refine wp_eq (sX3_first hfc.2.2.1 (by omega) (by omega)) ?_
    have hfst := (hfc.2.2.2.2 j j1 j2).1
    rw [j3] at hfst
    rw [hfst, show Int.tdiv (j : Int) (2 : Int) = ((j / 2 : Nat) : Int) from na_td j 2]
    refine wp_eq (sX0_pieceOfEdge h hpc (by omega)) ?_
    have i1 := (ch_is h (show j / 2 < c by omega)).1
    have hjb := pm_c_le (fun j => pm_L (pm_R (pi_d (ed.2 0) c (rw.2 0) (rw.2 1) (4 * n))) j ∧ pr_L n (rw.2 1) (is (rw.2 0) (rw.2 1) (4 * n) (ed.2 0 (j / 2)) / 4) k) j
    unfold fX0_facesLessCrossings_36
    refine wp_if (fun c3 => ?_) (fun c3 => ?_)
    · have hr := (gp_num E hpc (show is (rw.2 0) (rw.2 1) (4 * n) (ed.2 0 (j / 2)) / 4 < n by omega) hk hl).mp c3
      refine wp_ifp (by omega) ?_
      refine wp_ifp (by omega) ?_
      exact ih _ ⟨fno + 1, j + 1, rfl, by simp only; omega, by omega, by rw [pm_c_y j2, j3], by simp only; rw [pm_c_y (p := fun j => pm_L (pm_R (pi_d (ed.2 0) c (rw.2 0) (rw.2 1) (4 * n))) j ∧ pr_L n (rw.2 1) (is (rw.2 0) (rw.2 1) (4 * n) (ed.2 0 (j / 2)) / 4) k) ⟨j2, hr⟩, eb]; rfl⟩ (by simp only; omega)
    · have hr : ¬ pr_L n (rw.2 1) (is (rw.2 0) (rw.2 1) (4 * n) (ed.2 0 (j / 2)) / 4) k := fun q => c3 ((gp_num E hpc (by omega) hk hl).mpr q)
      refine wp_ifp (by omega) ?_
      exact ih _ ⟨fno + 1, j + 1, rfl, by simp only; omega, by omega, by rw [pm_c_y j2, j3], by simp only; rw [pm_c_n (p := fun j => pm_L (pm_R (pi_d (ed.2 0) c (rw.2 0) (rw.2 1) (4 * n))) j ∧ pr_L n (rw.2 1) (is (rw.2 0) (rw.2 1) (4 * n) (ed.2 0 (j / 2)) / 4) k) (fun q => hr q.2), eb]⟩ (by simp only; omega)
def ok3 (f : Nat → Int) (c n : Nat) (sg lb : Nat → Int) (k : Nat) : Prop := pm_L (pr_L n lb) k → FC f c n sg lb k = NC n lb k + 2
theorem sX0_leastNo {rw ed pc ar cm sf fc ow : gt_T} {n c : Nat} (h : ch_E rw ed n c) (hpc : gp_ok pc n (pr_L n (rw.2 1))) (hfc : rd_ok fc (2 * c) (pi_d (ed.2 0) c (rw.2 0) (rw.2 1) (4 * n))) : wp_Q (fun v => (v = -1 ∧ ∀ k, k < n → ok3 (ed.2 0) c n (rw.2 0) (rw.2 1) k) ∨ ∃ k : Nat, k < n ∧ v = (k : Int) ∧ ¬ ok3 (ed.2 0) c n (rw.2 0) (rw.2 1) k ∧ ∀ j, j < k → ok3 (ed.2 0) c n (rw.2 0) (rw.2 1) j) (fX0_leastCrossingOnNoSphere (rw, ed, pc, ar, cm, sf, fc, ow)) := by
  have hn := h.1.2.1
  have E := pr_E n n (rw.2 1)
  unfold fX0_leastCrossingOnNoSphere
  refine wp_loop (fun a => ∃ k : Nat, k ≤ n ∧ a = (k : Int) ∧ ∀ j, j < k → ok3 (ed.2 0) c n (rw.2 0) (rw.2 1) j) (fun a => 200 - a.toNat) ?_ ⟨0, Nat.zero_le n, rfl, fun j q => absurd q (Nat.not_lt_zero j)⟩ (by rw [gt_fuel_eq]; omega)
  intro kk a ⟨k, hk, e1, g⟩ ih
  subst e1
  unfold fX0_leastCrossingOnNoSphere_2 fX0_leastCrossingOnNoSphere_43
  simp only
  refine wp_eq (sX4_crossings rw) ?_
  rw [h.1.1]
  refine wp_if (fun c1 => wp_some (Or.inl ⟨rfl, fun j hj => g j (by omega)⟩)) (fun c1 => ?_)
  have hkn : k < n := by omega
  have next : ok3 (ed.2 0) c n (rw.2 0) (rw.2 1) k → wp_Q (fun v => (v = -1 ∧ ∀ k, k < n → ok3 (ed.2 0) c n (rw.2 0) (rw.2 1) k) ∨ ∃ k : Nat, k < n ∧ v = (k : Int) ∧ ¬ ok3 (ed.2 0) c n (rw.2 0) (rw.2 1) k ∧ ∀ j, j < k → ok3 (ed.2 0) c n (rw.2 0) (rw.2 1) j) (if (-2147483648 ≤ (k : Int) + 1 ∧ (k : Int) + 1 < 2147483648) then kk ((k : Int) + 1) else none) := by
    intro q
    refine wp_ifp (by omega) (ih _ ⟨k + 1, by omega, rfl, fun j hj => ?_⟩ (by omega))
    by_cases z : j = k
    · rw [z]; exact q
    · exact g j (by omega)
  refine wp_eq (sX2_least hpc.1.1 (by omega) hkn) ?_
  obtain ⟨j, j1, j2, j3, j4⟩ := gp_least E hpc.1 hkn
  rw [j4]
  refine wp_if (fun c2 => ?_) (fun c2 => next (fun hl => ?_))
  · have hjk : j = k := by omega
    subst hjk
    refine wp_eq (sX2_numberOf hpc.1.1 (by omega) hkn) ?_
    rw [hpc.2.2 j j hkn hkn (E.1 j hkn) j3]
    refine wp_eq (sX0_facesLess h hpc hfc hkn j3) ?_
    refine wp_if (fun c3 => next (fun _ => by omega)) (fun c3 => wp_some (Or.inr ⟨j, hkn, rfl, fun q => c3 (by have := q j3; omega), g⟩))
  · have : j = k := pm_least_eq E hkn (by omega) hkn j2 (E.1 k hkn) j3 hl
    omega
/-- all about a diagram -/
def ch_ok (T : gx_Ch) (n c : Nat) : Prop := ch_E T.1 T.2.1 n c ∧ gp_ok T.2.2.1 n (pr_L n (T.1.2 1)) ∧ gp_ok T.2.2.2.1 c (cl_r c (fun e => e) (ar_B (T.2.1.2 0) c (T.1.2 0) (T.1.2 1) (4 * n))) ∧ rd_ok T.2.2.2.2.1 c (pi_of (T.2.1.2 0) c (T.1.2 0) (T.1.2 1) (4 * n) na_across) ∧ rd_ok T.2.2.2.2.2.1 c (pi_of (T.2.1.2 0) c (T.1.2 0) (T.1.2 1) (4 * n) (na_seif (T.1.2 0))) ∧ rd_ok T.2.2.2.2.2.2.1 (2 * c) (pi_d (T.2.1.2 0) c (T.1.2 0) (T.1.2 1) (4 * n)) ∧ ∀ k, k < n → ok3 (T.2.1.2 0) c n (T.1.2 0) (T.1.2 1) k
/-- labels that stand twice; labels with both kinds of ends -/
def ok1 (n : Nat) (lb : Nat → Int) (x : Int) : Prop := lb_occ lb (4 * n) x = 2
def ok2 (n : Nat) (sg lb : Nat → Int) (x : Int) : Prop := (∃ a, a < 4 * n ∧ lb a = x ∧ na_out sg a) ∧ ∃ a, a < 4 * n ∧ lb a = x ∧ ¬ na_out sg a
/-- the least label without p -/
def bad_l (n : Nat) (lb : Nat → Int) (p : Int → Prop) (w : Int) : Prop := (∃ a, a < 4 * n ∧ lb a = w) ∧ ¬ p w ∧ ∀ b, b < 4 * n → lb b < w → p (lb b)
theorem bad_of {n c i : Nat} {f lb : Nat → Int} {p : Int → Prop} (hS : ed_S f c lb (4 * n)) (hi : i < c) (h1 : ¬ p (f i)) (h2 : ∀ j, j < i → p (f j)) : bad_l n lb p (f i) := by
  refine ⟨hS.2.2.1 i hi, h1, fun b hb hlt => ?_⟩
  obtain ⟨j, j1, j2⟩ := hS.2.2.2 b hb
  rw [← j2]
  refine h2 j ?_
  rcases Nat.lt_trichotomy j i with q | q | q
  · exact q
  · rw [← j2, q] at hlt; omega
  · have := hS.2.1 i j q j1; omega
theorem bad_uniq {n : Nat} {lb : Nat → Int} {p : Int → Prop} {v w : Int} (h : bad_l n lb p v) (k : bad_l n lb p w) : v = w := by
  obtain ⟨⟨a, a1, a2⟩, h2, h3⟩ := h
  obtain ⟨⟨b, b1, b2⟩, k2, k3⟩ := k
  rcases Int.lt_trichotomy v w with q | q | q
  · exact absurd (by rw [← a2]; exact k3 a a1 (by rw [a2]; exact q)) h2
  · exact q
  · exact absurd (by rw [← b2]; exact h3 b b1 (by rw [b2]; exact q)) k2
/-- what a survey answers: kind of fault and what is wrong -/
def sv_ans (n : Nat) (sg lb : Nat → Int) (v w : Int) : Prop :=
  (v = 1 ∧ bad_l n lb (ok1 n lb) w) ∨ (v = 2 ∧ (∀ a, a < 4 * n → ok1 n lb (lb a)) ∧ bad_l n lb (ok2 n sg lb) w) ∨
  (v = 3 ∧ dg_D n sg lb ∧ ∃ f c, ed_S f c lb (4 * n) ∧ c = 2 * n ∧ ∃ k : Nat, k < n ∧ w = (k : Int) ∧ ¬ ok3 f c n sg lb k ∧ ∀ j, j < k → ok3 f c n sg lb j) ∨
  (v = 0 ∧ w = -1 ∧ dg_D n sg lb ∧ ∃ f c, ed_S f c lb (4 * n) ∧ c = 2 * n ∧ ∀ k, k < n → ok3 f c n sg lb k)
theorem ls_no {p : Nat → Prop} {m : Nat} {v : Int} (h : ls_P p m v) (e : v ≠ -1) : ∃ a, a < m ∧ p a := by
  rcases h with ⟨q, _⟩ | ⟨a, a1, _, a3, _⟩
  · exact absurd q e
  · exact ⟨a, a1, a3⟩
theorem ls_none {p : Nat → Prop} {m : Nat} {v : Int} (h : ls_P p m v) (e : v = -1) : ∀ a, a < m → ¬ p a := by
  rcases h with ⟨_, q⟩ | ⟨a, _, a2, _, _⟩
  · exact q
  · omega
theorem sX0_survey {rw ed pc ar cm sf fc ow : gt_T} {n : Nat} (hr : rw_ok rw n) : wp_Q (fun q => q.1.1 = rw ∧ sv_ans n (rw.2 0) (rw.2 1) q.2 (q.1.2.2.2.2.2.2.2.1 8) ∧ (q.2 = 0 → ∃ c, ch_ok q.1 n c)) (fX0_survey (rw, ed, pc, ar, cm, sf, fc, ow)) := by
  have hn := hr.2.1
  unfold fX0_survey
  simp only
  refine wp_bind (sX1_gatherLabels hr) (fun ⟨e1, v1⟩ ⟨c, hC, hv⟩ => ?_)
  simp only at hC hv
  obtain ⟨h5, hS, ht⟩ := hC
  have lbpos : ∀ i, i < c → e1.2 0 i ≠ -1 := by
    intro i hi
    obtain ⟨a, a1, a2⟩ := hS.2.2.1 i hi
    have := (hr.2.2.2 a a1).1
    rw [← a2]; omega
  simp only [va_up, ↓reduceIte]
  rcases hv with ⟨rfl, h2⟩ | ⟨i, hi, rfl, hbad, hgood⟩
  · refine wp_ifp rfl ?_
    have h2c := ed_twice hS h2
    have hall : ∀ a, a < 4 * n → ok1 n (rw.2 1) (rw.2 1 a) := by
      intro a ha
      obtain ⟨i, i1, i2⟩ := hS.2.2.2 a ha
      show lb_occ _ _ _ = 2
      rw [← i2]; exact h2 i i1
    refine wp_bind (sX1_findEnds hr h5 hS) (fun ⟨e2, v2⟩ ⟨hE, hv2⟩ => ?_)
    simp only at hE hv2 ⊢
    obtain ⟨g5, g0, g4, g23⟩ := hE
    rcases hv2 with ⟨rfl, h3⟩ | ⟨i, hi, rfl, hbad, hgood⟩
    · refine wp_ifp rfl ?_
      have hD : dg_D n (rw.2 0) (rw.2 1) := dg_of hS h2 (fun i hi => ⟨by
        obtain ⟨a, a1, a2, a3⟩ := ls_no (g23 i hi).1 (h3 i hi).1
        exact ⟨a, a1, a2, a3⟩, by
        obtain ⟨a, a1, a2, a3⟩ := ls_no (g23 i hi).2 (h3 i hi).2
        exact ⟨a, a1, a2, a3⟩⟩)
      have hch : ch_E rw e2 n c := by
        refine ⟨hr, hD, g5, by rw [g0]; exact hS, by omega, fun i hi => ?_, fun a ha => ?_⟩
        · rw [g0]
          obtain ⟨a, a1, a2⟩ := ls_no (g23 i hi).1 (h3 i hi).1
          obtain ⟨b, b1, b2⟩ := ls_no (g23 i hi).2 (h3 i hi).2
          exact ⟨lsv_ls a1 a2 (g23 i hi).1, lsv_ls b1 b2 (g23 i hi).2⟩
        · obtain ⟨i, i1, i2, i3⟩ := g4 a ha
          rw [i2, g0, ← i3, er_f hS i1]
      refine wp_bind (sX0_groupPieces hch) (fun q ⟨pc', e, hpc⟩ => ?_)
      subst e
      simp only
      refine wp_bind (sX0_traceFaces hch) (fun q ⟨fc', e, hfc⟩ => ?_)
      subst e
      simp only
      refine wp_bind (sX0_leastNo hch hpc hfc) (fun v3 hv3 => ?_)
      rcases hv3 with ⟨rfl, h3'⟩ | ⟨k, hk, rfl, hbad, hgood⟩
      · refine wp_ifp rfl ?_
        refine wp_bind (sX0_traceStrands hch) (fun q ⟨cm', sf', e, hcm, hsf⟩ => ?_)
        subst e
        simp only
        refine wp_bind (sX0_groupArcs hch hcm) (fun q ⟨ar', e, har⟩ => ?_)
        subst e
        simp only
        refine wp_some ⟨rfl, Or.inr (Or.inr (Or.inr ⟨rfl, by simp [va_up], hD, e2.2 0, c, hch.2.2.2.1, by omega, h3'⟩)), fun _ => ⟨c, hch, hpc, har, hcm, hsf, hfc, h3'⟩⟩
      · refine wp_ifn (by omega) ?_
        refine wp_some ⟨rfl, Or.inr (Or.inr (Or.inl ⟨rfl, hD, e2.2 0, c, hch.2.2.2.1, by omega, k, hk, by simp [va_up], hbad, hgood⟩)), fun q => by simp at q⟩
    · refine wp_ifn (lbpos i hi) ?_
      refine wp_some ⟨rfl, Or.inr (Or.inl ⟨rfl, hall, ?_⟩), fun q => by simp at q⟩
      simp only [va_up, ↓reduceIte]
      refine bad_of hS hi (fun q => ?_) (fun j hj => ⟨by
        obtain ⟨a, a1, a2, a3⟩ := ls_no (g23 j (by omega)).1 (hgood j hj).1
        exact ⟨a, a1, a2, a3⟩, by
        obtain ⟨a, a1, a2, a3⟩ := ls_no (g23 j (by omega)).2 (hgood j hj).2
        exact ⟨a, a1, a2, a3⟩⟩)
      obtain ⟨⟨a, a1, a2, a3⟩, b, b1, b2, b3⟩ := q
      rcases hbad with z | z
      · exact ls_none (g23 i hi).1 z a a1 ⟨a2, a3⟩
      · exact ls_none (g23 i hi).2 z b b1 ⟨b2, b3⟩
  · refine wp_ifn (lbpos i hi) ?_
    refine wp_some ⟨rfl, Or.inl ⟨rfl, ?_⟩, fun q => by simp at q⟩
    simp only [va_up, ↓reduceIte]
    exact bad_of hS hi hbad hgood
