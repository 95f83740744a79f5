/-! The calls that only tell. -/
abbrev SI : List Nat := [7, 8, 13, 19, 20]
abbrev SA : List Nat := [11, 12, 14, 15, 16, 17, 18, 21, 22]
def RLn (D : gx_Dc) (m : gt_T) : Prop := ∃ n p c : Nat, ∃ f : Nat → Int,
  (rw_ok D.1.1 p ∧ m.1 1 = (p : Int) ∧ dsm p (D.1.1.2 0) (D.1.1.2 1) (m.2 3) (m.2 4)) ∧
  (mr n (m.2 9) (m.2 10) ∧ m.1 5 = (n : Int) ∧ ed_S f c (m.2 10) (4 * n) ∧ cv D.2.1 n c f (m.2 9) (m.2 10) ∧ ∀ k, k < n → ok3 f c n (m.2 9) (m.2 10) k) ∧
  (D.2.2.1 2 = m.1 6 ∧ 0 ≤ m.1 6 ∧ m.1 6 + 2 * (n : Int) ≤ 60 ∧ D.2.2.1 3 = m.1 2)
theorem RLn.F {D : gx_Dc} {m m' : gt_T} (h : RLn D m) (f : md_F SI SA m m') : RLn D m' := by
  obtain ⟨n, p, c, g, h1, h2, h3⟩ := h
  refine ⟨n, p, c, g, ?_, ?_, ?_⟩
  · rw [f.1 1 (by decide), f.2 3 (by decide), f.2 4 (by decide)]; exact h1
  · rw [f.1 5 (by decide), f.2 9 (by decide), f.2 10 (by decide)]; exact h2
  · rw [f.1 6 (by decide), f.1 2 (by decide)]; exact h3
theorem rdI {m : gt_T} {v : Int} {o5 : Option Int} {o6 : Option (gt_T × Int)} {is js : List Nat} (h1 : ∀ j ∈ is, j ∈ SI) (h2 : ∀ j ∈ js, j ∈ SA) (h : wp_Q (fun r => r = v) o5) (k : wp_Q (fun q => md_F is js m q.1 ∧ q.2 = v) o6) : wp_Q (fun q => md_F SI SA m q.1 ∧ o5 = some q.2) o6 :=
  wp_mono k (fun q hq => ⟨hq.1.up h1 h2, by rw [hq.2]; exact wp_get h⟩)
section RD
variable {n c : Nat} {sg lb f : Nat → Int} {T : gx_Ch} {t : gt_T}
theorem rn_acr (M : mr n sg lb) (hS : ed_S f c lb (4 * n)) {a : Nat} (ha : a < 4 * n) : rn (pm_R (pi_c f c n sg lb)) (er f (lb (na_across a)) c) = rn (pm_R (pi_c f c n sg lb)) (er f (lb a) c) := by
  have key : ∀ a, a < 4 * n → ¬ na_out sg a → rn (pm_R (pi_c f c n sg lb)) (er f (lb (na_across a)) c) = rn (pm_R (pi_c f c n sg lb)) (er f (lb a) c) := by
    intro a ha ho
    obtain ⟨e1, e2⟩ := er_lb hS ha
    have e3 := (er_lb hS (na_across_lt ha)).1
    have e : pi_c f c n sg lb (er f (lb a) c) = er f (lb (na_across a)) c := by
      unfold pi_c pi_of
      rw [e2, dg_is_i M.2.2.2 ha ho]
    exact ((rn_iff (pm_RE (pcP M hS)) e1 e3).mpr (by rw [← e]; exact pm_R.st)).symm
  by_cases ho : na_out sg a
  · have h1 := key (na_across a) (na_across_lt ha) (fun q => (na_across_out sg a).mp q ho)
    rw [na_across_2] at h1
    exact h1.symm
  · exact key a ha ho
theorem cAt (M : mr n sg lb) (h : cv T n c f sg lb) {a : Nat} (ha : a < 4 * n) : fX1_at T.2.1 (a : Int) = some (er f (lb a) c : Int) := by
  have hn := M.1
  rw [sX1_at _ (by omega), h.2.2.1.2.2 a ha]
theorem cRound (M : mr n sg lb) (hS : ed_S f c lb (4 * n)) (h : cv T n c f sg lb) {i : Nat} (hi : i < c) : fX3_roundOf T.2.2.2.2.1 (i : Int) = some (rn (pm_R (pi_c f c n sg lb)) i : Int) := by
  have hn := M.1
  have hc := ed_c M hS
  have r := h.2.2.2.2.2.1
  rw [sX3_roundOf r.1 (by omega) hi, (r.2.2.1 i hi).2]
theorem cLower (M : mr n sg lb) (hS : ed_S f c lb (4 * n)) (h : cv T n c f sg lb) {k : Nat} (hk : k < n) : fX0_lowerComponent T (k : Int) = some (rn (pm_R (pi_c f c n sg lb)) (er f (lb (4 * k)) c) : Int) := by
  have hn := M.1
  unfold fX0_lowerComponent
  refine wp_get ?_
  refine wp_eq (sX4_lowerIn (by omega)) ?_
  refine wp_eq (cAt M h (show 4 * k < 4 * n by omega)) ?_
  refine wp_eq (cRound M hS h (er_lb hS (show 4 * k < 4 * n by omega)).1) ?_
  exact wp_some rfl
theorem cUpper (M : mr n sg lb) (hS : ed_S f c lb (4 * n)) (h : cv T n c f sg lb) {k : Nat} (hk : k < n) : fX0_upperComponent T (k : Int) = some (rn (pm_R (pi_c f c n sg lb)) (er f (lb (4 * k + 1)) c) : Int) := by
  have hn := M.1
  have hl := na_ui_lt (T.1.2 0) k
  unfold fX0_upperComponent
  refine wp_get ?_
  refine wp_eq (sX4_upperIn h.1 hk) ?_
  have ha : 4 * k + na_ui (T.1.2 0) k < 4 * n := by omega
  refine wp_eq (cAt M h ha) ?_
  refine wp_eq (cRound M hS h (er_lb hS ha).1) ?_
  refine wp_some ?_
  have hu : na_ui (T.1.2 0) k = 1 ∨ na_ui (T.1.2 0) k = 3 := by unfold na_ui; split <;> simp
  rcases hu with e | e
  · rw [e]
  · rw [e, ← rn_acr M hS (show 4 * k + 1 < 4 * n by omega), show na_across (4 * k + 1) = 4 * k + 3 by unfold na_across; omega]
theorem cSign (M : mr n sg lb) (h : cv T n c f sg lb) {k : Nat} (hk : k < n) : fX4_sign T.1 (k : Int) = some (sg k) := by
  rw [sX4_signN h.1 hk, h.2.1.1 k hk]
theorem cSum (M : mr n sg lb) (hS : ed_S f c lb (4 * n)) (h : cv T n c f sg lb) (k j : Nat) : fX0_sumOfSignsUnder T (k : Int) (j : Int) = some (sm_i (sg_u f c n sg lb k j) n) := by
  have hn := M.1
  have b1 : ∀ i, i < n → -1 ≤ sg_u f c n sg lb k j i ∧ sg_u f c n sg lb k j i ≤ 1 := fun i hi => by
    unfold sg_u
    split
    · exact mr_sg M hi
    · decide
  unfold fX0_sumOfSignsUnder
  refine wp_get ?_
  refine wp_loop (fun x => ∃ i : Nat, i ≤ n ∧ x.1 = (k : Int) ∧ x.2.1 = (j : Int) ∧ x.2.2.2 = (i : Int) ∧ x.2.2.1 = sm_i (sg_u f c n sg lb k j) i) (fun x => 200 - x.2.2.2.toNat) ?_ ⟨0, Nat.zero_le _, rfl, rfl, rfl, rfl⟩ (by rw [gt_fuel_eq]; omega)
  intro kk ⟨x1, x2, x3, x4⟩ ⟨i, hi, e1, e2, e3, e4⟩ ih
  simp only at e1 e2 e3 e4
  subst e1; subst e2; subst e3; subst e4
  unfold fX0_sumOfSignsUnder_5 fX0_sumOfSignsUnder_49
  simp only
  refine wp_eq (sX4_crossings T.1) ?_
  rw [h.1.1]
  refine wp_if (fun c1 => wp_some ?_) (fun c1 => ?_)
  · rw [show i = n by omega]
  · have hin : i < n := by omega
    have h1 := sm_i_b (g := sg_u f c n sg lb k j) (m := i) (fun k hk => b1 k (show k < n by omega))
    have h2 := b1 i hin
    refine wp_eq (cLower M hS h hin) ?_
    refine wp_if (fun c2 => ?_) (fun c2 => ?_)
    · refine wp_eq (cUpper M hS h hin) ?_
      refine wp_if (fun c3 => ?_) (fun c3 => ?_)
      · have ev : sg_u f c n sg lb k j i = sg i := by unfold sg_u; rw [if_pos ⟨by omega, by omega⟩]
        refine wp_eq (cSign M h hin) ?_
        refine wp_ifp (by omega) (wp_ifp (by omega) ?_)
        exact ih _ ⟨i + 1, by omega, rfl, rfl, by simp only; omega, by simp only; rw [← ev]; rfl⟩ (by simp only; omega)
      · have ev : sg_u f c n sg lb k j i = 0 := by unfold sg_u; rw [if_neg (by omega)]
        refine wp_ifp (by omega) ?_
        exact ih _ ⟨i + 1, by omega, rfl, rfl, by simp only; omega, by simp only; show _ = sm_i (sg_u f c n sg lb k j) i + sg_u f c n sg lb k j i; omega⟩ (by simp only; omega)
    · have ev : sg_u f c n sg lb k j i = 0 := by unfold sg_u; rw [if_neg (by omega)]
      refine wp_ifp (by omega) ?_
      exact ih _ ⟨i + 1, by omega, rfl, rfl, by simp only; omega, by simp only; show _ = sm_i (sg_u f c n sg lb k j) i + sg_u f c n sg lb k j i; omega⟩ (by simp only; omega)
theorem sg_ut {k j : Nat} (h : k ≠ j) : sm_i (sg_u f c n sg lb k j) n + sm_i (sg_u f c n sg lb j k) n = sm_i (sg_t f c n sg lb k j) n := by
  rw [sm_i_add]
  refine sm_i_congr (fun i _ => ?_)
  unfold sg_u sg_t
  generalize rn (pm_R (pi_c f c n sg lb)) (er f (lb (4 * i)) c) = A
  generalize rn (pm_R (pi_c f c n sg lb)) (er f (lb (4 * i + 1)) c) = B
  by_cases h1 : A = k ∧ B = j
  · rw [if_pos h1, if_neg (by omega), if_pos (Or.inl h1)]; omega
  · by_cases h2 : A = j ∧ B = k
    · rw [if_neg h1, if_pos h2, if_pos (Or.inr h2)]; omega
    · rw [if_neg h1, if_neg h2, if_neg (by omega)]; omega
theorem sg_uu (k : Nat) : sm_i (sg_u f c n sg lb k k) n = sm_i (sg_t f c n sg lb k k) n := by
  refine sm_i_congr (fun i _ => ?_)
  unfold sg_u sg_t
  by_cases h1 : rn (pm_R (pi_c f c n sg lb)) (er f (lb (4 * i)) c) = k ∧ rn (pm_R (pi_c f c n sg lb)) (er f (lb (4 * i + 1)) c) = k
  · rw [if_pos h1, if_pos (Or.inl h1)]
  · rw [if_neg h1, if_neg (by omega)]
theorem sg_t0 (M : mr n sg lb) (hS : ed_S f c lb (4 * n)) {k j : Nat} (h : pm_z c (pi_c f c n sg lb) ≤ k ∨ pm_z c (pi_c f c n sg lb) ≤ j) : sm_i (sg_t f c n sg lb k j) n = 0 := by
  have E := pm_RE (pcP M hS)
  have hz : ∀ m, m ≤ n → sm_i (sg_t f c n sg lb k j) m = 0 := by
    intro m
    induction m with
    | zero => intro _; rfl
    | succ m ih =>
      intro hm
      have h1 := rn_lt E (er_lb hS (show 4 * m < 4 * n by omega)).1
      have h2 := rn_lt E (er_lb hS (show 4 * m + 1 < 4 * n by omega)).1
      have e : pm_n c (pm_R (pi_c f c n sg lb)) = pm_z c (pi_c f c n sg lb) := rfl
      rw [e] at h1 h2
      unfold sm_i
      rw [ih (by omega)]
      unfold sg_t
      rw [if_neg (by omega)]; rfl
  exact hz n (Nat.le_refl n)
theorem cSigns (M : mr n sg lb) (h : cv T n c f sg lb) : fX4_sumOfSigns T.1 = some (sm_i sg n) := by
  have hn := M.1
  unfold fX4_sumOfSigns
  refine wp_get ?_
  refine wp_loop (fun x => ∃ i : Nat, i ≤ n ∧ x.2 = (i : Int) ∧ x.1 = sm_i sg i) (fun x => 200 - x.2.toNat) ?_ ⟨0, Nat.zero_le _, rfl, rfl⟩ (by rw [gt_fuel_eq]; omega)
  intro kk ⟨x3, x4⟩ ⟨i, hi, e3, e4⟩ ih
  simp only at e3 e4
  subst e3; subst e4
  unfold fX4_sumOfSigns_4
  simp only
  rw [Int.toNat_natCast, h.1.1]
  refine wp_if (fun c1 => wp_some ?_) (fun c1 => ?_)
  · rw [show i = n by omega]
  · have h1 := sm_i_b (g := sg) (m := i) (fun k hk => mr_sg M (show k < n by omega))
    have h2 := mr_sg M (show i < n by omega)
    rw [h.2.1.1 i (by omega)]
    refine wp_ifp (by omega) ?_
    exact ih _ ⟨i + 1, by omega, by simp only; omega, rfl⟩ (by simp only; omega)
theorem cAlt (M : mr n sg lb) (hS : ed_S f c lb (4 * n)) (h : cv T n c f sg lb) : wp_Q (fun v => (v = 1 ∧ ∀ i, i < c → os sg lb (4 * n) (f i) % 2 ≠ is sg lb (4 * n) (f i) % 2) ∨ (v = 0 ∧ ∃ i, i < c ∧ os sg lb (4 * n) (f i) % 2 = is sg lb (4 * n) (f i) % 2)) (fX1_alternate T.2.1) := by
  have hn := M.1
  have hc := ed_c M hS
  unfold fX1_alternate
  refine wp_loop (fun x => ∃ i : Nat, i ≤ c ∧ x = (i : Int) ∧ ∀ j, j < i → os sg lb (4 * n) (f j) % 2 ≠ is sg lb (4 * n) (f j) % 2) (fun x => 200 - x.toNat) ?_ ⟨0, Nat.zero_le _, rfl, fun j hj => absurd hj (Nat.not_lt_zero j)⟩ (by rw [gt_fuel_eq]; omega)
  intro kk x ⟨i, hi, e, g⟩ ih
  subst e
  unfold fX1_alternate_2
  rw [h.2.2.1.1]
  refine wp_if (fun c1 => ?_) (fun c1 => ?_)
  · refine wp_ifp (by decide) (wp_some (Or.inl ⟨rfl, fun j hj => g j (by omega)⟩))
  · have hic : i < c := by omega
    obtain ⟨g0, g1, g2⟩ := h.2.2.1.2.1 i hic
    refine wp_ifp (by omega) ?_
    rw [Int.toNat_natCast, g1, g2]
    refine wp_eq (sX4_isUpper _) ?_
    refine wp_ifp (by omega) ?_
    refine wp_eq (sX4_isUpper _) ?_
    refine wp_if (fun c2 => wp_ifp (by decide) (wp_some (Or.inr ⟨rfl, i, hic, ?_⟩))) (fun c2 => wp_ifp (by omega) (ih _ ⟨i + 1, by omega, by omega, fun j hj => ?_⟩ (by omega)))
    · split at c2 <;> split at c2 <;> omega
    · by_cases z : j = i
      · rw [z]; split at c2 <;> split at c2 <;> omega
      · exact g j (by omega)
theorem cMember (t : gt_T) {N : Nat} {π : Nat → Nat} (hP : pm_P N π) (hN : N ≤ 80) (h : rdv t N π) {k i : Nat} (hk : k < pm_z N π) : ∃ j p : Nat, j < N ∧ pm_L (pm_R π) j ∧ pm_c (pm_L (pm_R π)) j = k ∧ p ≤ N ∧ pm_o π j p ∧ fX3_size t (k : Int) = some (p : Int) ∧ fX3_first t (k : Int) = some (j : Int) ∧ (i < p → fX3_member t (k : Int) (i : Int) = some (pm_it π i j : Int)) := by
  obtain ⟨h4, h5, hn, hr⟩ := h
  obtain ⟨j, j1, j2, j3, j4, p, p1, p2, p3⟩ := hr k hk
  have hz : pm_z N π ≤ 80 := Nat.le_trans (pm_z_le N π) hN
  have hf : fX3_first t (k : Int) = some (j : Int) := by rw [sX3_first h5 hz hk, j4]
  refine ⟨j, p, j1, j2, j3, p2, p3, by rw [sX3_size h5 hz hk, p1], hf, fun hip => ?_⟩
  unfold fX3_member
  refine wp_get ?_
  refine wp_eq hf ?_
  refine wp_loop (fun x => ∃ q : Nat, q ≤ i ∧ x.1 = (i : Int) ∧ x.2.1 = (pm_it π q j : Int) ∧ x.2.2 = (q : Int)) (fun x => 200 - x.2.2.toNat) ?_ ⟨0, Nat.zero_le _, rfl, rfl, rfl⟩ (by rw [gt_fuel_eq]; omega)
  intro kk ⟨x1, x2, x3⟩ ⟨q, hq, e1, e2, e3⟩ ih
  simp only at e1 e2 e3
  subst e1; subst e2; subst e3
  have hlt := pm_it_lt hP j1 q
  unfold fX3_member_9 fX3_member_34
  simp only
  refine wp_if (fun c1 => wp_some ?_) (fun c1 => ?_)
  · rw [show q = i by omega]
  · refine wp_ifn (by omega) ?_
    refine wp_eq (sX3_next h4 hN hlt) ?_
    rw [(hn _ hlt).1]
    refine wp_ifp (by omega) ?_
    exact ih _ ⟨q + 1, by omega, rfl, rfl, by simp only; omega⟩ (by simp only; omega)
theorem cLab (M : mr n sg lb) (hS : ed_S f c lb (4 * n)) (h : cv T n c f sg lb) {i : Nat} (hi : i < c) : fX1_label T.2.1 (i : Int) = some (f i) := by
  have hn := M.1
  have hc := ed_c M hS
  rw [sX1_label h.2.2.1.1 (by omega) hi, (h.2.2.1.2.1 i hi).1]
end RD
theorem oMany {D : gx_Dc} {m : gt_T} (h : RLn D m) (x : Int) : wp_Q (fun q => md_F SI SA m q.1 ∧ fX5_many D x = some q.2) (fX6_many m x) := by
  obtain ⟨n, p, c, f, ⟨hp1, hp2, hp3⟩, ⟨M, h5, hS, hV, _⟩, ⟨hc1, hc2, hc3, hw⟩⟩ := h
  have S : mst m n (m.2 9) (m.2 10) := ⟨h5, rfl, rfl⟩
  generalize m.2 9 = sg at *
  generalize m.2 10 = lb at *
  have hn := M.1
  have hc := ed_c M hS
  have hz1 := pm_z_le c (pi_c f c n sg lb)
  have hz2 := pm_z_le c (pi_s f c n sg lb)
  have hz3 := pm_n_le n (pr_L n lb)
  have hz4 := pm_n_le c (ar_r f c n sg lb)
  unfold fX6_many
  refine wp_if (fun d => ?_) (fun d0 => ?_)
  · subst d
    refine rdI (v := (n : Int)) (is := []) (js := []) (by simp) (by simp) (wp_ifp rfl (wp_eq (sX4_crossings _) (wp_some hV.1.1))) (wp_some ⟨md_F.rf, h5⟩)
  refine wp_if (fun d => ?_) (fun d1 => ?_)
  · subst d
    refine rdI (v := (c : Int)) (is := []) (js := []) (by simp) (by simp) (wp_ifn d0 (wp_ifp rfl (wp_eq (show fX1_count _ = some _ from rfl) (wp_some hV.2.2.1.1)))) (wp_ifp (by omega) (wp_some ⟨md_F.rf, by simp only; omega⟩))
  refine wp_if (fun d => ?_) (fun d2 => ?_)
  · subst d
    refine rdI (v := (pm_z c (pi_c f c n sg lb) : Int) + m.1 6) (is := [13, 19]) (js := [14, 21]) (by decide) (by decide) (wp_ifn d0 (wp_ifn d1 (wp_ifp rfl (wp_eq (show fX3_count _ = some _ from rfl) ?_)))) ?_
    · rw [hV.2.2.2.2.2.1.2.1, hc1]
      exact wp_ifp (by omega) (wp_some rfl)
    · unfold fX6_allComponents
      refine wp_bind (P1 := fun q => md_F [13, 19] [14, 21] m q.1 ∧ q.2 = (pm_z c (pi_c f c n sg lb) : Int) + m.1 6) (wp_bind (mComponents M hS S) (fun t1 ⟨hF, g⟩ => ?_)) (fun q hq => wp_some hq)
      rw [g.2.2.1, hF.1 6 (by decide)]
      exact wp_ifp (by omega) (wp_some ⟨hF, rfl⟩)
  refine wp_if (fun d => ?_) (fun d3 => ?_)
  · subst d
    refine rdI (v := (pm_n n (pr_L n lb) : Int) + m.1 6) (is := []) (js := [18]) (by decide) (by decide) (wp_ifn d0 (wp_ifn d1 (wp_ifn d2 (wp_ifp rfl (wp_eq (show fX2_count _ = some _ from rfl) ?_))))) ?_
    · rw [hV.2.2.2.1.2.1, hc1]
      exact wp_ifp (by omega) (wp_some rfl)
    · refine wp_bind (mPieces M S) (fun q hq => ?_)
      rw [hq.2, hq.1.1 6 (by decide)]
      exact wp_ifp (by omega) (wp_some ⟨hq.1, rfl⟩)
  refine wp_if (fun d => ?_) (fun d4 => ?_)
  · subst d
    refine rdI (v := m.1 6) (is := []) (js := []) (by simp) (by simp) (wp_ifn d0 (wp_ifn d1 (wp_ifn d2 (wp_ifn d3 (wp_ifp rfl (wp_some hc1)))))) (wp_some ⟨md_F.rf, rfl⟩)
  refine wp_if (fun d => ?_) (fun d5 => ?_)
  · subst d
    refine rdI (v := sm_i sg n) (is := []) (js := []) (by simp) (by simp) (wp_ifn d0 (wp_ifn d1 (wp_ifn d2 (wp_ifn d3 (wp_ifn d4 (wp_ifp rfl (wp_eq (cSigns M hV) (wp_some rfl)))))))) (wp_eq (mSigns M S) (wp_some ⟨md_F.rf, rfl⟩))
  refine wp_if (fun d => ?_) (fun d6 => ?_)
  · subst d
    refine rdI (v := (pm_z (2 * c) (pi_q f c n sg lb) : Int)) (is := [13, 20]) (js := [14, 22]) (by decide) (by decide) (wp_ifn d0 (wp_ifn d1 (wp_ifn d2 (wp_ifn d3 (wp_ifn d4 (wp_ifn d5 (wp_ifp rfl (wp_eq (show fX3_count _ = some _ from rfl) (wp_some hV.2.2.2.2.2.2.2.2.1))))))))) ?_
    unfold fX6_allFaces
    refine wp_bind (P1 := fun q => md_F [13, 20] [14, 22] m q.1 ∧ q.2 = (pm_z (2 * c) (pi_q f c n sg lb) : Int)) (wp_bind (mFaces M hS S) (fun t1 ⟨hF, g⟩ => wp_some ⟨hF, g.2.2.1⟩)) (fun q hq => wp_some hq)
  refine wp_if (fun d => ?_) (fun d7 => ?_)
  · subst d
    refine rdI (v := m.1 6 + (pm_n c (ar_r f c n sg lb) : Int)) (is := [13]) (js := [14]) (by decide) (by decide) (wp_ifn d0 (wp_ifn d1 (wp_ifn d2 (wp_ifn d3 (wp_ifn d4 (wp_ifn d5 (wp_ifn d6 (wp_ifp rfl (wp_eq (show fX2_count _ = some _ from rfl) ?_))))))))) (wp_bind (mArcs M hS S ⟨hc2, by omega⟩) (fun q hq => wp_some hq))
    rw [hV.2.2.2.2.1.2.1, hc1]
    exact wp_ifp (by omega) (wp_some (by omega))
  refine wp_if (fun d => ?_) (fun d8 => ?_)
  · subst d
    refine rdI (v := m.1 6 + (pm_z c (pi_s f c n sg lb) : Int)) (is := [13]) (js := [14]) (by decide) (by decide) (wp_ifn d0 (wp_ifn d1 (wp_ifn d2 (wp_ifn d3 (wp_ifn d4 (wp_ifn d5 (wp_ifn d6 (wp_ifn d7 (wp_ifp rfl (wp_eq (show fX3_count _ = some _ from rfl) ?_)))))))))) (wp_bind (mSeifert M hS S ⟨hc2, by omega⟩) (fun q hq => wp_some hq))
    rw [hV.2.2.2.2.2.2.1.2.1, hc1]
    exact wp_ifp (by omega) (wp_some (by omega))
  refine wp_if (fun d => ?_) (fun d9 => ?_)
  · subst d
    obtain ⟨v, v1, v2⟩ := mAlt M hS S
    obtain ⟨w, w1, w2⟩ := cAlt M hS hV
    have hvw : v = w := by
      rcases v2 with ⟨a, b⟩ | ⟨a, i, b1, b2⟩ <;> rcases w2 with ⟨a', b'⟩ | ⟨a', i', b1', b2'⟩
      · omega
      · exact absurd b2' (b i' b1')
      · exact absurd b2 (b' i b1)
      · omega
    have hv01 : v = 1 ∨ v = 0 := by rcases v2 with ⟨a, _⟩ | ⟨a, _⟩ <;> omega
    refine rdI (v := v) (is := []) (js := []) (by simp) (by simp) (wp_ifn d0 (wp_ifn d1 (wp_ifn d2 (wp_ifn d3 (wp_ifn d4 (wp_ifn d5 (wp_ifn d6 (wp_ifn d7 (wp_ifn d8 (wp_ifp rfl (wp_eq w1 ?_))))))))))) (wp_eq v1 ?_)
    · exact wp_if (fun e => wp_some (by omega)) (fun e => wp_some (by omega))
    · exact wp_if (fun e => wp_some ⟨md_F.rf, by simp only; omega⟩) (fun e => wp_some ⟨md_F.rf, by simp only; omega⟩)
  refine wp_if (fun d => ?_) (fun d10 => ?_)
  · subst d
    refine rdI (v := (p : Int)) (is := []) (js := []) (by simp) (by simp) (wp_ifn d0 (wp_ifn d1 (wp_ifn d2 (wp_ifn d3 (wp_ifn d4 (wp_ifn d5 (wp_ifn d6 (wp_ifn d7 (wp_ifn d8 (wp_ifn d9 (wp_ifp rfl (wp_eq (sX4_crossings _) (wp_some hp1.1))))))))))))) (wp_some ⟨md_F.rf, hp2⟩)
  · refine rdI (v := -1000) (is := []) (js := []) (by simp) (by simp) (wp_ifn d0 (wp_ifn d1 (wp_ifn d2 (wp_ifn d3 (wp_ifn d4 (wp_ifn d5 (wp_ifn d6 (wp_ifn d7 (wp_ifn d8 (wp_ifn d9 (wp_ifn d10 (wp_some rfl)))))))))))) (wp_some ⟨md_F.rf, rfl⟩)
