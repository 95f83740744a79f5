/-! The reference: its row, places, order of labels. -/
/-- but for these numbers and arrays the state is the same -/
def md_F (is js : List Nat) (T T' : gt_T) : Prop := (∀ j, j ∉ is → T'.1 j = T.1 j) ∧ ∀ j, j ∉ js → T'.2 j = T.2 j
theorem md_F.rf {is js : List Nat} {T : gt_T} : md_F is js T T := ⟨fun _ _ => rfl, fun _ _ => rfl⟩
theorem md_F.tr {is js : List Nat} {T T' T'' : gt_T} (h : md_F is js T T') (k : md_F is js T' T'') : md_F is js T T'' := ⟨fun j hj => (k.1 j hj).trans (h.1 j hj), fun j hj => (k.2 j hj).trans (h.2 j hj)⟩
theorem md_F.up {is js is' js' : List Nat} {T T' : gt_T} (h : md_F is js T T') (h1 : ∀ j ∈ is, j ∈ is') (h2 : ∀ j ∈ js, j ∈ js') : md_F is' js' T T' := ⟨fun j hj => h.1 j (fun q => hj (h1 j q)), fun j hj => h.2 j (fun q => hj (h2 j q))⟩
theorem md_F.i {is js : List Nat} {T T' : gt_T} (h : md_F is js T T') {k : Nat} (hk : k ∈ is) (v : Int) : md_F is js T (va_up T'.1 k v, T'.2) := ⟨fun j hj => by
  simp only [va_up]
  rw [if_neg (fun e : j = k => hj (e ▸ hk))]
  exact h.1 j hj, h.2⟩
theorem md_F.a {is js : List Nat} {T T' : gt_T} (h : md_F is js T T') {k : Nat} (hk : k ∈ js) (v : Nat → Int) : md_F is js T (T'.1, va_up T'.2 k v) := ⟨h.1, fun j hj => by
  simp only [va_up]
  rw [if_neg (fun e : j = k => hj (e ▸ hk))]
  exact h.2 j hj⟩
theorem md_F.ia {is js : List Nat} {T T' : gt_T} (h : md_F is js T T') {k l : Nat} (hk : k ∈ is) (hl : l ∈ js) (v : Int) (w : Nat → Int) : md_F is js T (va_up T'.1 k v, va_up T'.2 l w) := (h.i hk v).a hl w
/-- a row of n crossings in the reference's state -/
def rm_ok (T : gt_T) (n : Nat) : Prop := T.1 5 = (n : Int) ∧ n ≤ 20 ∧ (∀ k, k < n → T.2 9 k = 1 ∨ T.2 9 k = -1) ∧ ∀ a, a < 4 * n → 1 ≤ T.2 10 a ∧ T.2 10 a ≤ 9999
theorem rm_ok.F {T T' : gt_T} {n : Nat} {is js : List Nat} (h : rm_ok T n) (f : md_F is js T T') (h1 : 5 ∉ is) (h2 : 9 ∉ js) (h3 : 10 ∉ js) : rm_ok T' n := by
  unfold rm_ok
  rw [f.1 5 h1, f.2 9 h2, f.2 10 h3]
  exact h
theorem sX6_isOut {T : gt_T} {n a : Nat} (h : rm_ok T n) (ha : a < 4 * n) : (na_out (T.2 9) a ∧ fX6_isOut T (a : Int) = some 1) ∨ (¬ na_out (T.2 9) a ∧ fX6_isOut T (a : Int) = some 0) := by
  have hn := h.2.1
  unfold fX6_isOut fX6_isOut_29 fX6_isOut_26 fX6_isOut_34 na_out
  rw [if_pos (show (0 : Int) ≤ (a : Int) by omega), show Int.tdiv (a : Int) (4 : Int) = ((a / 4 : Nat) : Int) from na_td a 4, Int.toNat_natCast, if_pos (show (0 : Int) ≤ ((a / 4 : Nat) : Int) ∧ ((a / 4 : Nat) : Int) < 20 by omega)]
  by_cases h1 : (a : Int) % 4 = 2
  · left
    rw [if_pos h1]
    exact ⟨Or.inl (by omega), rfl⟩
  · rw [if_neg h1]
    rcases h.2.2.1 (a / 4) (by omega) with e | e
    · have eu : na_uo (T.2 9) (a / 4) = 1 := by unfold na_uo; rw [if_pos e]
      rw [eu, e, if_neg (show ¬ ((1 : Int) ≤ 0) by decide)]
      by_cases h2 : (a : Int) % 4 = 1
      · left; rw [if_pos h2]; exact ⟨Or.inr (by omega), rfl⟩
      · right; rw [if_neg h2]; exact ⟨by omega, rfl⟩
    · have eu : na_uo (T.2 9) (a / 4) = 3 := by unfold na_uo; rw [if_neg (by rw [e]; decide)]
      rw [eu, e, if_pos (show ((-1 : Int) ≤ 0) by decide)]
      by_cases h2 : (a : Int) % 4 = 3
      · left; rw [if_pos h2]; exact ⟨Or.inr (by omega), rfl⟩
      · right; rw [if_neg h2]; exact ⟨by omega, rfl⟩
theorem sX6_isUpper (a : Nat) : fX6_isUpper (a : Int) = some (if a % 2 = 0 then 0 else 1) := by
  unfold fX6_isUpper fX6_isUpper_12
  rw [if_pos (by omega)]
  by_cases h : a % 2 = 0
  · rw [if_neg (by omega), if_pos h]; rfl
  · rw [if_pos (by omega), if_neg h]; rfl
theorem sX6_across {a : Nat} (ha : a < 1000) : fX6_across (a : Int) = some ((na_across a : Nat) : Int) := by
  unfold fX6_across na_across
  rw [show Int.tdiv (a : Int) (4 : Int) = ((a / 4 : Nat) : Int) from na_td a 4, if_pos (by omega)]
  congr 1
  omega
theorem sX6_upperIn {T : gt_T} {n k : Nat} (h : rm_ok T n) (hk : k < n) : fX6_upperIn T (k : Int) = some ((na_ui (T.2 9) k : Nat) : Int) := by
  have hn := h.2.1
  unfold fX6_upperIn fX6_upperIn_14 na_ui
  rw [if_pos (show (0 : Int) ≤ (k : Int) ∧ (k : Int) < 20 by omega), Int.toNat_natCast]
  rcases h.2.2.1 k hk with e | e
  · rw [e, if_neg (by decide), if_pos rfl]; rfl
  · rw [e, if_pos (by decide), if_neg (by decide)]; rfl
theorem sX6_placeOf {T : gt_T} {n : Nat} (h : rm_ok T n) (l o : Int) (ho : o = 0 ∨ o = 1) : wp_Q (fun v => ls_P (fun a => T.2 10 a = l ∧ (na_out (T.2 9) a ↔ o = 1)) (4 * n) v) (fX6_placeOf T l o) := by
  have hn := h.2.1
  unfold fX6_placeOf
  refine wp_loop (fun x => ∃ m : Nat, m ≤ 4 * n ∧ x.1 = l ∧ x.2.1 = o ∧ x.2.2.2 = (m : Int) ∧ ls_P (fun a => T.2 10 a = l ∧ (na_out (T.2 9) a ↔ o = 1)) m x.2.2.1) (fun x => 200 - x.2.2.2.toNat) ?_ ⟨0, Nat.zero_le _, rfl, rfl, rfl, Or.inl ⟨rfl, fun a q => absurd q (Nat.not_lt_zero a)⟩⟩ (by rw [gt_fuel_eq]; omega)
  intro k ⟨x, y, v, z⟩ ⟨m, hm, e1, e2, e3, g⟩ ih
  simp only at e1 e2 e3 g
  subst e1; subst e2; subst e3
  unfold fX6_placeOf_5 fX6_placeOf_42 fX6_placeOf_43
  simp only
  rw [h.1]
  refine wp_ifp (by omega) ?_
  refine wp_if (fun c1 => wp_some ?_) (fun c1 => ?_)
  · rw [show 4 * n = m by omega]; exact g
  · have hmn : m < 4 * n := by omega
    refine wp_ifp (by omega) ?_
    rw [Int.toNat_natCast]
    refine wp_if (fun c2 => ?_) (fun c2 => ?_)
    · rcases sX6_isOut h hmn with ⟨q1, q2⟩ | ⟨q1, q2⟩
      · refine wp_eq q2 ?_
        refine wp_if (fun c3 => wp_ifp (by omega) (ih _ ⟨m + 1, by omega, rfl, rfl, by simp only; omega, ls_P.y ⟨c2, ⟨fun _ => c3.symm, fun _ => q1⟩⟩⟩ (by simp only; omega))) (fun c3 => wp_ifp (by omega) (ih _ ⟨m + 1, by omega, rfl, rfl, by simp only; omega, g.n (fun q => c3 (q.2.mp q1).symm)⟩ (by simp only; omega)))
      · refine wp_eq q2 ?_
        refine wp_if (fun c3 => wp_ifp (by omega) (ih _ ⟨m + 1, by omega, rfl, rfl, by simp only; omega, ls_P.y ⟨c2, ⟨fun z => absurd z q1, fun z => absurd z (by omega)⟩⟩⟩ (by simp only; omega))) (fun c3 => wp_ifp (by omega) (ih _ ⟨m + 1, by omega, rfl, rfl, by simp only; omega, g.n (fun q => q1 (q.2.mpr (by omega)))⟩ (by simp only; omega)))
    · exact wp_ifp (by omega) (ih _ ⟨m + 1, by omega, rfl, rfl, by simp only; omega, g.n (fun q => c2 q.1)⟩ (by simp only; omega))
theorem sX6_placeOf1 {T : gt_T} {n a : Nat} (h : rm_ok T n) (hD : dg_D n (T.2 9) (T.2 10)) (ha : a < 4 * n) : fX6_placeOf T (T.2 10 a) 1 = some (os (T.2 9) (T.2 10) (4 * n) (T.2 10 a) : Int) := by
  obtain ⟨v, e, hv⟩ := sX6_placeOf h (T.2 10 a) 1 (Or.inr rfl)
  obtain ⟨o1, o2, o3⟩ := dg_os hD ha
  rw [e, lsv_ls (p := fun d => T.2 10 d = T.2 10 a ∧ na_out (T.2 9) d) o1 ⟨o2, o3⟩ (hv.congr (fun d _ => ⟨fun q => ⟨q.1, q.2.mpr rfl⟩, fun q => ⟨q.1, ⟨fun _ => rfl, fun _ => q.2⟩⟩⟩))]
  rfl
theorem sX6_placeOf0 {T : gt_T} {n a : Nat} (h : rm_ok T n) (hD : dg_D n (T.2 9) (T.2 10)) (ha : a < 4 * n) : fX6_placeOf T (T.2 10 a) 0 = some (is (T.2 9) (T.2 10) (4 * n) (T.2 10 a) : Int) := by
  obtain ⟨v, e, hv⟩ := sX6_placeOf h (T.2 10 a) 0 (Or.inl rfl)
  obtain ⟨o1, o2, o3⟩ := dg_is hD ha
  rw [e, lsv_ls (p := fun d => T.2 10 d = T.2 10 a ∧ ¬ na_out (T.2 9) d) o1 ⟨o2, o3⟩ (hv.congr (fun d _ => ⟨fun q => ⟨q.1, fun z => absurd (q.2.mp z) (by decide)⟩, fun q => ⟨q.1, ⟨fun z => absurd z q.2, fun z => absurd z (by decide)⟩⟩⟩))]
  rfl
theorem sX6_next {T : gt_T} {n a : Nat} (h : rm_ok T n) (hD : dg_D n (T.2 9) (T.2 10)) (ha : a < 4 * n) : fX6_next T (T.2 10 a) = some (T.2 10 (na_across (is (T.2 9) (T.2 10) (4 * n) (T.2 10 a)))) := by
  have hn := h.2.1
  obtain ⟨o1, o2, o3⟩ := dg_is hD ha
  have o4 := na_across_lt o1
  unfold fX6_next
  refine wp_get (wp_eq (sX6_placeOf0 h hD ha) (wp_eq (sX6_across (by omega)) (wp_ifp (by omega) (wp_some ?_))))
  rw [Int.toNat_natCast]
theorem sX6_sort {T : gt_T} {n : Nat} (h : rm_ok T n) : wp_Q (fun T' => md_F [13] [14] T T' ∧ ∃ c : Nat, T'.1 13 = (c : Int) ∧ ed_S (T'.2 14) c (T.2 10) (4 * n)) (fX6_sort T) := by
  have hn := h.2.1
  unfold fX6_sort
  refine wp_loop (fun x => ∃ m c : Nat, m ≤ 4 * n ∧ x.2 = (m : Int) ∧ md_F [13] [14] T x.1 ∧ x.1.1 13 = (c : Int) ∧ ed_S (x.1.2 14) c (T.2 10) m) (fun x => 200 - x.2.toNat) ?_ ⟨0, 0, Nat.zero_le _, rfl, md_F.rf.i (by decide) 0, by simp only [va_up, ↓reduceIte]; rfl, Nat.le_refl 0, fun i j _ q => absurd q (Nat.not_lt_zero j), fun i q => absurd q (Nat.not_lt_zero i), fun i q => absurd q (Nat.not_lt_zero i)⟩ (by rw [gt_fuel_eq]; omega)
  intro k ⟨t, x⟩ ⟨m, c, hm, e1, hF, g13, hS⟩ ih
  simp only at e1 hF g13 hS
  subst e1
  have hcm := hS.1
  have t5 : t.1 5 = (n : Int) := by rw [hF.1 5 (by decide)]; exact h.1
  have t10 : t.2 10 = T.2 10 := hF.2 10 (by decide)
  unfold fX6_sort_7
  simp only
  rw [t5]
  refine wp_ifp (by omega) ?_
  refine wp_if (fun c1 => wp_some ?_) (fun c1 => ?_)
  · exact ⟨hF, c, g13, by rw [show 4 * n = m by omega]; exact hS⟩
  · have hmn : m < 4 * n := by omega
    -- is the label there?
    refine wp_loop (fun x => ∃ i : Nat, i ≤ c ∧ x.1 = t ∧ x.2.1 = (m : Int) ∧ x.2.2.2 = (i : Int) ∧ ((x.2.2.1 = 0 ∧ ∀ j, j < i → t.2 14 j ≠ T.2 10 m) ∨ (x.2.2.1 = 1 ∧ ∃ j, j < c ∧ t.2 14 j = T.2 10 m))) (fun x => 200 - x.2.2.2.toNat) ?_ ⟨0, Nat.zero_le c, rfl, rfl, rfl, Or.inl ⟨rfl, fun j q => absurd q (Nat.not_lt_zero j)⟩⟩ (by rw [gt_fuel_eq]; omega)
    intro k2 ⟨t2, x2, is, i2⟩ ⟨i, hi, f1, f2, f3, f4⟩ ih2
    simp only at f1 f2 f3 f4
    subst f1; subst f2; subst f3
    unfold fX6_sort_21 fX6_sort_48 fX6_sort_53
    simp only
    rw [g13]
    refine wp_if (fun c2 => ?_) (fun c2 => ?_)
    · refine wp_if (fun c3 => ?_) (fun c3 => ?_)
      · -- new: put it in
        have hnew : ∀ j, j < c → t2.2 14 j ≠ T.2 10 m := by
          rcases f4 with ⟨_, q⟩ | ⟨q, _⟩
          · exact fun j hj => q j (by omega)
          · omega
        refine wp_loop (fun x => ∃ e : Nat, e ≤ c ∧ x.2.1 = (m : Int) ∧ x.2.2 = (e : Int) ∧ md_F [13] [14] T x.1 ∧ x.1.1 13 = (c : Int) ∧ (∀ j, e ≤ j → j < c → T.2 10 m < t2.2 14 j) ∧ (∀ j, j < e → x.1.2 14 j = t2.2 14 j) ∧ ∀ j, e < j → j ≤ c → x.1.2 14 j = t2.2 14 (j - 1)) (fun x => x.2.2.toNat) ?_ ⟨c, Nat.le_refl c, rfl, rfl, hF, g13, fun j q1 q2 => by omega, fun j _ => rfl, fun j q1 q2 => by omega⟩ (by rw [gt_fuel_eq]; simp only; omega)
        intro k3 ⟨t3, x3, e3⟩ ⟨e, he, p1, p2, p3, p4, p5, p6, p7⟩ ih3
        simp only at p1 p2 p3 p4 p5 p6 p7
        subst p1; subst p2
        have u10 : t3.2 10 = T.2 10 := p3.2 10 (by decide)
        have put : (∀ j, j < e → t2.2 14 j < T.2 10 m) → wp_Q (fun T' => md_F [13] [14] T T' ∧ ∃ c : Nat, T'.1 13 = (c : Int) ∧ ed_S (T'.2 14) c (T.2 10) (4 * n)) (fX6_sort_110 k t3 (m : Int) (e : Int)) := by
          intro hlow
          unfold fX6_sort_110 fX6_sort_132
          rw [p4]
          refine wp_ifp (by omega) ?_
          refine wp_ifp (by omega) ?_
          rw [Int.toNat_natCast, Int.toNat_natCast, u10]
          refine ih _ ⟨m + 1, c + 1, by omega, by simp only; omega, p3.ia (by decide) (by decide) _ _, by simp only [va_up, ↓reduceIte]; omega, ?_⟩ (by simp only; omega)
          simp only [va_up, ↓reduceIte]
          refine hS.ins he hlow p5 (fun i hi => ?_) (by simp only [va_up, ↓reduceIte]) (fun i q1 q2 => ?_)
          · simp only [va_up]; rw [if_neg (by omega)]; exact p6 i hi
          · simp only [va_up]; rw [if_neg (by omega)]; exact p7 i q1 q2
        unfold fX6_sort_69
        simp only
        refine wp_if (fun c4 => put (fun j hj => by omega)) (fun c4 => ?_)
        refine wp_ifp (by omega) ?_
        have ee : ((e : Int) - 1).toNat = e - 1 := by omega
        rw [ee, Int.toNat_natCast, u10, p6 (e - 1) (by omega)]
        refine wp_if (fun c5 => put (fun j hj => ?_)) (fun c5 => ?_)
        · have hne := hnew (e - 1) (by omega)
          rcases Nat.lt_or_ge j (e - 1) with q | q
          · have := hS.2.1 j (e - 1) q (by omega); omega
          · rw [show j = e - 1 by omega]; omega
        · refine wp_ifp (by omega) ?_
          rw [Int.toNat_natCast]
          refine ih3 _ ⟨e - 1, by omega, rfl, by simp only; omega, p3.a (by decide) _, p4, fun j q1 q2 => ?_, fun j hj => ?_, fun j q1 q2 => ?_⟩ (by simp only; omega)
          · by_cases q : j = e - 1
            · rw [q]; omega
            · exact p5 j (by omega) q2
          · simp only [va_up, ↓reduceIte]
            rw [if_neg (by omega)]
            exact p6 j (by omega)
          · simp only [va_up, ↓reduceIte]
            by_cases q : j = e
            · rw [if_pos q, q]
            · rw [if_neg q]; exact p7 j (by omega) q2
      · -- it is there
        obtain ⟨r, hr, er⟩ : ∃ j, j < c ∧ t2.2 14 j = T.2 10 m := by
          rcases f4 with ⟨q, _⟩ | ⟨_, q⟩
          · exact absurd q c3
          · exact q
        unfold fX6_sort_132
        refine wp_ifp (by omega) ?_
        exact ih _ ⟨m + 1, c, by omega, by simp only; omega, hF, g13, hS.old hr er⟩ (by simp only; omega)
    · refine wp_if (fun c3 => ?_) (fun c3 => ?_)
      · refine wp_ifp (by omega) ?_
        rw [Int.toNat_natCast, Int.toNat_natCast, t10]
        refine wp_if (fun c4 => ?_) (fun c4 => ?_)
        · refine wp_ifp (by omega) ?_
          exact ih2 _ ⟨i + 1, by omega, rfl, rfl, by simp only; omega, Or.inr ⟨rfl, i, by omega, c4⟩⟩ (by simp only; omega)
        · refine wp_ifp (by omega) ?_
          refine ih2 _ ⟨i + 1, by omega, rfl, rfl, by simp only; omega, Or.inl ⟨rfl, fun j hj => ?_⟩⟩ (by simp only; omega)
          rcases f4 with ⟨_, q⟩ | ⟨q, _⟩
          · by_cases z : j = i
            · rw [z]; exact c4
            · exact q j (by omega)
          · omega
      · refine wp_ifp (by omega) ?_
        rcases f4 with ⟨q, _⟩ | ⟨_, q⟩
        · exact absurd q c3
        · exact ih2 _ ⟨i + 1, by omega, rfl, rfl, by simp only; omega, Or.inr ⟨rfl, q⟩⟩ (by simp only; omega)
theorem sX6_rowOf {T : gt_T} {c i m : Nat} {lb : Nat → Int} (hS : ed_S (T.2 14) c lb m) (hc : c ≤ 80) (hi : i < c) : fX6_rowOf T (T.2 14 i) = some (i : Int) := by
  unfold fX6_rowOf
  refine wp_get ?_
  refine wp_loop (fun x => ∃ j : Nat, j ≤ i ∧ x.1 = T.2 14 i ∧ x.2 = (j : Int)) (fun x => 200 - x.2.toNat) ?_ ⟨0, Nat.zero_le _, rfl, rfl⟩ (by rw [gt_fuel_eq]; omega)
  intro k ⟨x, y⟩ ⟨j, hj, e1, e2⟩ ih
  simp only at e1 e2
  subst e1; subst e2
  unfold fX6_rowOf_2
  simp only
  refine wp_ifp (by omega) ?_
  rw [Int.toNat_natCast]
  refine wp_if (fun c1 => wp_some (by rw [hS.inj (by omega) hi c1])) (fun c1 => ?_)
  refine wp_ifp (by omega) ?_
  refine ih _ ⟨j + 1, ?_, rfl, by simp only; omega⟩ (by simp only; omega)
  rcases Nat.lt_or_ge j i with q | q
  · omega
  · exact absurd (by rw [show j = i by omega]) c1
theorem pm_c_sub {p q : Nat → Prop} : ∀ {n : Nat}, (∀ i, i < n → p i → q i) → pm_c p n ≤ pm_c q n := by
  intro n
  induction n with
  | zero => intro _; exact Nat.le_refl 0
  | succ n ih =>
    intro h
    have h1 := ih (fun i hi => h i (by omega))
    by_cases hp : p n
    · rw [pm_c_y hp, pm_c_y (h n (by omega) hp)]; omega
    · rw [pm_c_n hp]
      by_cases hq : q n
      · rw [pm_c_y hq]; omega
      · rw [pm_c_n hq]; exact h1
