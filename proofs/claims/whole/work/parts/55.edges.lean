/-! Edges: labels in their order, ends. -/
theorem sX1_has (T : gt_T) (x : Int) : fX1_has T x = some (if 0 ≤ x ∧ x < T.1 5 then 1 else 0) := by
  unfold fX1_has fX1_has_16 fX1_has_17
  by_cases h1 : x < 0
  · rw [if_pos h1, if_neg (show ¬ (0 ≤ x ∧ x < T.1 5) by omega)]; rfl
  · rw [if_neg h1]
    by_cases h2 : T.1 5 ≤ x
    · rw [if_pos h2, if_neg (show ¬ (0 ≤ x ∧ x < T.1 5) by omega)]; rfl
    · rw [if_neg h2, if_pos (show 0 ≤ x ∧ x < T.1 5 by omega)]; rfl
noncomputable def lb_occ (lb : Nat → Int) (m : Nat) (x : Int) : Nat := pm_c (fun a => lb a = x) m
/-- f lists the labels of the first m places, each once, in their order -/
def ed_S (f : Nat → Int) (c : Nat) (lb : Nat → Int) (m : Nat) : Prop := c ≤ m ∧ (∀ i j, i < j → j < c → f i < f j) ∧ (∀ i, i < c → ∃ a, a < m ∧ lb a = f i) ∧ ∀ a, a < m → ∃ i, i < c ∧ f i = lb a
theorem ed_S.inj {f : Nat → Int} {c m : Nat} {lb : Nat → Int} (h : ed_S f c lb m) {i j : Nat} (hi : i < c) (hj : j < c) (e : f i = f j) : i = j := by
  rcases Nat.lt_trichotomy i j with q | q | q
  · have := h.2.1 i j q hj; omega
  · exact q
  · have := h.2.1 j i q hi; omega
/-- there is one such list -/
theorem ed_S.uniq {f g : Nat → Int} {c d m : Nat} {lb : Nat → Int} (h : ed_S f c lb m) (k : ed_S g d lb m) : c = d ∧ ∀ i, i < c → f i = g i := by
  have half : ∀ (f g : Nat → Int) (c d : Nat), ed_S f c lb m → ed_S g d lb m → ∀ i, i < c → (∀ j, j < i → f j = g j) → i < d ∧ ∃ q, i ≤ q ∧ q < d ∧ g q = f i := by
    intro f g c d h k i hi hj
    obtain ⟨a, ha, e⟩ := h.2.2.1 i hi
    obtain ⟨q, hq, eq⟩ := k.2.2.2 a ha
    have hqi : i ≤ q := by
      rcases Nat.lt_or_ge q i with z | z
      · have h1 := hj q z
        have h2 := h.2.1 q i z hi
        rw [h1, eq, e] at h2
        omega
      · exact z
    exact ⟨by omega, q, hqi, hq, by rw [eq, e]⟩
  have all : ∀ i, (i < c ∨ i < d) → i < c ∧ i < d ∧ f i = g i := by
    intro i
    induction i using Nat.strongRecOn with
    | _ i ih =>
      intro hi
      have hj : ∀ j, j < i → f j = g j := fun j hj => (ih j hj (by omega)).2.2
      have hjs : ∀ j, j < i → g j = f j := fun j q => (hj j q).symm
      have hic : i < c := by
        rcases hi with q | q
        · exact q
        · exact (half g f d c k h i q hjs).1
      have hid : i < d := (half f g c d h k i hic hj).1
      obtain ⟨-, q1, a1, a2, a3⟩ := half f g c d h k i hic hj
      obtain ⟨-, q2, b1, b2, b3⟩ := half g f d c k h i hid hjs
      refine ⟨hic, hid, ?_⟩
      have e1 : g i ≤ f i := by
        rcases Nat.lt_or_ge i q1 with z | z
        · have := k.2.1 i q1 z a2; omega
        · rw [← a3, show q1 = i by omega]; exact Int.le_refl _
      have e2 : f i ≤ g i := by
        rcases Nat.lt_or_ge i q2 with z | z
        · have := h.2.1 i q2 z b2; omega
        · rw [← b3, show q2 = i by omega]; exact Int.le_refl _
      omega
  refine ⟨?_, fun i hi => (all i (Or.inl hi)).2.2⟩
  rcases Nat.lt_trichotomy c d with q | q | q
  · have := (all c (Or.inr q)).1; omega
  · exact q
  · have := (all d (Or.inl q)).2.1; omega
theorem sX1_countLess {T : gt_T} {c : Nat} (h5 : T.1 5 = (c : Int)) (hc : c ≤ 80) (hs : ∀ i j, i < j → j < c → T.2 0 i < T.2 0 j) (l : Int) : wp_Q (fun v => ∃ r : Nat, v = (r : Int) ∧ r ≤ c ∧ (∀ i, i < r → T.2 0 i < l) ∧ ∀ i, r ≤ i → i < c → l ≤ T.2 0 i) (fX1_countLess T l) := by
  unfold fX1_countLess
  refine wp_loop (fun a => ∃ r : Nat, a.1 = l ∧ a.2 = (r : Int) ∧ r ≤ c ∧ ∀ i, i < r → T.2 0 i < l) (fun a => 200 - a.2.toNat) ?_ ⟨0, rfl, rfl, Nat.zero_le c, fun i hi => absurd hi (Nat.not_lt_zero i)⟩ (by rw [gt_fuel_eq]; omega)
  intro k ⟨x, y⟩ ⟨r, e1, e2, hr, g⟩ ih
  simp only at e1 e2
  subst e1; subst e2
  unfold fX1_countLess_2 fX1_countLess_26
  simp only
  rw [h5]
  refine wp_if (fun c1 => wp_some ⟨r, rfl, hr, g, fun i q1 q2 => by omega⟩) (fun c1 => ?_)
  refine wp_ifp (by omega) ?_
  rw [Int.toNat_natCast]
  refine wp_if (fun c2 => wp_some ⟨r, rfl, hr, g, fun i q1 q2 => ?_⟩) (fun c2 => ?_)
  · rcases Nat.lt_or_ge r i with q | q
    · have := hs r i q q2; omega
    · rw [show i = r by omega]; exact c2
  · refine wp_ifp (by omega) ?_
    refine ih _ ⟨r + 1, rfl, by simp only; omega, by omega, fun i hi => ?_⟩ (by simp only; omega)
    by_cases q : i = r
    · rw [q]; omega
    · exact g i (by omega)
theorem sX1_rank {T : gt_T} {c : Nat} (h5 : T.1 5 = (c : Int)) (hc : c ≤ 80) (hs : ∀ i j, i < j → j < c → T.2 0 i < T.2 0 j) (l : Int) : wp_Q (fun v => (∃ r : Nat, v = (r : Int) ∧ r < c ∧ T.2 0 r = l) ∨ (v = -1 ∧ ∀ i, i < c → T.2 0 i ≠ l)) (fX1_rank T l) := by
  unfold fX1_rank fX1_rank_28 fX1_rank_29
  refine wp_bind (sX1_countLess h5 hc hs l) (fun v ⟨r, e, hr, h1, h2⟩ => ?_)
  subst e
  refine wp_eq (sX1_has T _) ?_
  have none : (∀ i, i < c → T.2 0 i ≠ l) → wp_Q (fun v => (∃ r : Nat, v = (r : Int) ∧ r < c ∧ T.2 0 r = l) ∨ (v = -1 ∧ ∀ i, i < c → T.2 0 i ≠ l)) (some (-1 : Int)) := fun q => wp_some (Or.inr ⟨rfl, q⟩)
  rw [h5]
  by_cases hrc : r < c
  · rw [if_pos (show (0 : Int) ≤ (r : Int) ∧ (r : Int) < (c : Int) by omega)]
    refine wp_ifn (by decide) ?_
    refine wp_ifp (by omega) ?_
    rw [Int.toNat_natCast]
    refine wp_if (fun c1 => wp_some (Or.inl ⟨r, rfl, hrc, c1⟩)) (fun c1 => none (fun i hi e => ?_))
    rcases Nat.lt_trichotomy i r with q | q | q
    · have := h1 i q; omega
    · subst q; exact c1 e
    · have := hs r i q hi
      have := h2 r (Nat.le_refl r) hrc
      omega
  · rw [if_neg (show ¬ ((0 : Int) ≤ (r : Int) ∧ (r : Int) < (c : Int)) by omega)]
    refine wp_ifp rfl (none (fun i hi e => ?_))
    have := h1 i (by omega)
    omega
theorem lb_occ_y {lb : Nat → Int} {m : Nat} {x : Int} (h : lb m = x) : lb_occ lb (m + 1) x = lb_occ lb m x + 1 := pm_c_y h
theorem lb_occ_n {lb : Nat → Int} {m : Nat} {x : Int} (h : ¬ lb m = x) : lb_occ lb (m + 1) x = lb_occ lb m x := pm_c_n h
theorem lb_occ_0 {lb : Nat → Int} {m : Nat} {x : Int} (h : ∀ a, a < m → lb a ≠ x) : lb_occ lb m x = 0 := pm_c_none h
theorem lb_occ_le (lb : Nat → Int) (m : Nat) (x : Int) : lb_occ lb m x ≤ m := pm_c_le _ m
/-- putting a new label into the list -/
theorem ed_S.ins {f g : Nat → Int} {c r m : Nat} {lb : Nat → Int} (h : ed_S f c lb m) (hr : r ≤ c) (h1 : ∀ i, i < r → f i < lb m) (h2 : ∀ i, r ≤ i → i < c → lb m < f i) (g1 : ∀ i, i < r → g i = f i) (g2 : g r = lb m) (g3 : ∀ i, r < i → i ≤ c → g i = f (i - 1)) : ed_S g (c + 1) lb (m + 1) := by
  refine ⟨by have := h.1; omega, fun i j hij hj => ?_, fun i hi => ?_, fun a ha => ?_⟩
  · rcases Nat.lt_trichotomy j r with q | q | q
    · rw [g1 i (by omega), g1 j q]; exact h.2.1 i j hij (by omega)
    · rw [g1 i (by omega), q, g2]; exact h1 i (by omega)
    · rw [g3 j q (by omega)]
      rcases Nat.lt_trichotomy i r with p | p | p
      · rw [g1 i p]
        rcases Nat.lt_or_ge i (j - 1) with z | z
        · exact h.2.1 i (j - 1) z (by omega)
        · omega
      · rw [p, g2]; exact h2 (j - 1) (by omega) (by omega)
      · rw [g3 i p (by omega)]; exact h.2.1 (i - 1) (j - 1) (by omega) (by omega)
  · rcases Nat.lt_trichotomy i r with p | p | p
    · obtain ⟨a, a1, a2⟩ := h.2.2.1 i (by omega)
      exact ⟨a, by omega, by rw [g1 i p]; exact a2⟩
    · exact ⟨m, by omega, by rw [p, g2]⟩
    · obtain ⟨a, a1, a2⟩ := h.2.2.1 (i - 1) (by omega)
      exact ⟨a, by omega, by rw [g3 i p (by omega)]; exact a2⟩
  · by_cases q : a = m
    · exact ⟨r, by omega, by rw [q, g2]⟩
    · obtain ⟨i, i1, i2⟩ := h.2.2.2 a (by omega)
      rcases Nat.lt_or_ge i r with p | p
      · exact ⟨i, by omega, by rw [g1 i p]; exact i2⟩
      · exact ⟨i + 1, by omega, by rw [g3 (i + 1) (by omega) (by omega)]; exact i2⟩
theorem ed_S.old {f : Nat → Int} {c r m : Nat} {lb : Nat → Int} (h : ed_S f c lb m) (hr : r < c) (e : f r = lb m) : ed_S f c lb (m + 1) := by
  refine ⟨by have := h.1; omega, h.2.1, fun i hi => ?_, fun a ha => ?_⟩
  · obtain ⟨a, a1, a2⟩ := h.2.2.1 i hi
    exact ⟨a, by omega, a2⟩
  · by_cases q : a = m
    · exact ⟨r, hr, by rw [q]; exact e⟩
    · exact h.2.2.2 a (by omega)
/-- labels and how often they stand -/
def ed_C (t : gt_T) (c : Nat) (lb : Nat → Int) (m : Nat) : Prop := t.1 5 = (c : Int) ∧ ed_S (t.2 0) c lb m ∧ ∀ i, i < c → t.2 1 i = (lb_occ lb m (t.2 0 i) : Int)
theorem sX1_countLabel {T : gt_T} {c m : Nat} {lb : Nat → Int} (h : ed_C T c lb m) (hm : m < 80) : wp_Q (fun T' => ∃ c', ed_C T' c' lb (m + 1)) (fX1_countLabel T (lb m)) := by
  obtain ⟨h5, hS, ht⟩ := h
  have hcm := hS.1
  unfold fX1_countLabel
  refine wp_bind (sX1_countLess h5 (by omega) hS.2.1 (lb m)) (fun v ⟨r, e, hr, h1, h2⟩ => ?_)
  subst e
  refine wp_eq (sX1_has T _) ?_
  rw [h5]
  -- the label is new: all behind it move one place
  have new : (∀ i, r ≤ i → i < c → lb m < T.2 0 i) → wp_Q (fun T' => ∃ c', ed_C T' c' lb (m + 1)) (fX1_countLabel_35 T (lb m) (r : Int)) := by
    intro h3
    have hnew : ∀ a, a < m → lb a ≠ lb m := by
      intro a ha e
      obtain ⟨i, i1, i2⟩ := hS.2.2.2 a ha
      rcases Nat.lt_or_ge i r with q | q
      · have := h1 i q; omega
      · have := h3 i q i1; omega
    unfold fX1_countLabel_35
    refine wp_ifp (by omega) ?_
    rw [h5]
    refine wp_loop (fun a => ∃ e : Nat, r ≤ e ∧ e ≤ c ∧ a.2.1 = lb m ∧ a.2.2.1 = (r : Int) ∧ a.2.2.2 = (e : Int) ∧ a.1.1 5 = (c : Int) ∧ (∀ i, i ≤ e → i < c → a.1.2 0 i = T.2 0 i ∧ a.1.2 1 i = T.2 1 i) ∧ ∀ i, e < i → i ≤ c → a.1.2 0 i = T.2 0 (i - 1) ∧ a.1.2 1 i = T.2 1 (i - 1)) (fun a => a.2.2.2.toNat) ?_ ⟨c, hr, Nat.le_refl c, rfl, rfl, rfl, h5, fun i _ _ => ⟨rfl, rfl⟩, fun i q1 q2 => by omega⟩ (by rw [gt_fuel_eq]; simp only; omega)
    intro k ⟨t, x, y, z⟩ ⟨e, re, ec, e1, e2, e3, g5, gl, gh⟩ ih
    simp only at e1 e2 e3 g5 gl gh
    subst e1; subst e2; subst e3
    unfold fX1_countLabel_50
    simp only
    rw [g5]
    refine wp_if (fun c1 => ?_) (fun c1 => ?_)
    · have her : e = r := by omega
      subst her
      refine wp_ifp (by omega) (wp_some ⟨c + 1, ?_, ?_, ?_⟩)
      · simp only [va_up, ↓reduceIte]; omega
      · simp only [va_up, Nat.reduceEqDiff, ↓reduceIte, Int.toNat_natCast]
        refine hS.ins hr h1 h3 (fun i hi => ?_) (by simp only [va_up, ↓reduceIte]) (fun i hi1 hi2 => ?_)
        · simp only [va_up]; rw [if_neg (by omega)]; exact (gl i (by omega) (by omega)).1
        · simp only [va_up]; rw [if_neg (by omega)]; exact (gh i hi1 hi2).1
      · intro i hi
        simp only [va_up, Nat.reduceEqDiff, ↓reduceIte, Int.toNat_natCast]
        rcases Nat.lt_trichotomy i e with q | q | q
        · rw [if_neg (by omega), if_neg (by omega), (gl i (by omega) (by omega)).1, (gl i (by omega) (by omega)).2, ht i (by omega), lb_occ_n (by have := h1 i q; omega)]
        · rw [if_pos q, if_pos q, lb_occ_y rfl, lb_occ_0 hnew]; rfl
        · rw [if_neg (by omega), if_neg (by omega), (gh i q (by omega)).1, (gh i q (by omega)).2, ht (i - 1) (by omega), lb_occ_n (by have := h3 (i - 1) (by omega) (by omega); omega)]
    · refine wp_ifp (by omega) ?_
      have ee : ((e : Int) - 1).toNat = e - 1 := by omega
      have e1' : (e : Int).toNat = e := Int.toNat_natCast e
      rw [ee, e1']
      refine ih _ ⟨e - 1, by omega, by omega, rfl, rfl, by simp only; omega, g5, fun i hi1 hi2 => ?_, fun i hi1 hi2 => ?_⟩ (by simp only; omega)
      · simp only [va_up, Nat.reduceEqDiff, ↓reduceIte]
        rw [if_neg (by omega), if_neg (by omega)]
        exact gl i (by omega) hi2
      · simp only [va_up, Nat.reduceEqDiff, ↓reduceIte]
        by_cases q : i = e
        · rw [if_pos q, if_pos q, q]
          exact gl (e - 1) (by omega) (by omega)
        · rw [if_neg q, if_neg q]
          exact gh i (by omega) hi2
  by_cases hrc : r < c
  · rw [if_pos (show (0 : Int) ≤ (r : Int) ∧ (r : Int) < (c : Int) by omega)]
    refine wp_ifn (by decide) ?_
    refine wp_ifp (by omega) ?_
    rw [Int.toNat_natCast]
    refine wp_if (fun c1 => ?_) (fun c1 => new (fun i q1 q2 => ?_))
    · have hle := lb_occ_le lb m (T.2 0 r)
      have htr := ht r hrc
      refine wp_ifp (by omega) (wp_some ⟨c, h5, hS.old hrc c1, fun i hi => ?_⟩)
      simp only [va_up, Nat.reduceEqDiff, ↓reduceIte]
      by_cases q : i = r
      · rw [if_pos q, q, lb_occ_y (by rw [c1]), htr]; rfl
      · rw [if_neg q, lb_occ_n (fun z => q (hS.inj hi hrc (by rw [c1]; exact z.symm)))]; exact ht i hi
    · have h4 := h2 r (Nat.le_refl r) hrc
      rcases Nat.lt_or_ge r i with q | q
      · have := hS.2.1 r i q q2; omega
      · rw [show i = r by omega]; omega
  · rw [if_neg (show ¬ ((0 : Int) ≤ (r : Int) ∧ (r : Int) < (c : Int)) by omega)]
    exact wp_ifp rfl (new (fun i q1 q2 => by omega))
theorem sX1_gatherLabels {T u : gt_T} {n : Nat} (hu : rw_ok u n) : wp_Q (fun q => ∃ c : Nat, ed_C q.1 c (u.2 1) (4 * n) ∧ ((q.2 = -1 ∧ ∀ i, i < c → lb_occ (u.2 1) (4 * n) (q.1.2 0 i) = 2) ∨ ∃ i, i < c ∧ q.2 = q.1.2 0 i ∧ lb_occ (u.2 1) (4 * n) (q.1.2 0 i) ≠ 2 ∧ ∀ j, j < i → lb_occ (u.2 1) (4 * n) (q.1.2 0 j) = 2)) (fX1_gatherLabels u T) := by
  have hn := hu.2.1
  unfold fX1_gatherLabels
  refine wp_loop (fun a => ∃ m c : Nat, m ≤ 4 * n ∧ a.2 = (m : Int) ∧ ed_C a.1 c (u.2 1) m) (fun a => 200 - a.2.toNat) ?_ ⟨0, 0, Nat.zero_le _, rfl, rfl, ⟨Nat.le_refl 0, fun i j _ q => absurd q (Nat.not_lt_zero j), fun i q => absurd q (Nat.not_lt_zero i), fun i q => absurd q (Nat.not_lt_zero i)⟩, fun i q => absurd q (Nat.not_lt_zero i)⟩ (by rw [gt_fuel_eq]; omega)
  intro k ⟨t, x⟩ ⟨m, c, hm, e1, hC⟩ ih
  simp only at e1 hC
  subst e1
  unfold fX1_gatherLabels_7
  simp only
  refine wp_eq (sX4_spots hu.1 hu.2.1) ?_
  refine wp_if (fun c1 => ?_) (fun c1 => ?_)
  · have : m = 4 * n := by omega
    subst this
    obtain ⟨h5, hS, ht⟩ := hC
    have hcm := hS.1
    refine wp_loop (fun a => ∃ i : Nat, i ≤ c ∧ a.1 = t ∧ a.2 = (i : Int) ∧ ∀ j, j < i → lb_occ (u.2 1) (4 * n) (t.2 0 j) = 2) (fun a => 200 - a.2.toNat) ?_ ⟨0, Nat.zero_le c, rfl, rfl, fun j q => absurd q (Nat.not_lt_zero j)⟩ (by rw [gt_fuel_eq]; omega)
    intro k2 ⟨t2, y⟩ ⟨i, hi, f1, f2, f3⟩ ih2
    simp only at f1 f2
    subst f1; subst f2
    unfold fX1_gatherLabels_32
    simp only
    rw [h5]
    refine wp_if (fun c2 => wp_some ⟨c, ⟨h5, hS, ht⟩, Or.inl ⟨rfl, fun j hj => f3 j (by omega)⟩⟩) (fun c2 => ?_)
    refine wp_ifp (by omega) ?_
    rw [Int.toNat_natCast, ht i (by omega)]
    refine wp_if (fun c3 => ?_) (fun c3 => ?_)
    · refine wp_ifp (by omega) ?_
      refine ih2 _ ⟨i + 1, by omega, rfl, by simp only; omega, fun j hj => ?_⟩ (by simp only; omega)
      by_cases q : j = i
      · rw [q]; omega
      · exact f3 j (by omega)
    · exact wp_ifp (by omega) (wp_some ⟨c, ⟨h5, hS, ht⟩, Or.inr ⟨i, by omega, rfl, fun z => c3 (by rw [z]; rfl), f3⟩⟩)
  · refine wp_eq (sX4_labelN hu (by omega)) ?_
    refine wp_bind (sX1_countLabel hC (by omega)) (fun T' ⟨c', hC'⟩ => ?_)
    refine wp_ifp (by omega) ?_
    exact ih _ ⟨m + 1, c', by omega, by simp only; omega, hC'⟩ (by simp only; omega)
/-- the last place with p, or -1 -/
def ls_P (p : Nat → Prop) (m : Nat) (v : Int) : Prop := (v = -1 ∧ ∀ a, a < m → ¬ p a) ∨ ∃ a : Nat, a < m ∧ v = (a : Int) ∧ p a ∧ ∀ b, a < b → b < m → ¬ p b
theorem ls_P.y {p : Nat → Prop} {m : Nat} (h : p m) : ls_P p (m + 1) (m : Int) := Or.inr ⟨m, by omega, rfl, h, fun b q1 q2 => by omega⟩
theorem ls_P.n {p : Nat → Prop} {m : Nat} {v : Int} (hv : ls_P p m v) (h : ¬ p m) : ls_P p (m + 1) v := by
  rcases hv with ⟨e, q⟩ | ⟨a, a1, a2, a3, a4⟩
  · refine Or.inl ⟨e, fun a ha => ?_⟩
    by_cases z : a = m
    · rw [z]; exact h
    · exact q a (by omega)
  · refine Or.inr ⟨a, by omega, a2, a3, fun b b1 b2 => ?_⟩
    by_cases z : b = m
    · rw [z]; exact h
    · exact a4 b b1 (by omega)
theorem ls_P.uniq {p : Nat → Prop} {m : Nat} {v w : Int} (h : ls_P p m v) (k : ls_P p m w) : v = w := by
  rcases h with ⟨e, q⟩ | ⟨a, a1, a2, a3, a4⟩ <;> rcases k with ⟨e', q'⟩ | ⟨b, b1, b2, b3, b4⟩
  · omega
  · exact absurd b3 (q b b1)
  · exact absurd a3 (q' a a1)
  · rcases Nat.lt_trichotomy a b with z | z | z
    · exact absurd b3 (a4 b z b1)
    · rw [a2, b2, z]
    · exact absurd a3 (b4 a z a1)
theorem ls_P.congr {p q : Nat → Prop} {m : Nat} {v : Int} (h : ls_P p m v) (e : ∀ a, a < m → (p a ↔ q a)) : ls_P q m v := by
  rcases h with ⟨e1, z⟩ | ⟨a, a1, a2, a3, a4⟩
  · exact Or.inl ⟨e1, fun a ha k => z a ha ((e a ha).mpr k)⟩
  · exact Or.inr ⟨a, a1, a2, (e a a1).mp a3, fun b b1 b2 k => a4 b b1 b2 ((e b b2).mpr k)⟩
/-- where the edges begin and end -/
def ed_E (t : gt_T) (f : Nat → Int) (c : Nat) (sg lb : Nat → Int) (m : Nat) : Prop := t.1 5 = (c : Int) ∧ t.2 0 = f ∧ (∀ a, a < m → ∃ i : Nat, i < c ∧ t.2 4 a = (i : Int) ∧ f i = lb a) ∧ ∀ i, i < c → ls_P (fun a => lb a = f i ∧ na_out sg a) m (t.2 2 i) ∧ ls_P (fun a => lb a = f i ∧ ¬ na_out sg a) m (t.2 3 i)
theorem sX1_noteEnd {T : gt_T} {c a e : Nat} (h5 : T.1 5 = (c : Int)) (ha : a < 80) (he : e < c) (hc : c ≤ 80) (o : Int) : fX1_noteEnd T (a : Int) (e : Int) o = some (if o = 0 then (T.1, va_up (va_up T.2 4 (va_up (T.2 4) a (e : Int))) 3 (va_up (T.2 3) e (a : Int))) else (T.1, va_up (va_up T.2 4 (va_up (T.2 4) a (e : Int))) 2 (va_up (T.2 2) e (a : Int)))) := by
  unfold fX1_noteEnd fX1_noteEnd_18 fX1_noteEnd_47
  rw [if_neg (show ¬ (a : Int) < 0 by omega), if_neg (show ¬ (80 : Int) ≤ (a : Int) by omega), sX1_has, h5, if_pos (show (0 : Int) ≤ (e : Int) ∧ (e : Int) < (c : Int) by omega)]
  simp only [Option.bind_some]
  rw [if_neg (show ¬ (1 : Int) = 0 by decide), if_pos (show 0 ≤ (a : Int) ∧ (a : Int) < 80 by omega), if_pos (show 0 ≤ (e : Int) ∧ (e : Int) < 80 by omega), Int.toNat_natCast, Int.toNat_natCast]
  by_cases h : o = 0
  · rw [if_pos h, if_pos h]; rfl
  · rw [if_neg h, if_neg h, if_pos (show 0 ≤ (e : Int) ∧ (e : Int) < 80 by omega)]; rfl
theorem sX1_findEnds {T u : gt_T} {n c : Nat} (hu : rw_ok u n) (h5 : T.1 5 = (c : Int)) (hS : ed_S (T.2 0) c (u.2 1) (4 * n)) : wp_Q (fun q => ed_E q.1 (T.2 0) c (u.2 0) (u.2 1) (4 * n) ∧ ((q.2 = -1 ∧ ∀ i, i < c → q.1.2 2 i ≠ -1 ∧ q.1.2 3 i ≠ -1) ∨ ∃ i, i < c ∧ q.2 = T.2 0 i ∧ (q.1.2 2 i = -1 ∨ q.1.2 3 i = -1) ∧ ∀ j, j < i → q.1.2 2 j ≠ -1 ∧ q.1.2 3 j ≠ -1)) (fX1_findEnds u T) := by
  have hn := hu.2.1
  have hcm := hS.1
  unfold fX1_findEnds
  refine wp_loop (fun a => ∃ m : Nat, m ≤ 4 * n ∧ a.2 = (m : Int) ∧ ed_E a.1 (T.2 0) c (u.2 0) (u.2 1) m) (fun a => 200 - a.2.toNat) ?_ ⟨0, Nat.zero_le _, rfl, h5, by simp [va_up], fun a q => absurd q (Nat.not_lt_zero a), fun i hi => ?_⟩ (by rw [gt_fuel_eq]; omega)
  · intro k ⟨t, x⟩ ⟨m, hm, e1, g5, g0, g4, g23⟩ ih
    simp only at e1 g5 g0 g4 g23
    subst e1
    unfold fX1_findEnds_18
    simp only
    refine wp_eq (sX4_spots hu.1 hu.2.1) ?_
    refine wp_if (fun c1 => ?_) (fun c1 => ?_)
    · have : m = 4 * n := by omega
      subst this
      refine wp_loop (fun a => ∃ i : Nat, i ≤ c ∧ a.1 = t ∧ a.2 = (i : Int) ∧ ∀ j, j < i → t.2 2 j ≠ -1 ∧ t.2 3 j ≠ -1) (fun a => 200 - a.2.toNat) ?_ ⟨0, Nat.zero_le c, rfl, rfl, fun j q => absurd q (Nat.not_lt_zero j)⟩ (by rw [gt_fuel_eq]; omega)
      intro k2 ⟨t2, y⟩ ⟨i, hi, f1, f2, f3⟩ ih2
      simp only at f1 f2
      subst f1; subst f2
      unfold fX1_findEnds_53 fX1_findEnds_81
      simp only
      rw [g5]
      refine wp_if (fun c2 => wp_some ⟨⟨g5, g0, g4, g23⟩, Or.inl ⟨rfl, fun j hj => f3 j (by omega)⟩⟩) (fun c2 => ?_)
      refine wp_ifp (by omega) ?_
      rw [Int.toNat_natCast]
      refine wp_if (fun c3 => ?_) (fun c3 => ?_)
      · exact wp_ifp (by omega) (wp_some ⟨⟨g5, g0, g4, g23⟩, Or.inr ⟨i, by omega, by rw [g0], Or.inl c3, f3⟩⟩)
      · refine wp_ifp (by omega) ?_
        refine wp_if (fun c4 => ?_) (fun c4 => ?_)
        · exact wp_ifp (by omega) (wp_some ⟨⟨g5, g0, g4, g23⟩, Or.inr ⟨i, by omega, by rw [g0], Or.inr c4, f3⟩⟩)
        · refine wp_ifp (by omega) ?_
          refine ih2 _ ⟨i + 1, by omega, rfl, by simp only; omega, fun j hj => ?_⟩ (by simp only; omega)
          by_cases q : j = i
          · rw [q]; exact ⟨c3, c4⟩
          · exact f3 j (by omega)
    · have hmN : m < 4 * n := by omega
      refine wp_eq (sX4_labelN hu hmN) ?_
      refine wp_bind (sX1_rank g5 (by omega) (by rw [g0]; exact hS.2.1) (u.2 1 m)) (fun v hv => ?_)
      obtain ⟨e, rfl, hec, hfe⟩ : ∃ r : Nat, v = (r : Int) ∧ r < c ∧ T.2 0 r = u.2 1 m := by
        rcases hv with ⟨r, q1, q2, q3⟩ | ⟨_, q⟩
        · exact ⟨r, q1, q2, by rw [← g0]; exact q3⟩
        · obtain ⟨i, i1, i2⟩ := hS.2.2.2 m hmN
          exact absurd (by rw [g0]; exact i2) (q i i1)
      have step : ∀ (t' : gt_T), t'.1 = t.1 → t'.2 0 = T.2 0 → (∀ a, t'.2 4 a = if a = m then (e : Int) else t.2 4 a) → (∀ i, i < c → ls_P (fun a => u.2 1 a = T.2 0 i ∧ na_out (u.2 0) a) (m + 1) (t'.2 2 i) ∧ ls_P (fun a => u.2 1 a = T.2 0 i ∧ ¬ na_out (u.2 0) a) (m + 1) (t'.2 3 i)) → wp_Q (fun q => ed_E q.1 (T.2 0) c (u.2 0) (u.2 1) (4 * n) ∧ ((q.2 = -1 ∧ ∀ i, i < c → q.1.2 2 i ≠ -1 ∧ q.1.2 3 i ≠ -1) ∨ ∃ i, i < c ∧ q.2 = T.2 0 i ∧ (q.1.2 2 i = -1 ∨ q.1.2 3 i = -1) ∧ ∀ j, j < i → q.1.2 2 j ≠ -1 ∧ q.1.2 3 j ≠ -1)) (if (-2147483648 ≤ (m : Int) + 1 ∧ (m : Int) + 1 < 2147483648) then k (t', (m : Int) + 1) else none) := by
        intro t' q1 q2 q3 q4
        refine wp_ifp (by omega) ?_
        refine ih _ ⟨m + 1, by omega, by simp only; omega, by rw [q1]; exact g5, q2, fun a ha => ?_, q4⟩ (by simp only; omega)
        simp only
        rw [q3 a]
        by_cases z : a = m
        · exact ⟨e, hec, by rw [if_pos z], by rw [z]; exact hfe⟩
        · rw [if_neg z]; exact g4 a (by omega)
      have fi : ∀ i, i < c → (u.2 1 m = T.2 0 i ↔ i = e) := fun i hi => ⟨fun q => hS.inj hi hec (by rw [hfe]; exact q.symm), fun q => by rw [q]; exact hfe.symm⟩
      rcases sX4_goesOut hu hmN with ⟨ho, eo⟩ | ⟨ho, eo⟩
      · refine wp_eq eo ?_
        refine wp_eq (sX1_noteEnd g5 (by omega) hec (by omega) 1) ?_
        rw [if_neg (show ¬ (1 : Int) = 0 by decide)]
        refine step _ rfl (by simp only [va_up, Nat.reduceEqDiff, ↓reduceIte]; exact g0) (fun a => by simp only [va_up, Nat.reduceEqDiff, ↓reduceIte]) (fun i hi => ?_)
        simp only [va_up, Nat.reduceEqDiff, ↓reduceIte]
        refine ⟨?_, (g23 i hi).2.n (fun z => z.2 ho)⟩
        by_cases z : i = e
        · rw [if_pos z]; exact ls_P.y ⟨(fi i hi).mpr z, ho⟩
        · rw [if_neg z]; exact (g23 i hi).1.n (fun y => z ((fi i hi).mp y.1))
      · refine wp_eq eo ?_
        refine wp_eq (sX1_noteEnd g5 (by omega) hec (by omega) 0) ?_
        rw [if_pos rfl]
        refine step _ rfl (by simp only [va_up, Nat.reduceEqDiff, ↓reduceIte]; exact g0) (fun a => by simp only [va_up, Nat.reduceEqDiff, ↓reduceIte]) (fun i hi => ?_)
        simp only [va_up, Nat.reduceEqDiff, ↓reduceIte]
        refine ⟨(g23 i hi).1.n (fun z => ho z.2), ?_⟩
        by_cases z : i = e
        · rw [if_pos z]; exact ls_P.y ⟨(fi i hi).mpr z, ho⟩
        · rw [if_neg z]; exact (g23 i hi).2.n (fun y => z ((fi i hi).mp y.1))
  · simp only [va_up, Nat.reduceEqDiff, ↓reduceIte, gt_fill]
    rw [if_pos (show i < 80 by omega), if_pos (show i < 80 by omega)]
    exact ⟨Or.inl ⟨rfl, fun a q => absurd q (Nat.not_lt_zero a)⟩, Or.inl ⟨rfl, fun a q => absurd q (Nat.not_lt_zero a)⟩⟩
