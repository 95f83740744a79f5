/-! The reference: change, mirror, reverse. -/
section MC
variable {t : gt_T} {n k : Nat}
theorem mc55 {u : gt_T} (h5 : u.1 5 = (n : Int)) (hn : n ≤ 20) (hk : k < n) (hs : -1 ≤ u.2 9 k ∧ u.2 9 k ≤ 1) : wp_Q (fun q => q.2 = 1 ∧ q.1.1 = u.1 ∧ (∀ j, j ≠ 9 → j ≠ 10 → q.1.2 j = u.2 j) ∧ (∀ x, q.1.2 9 x = flp (u.2 9) k x) ∧ ∀ x, q.1.2 10 x = if x / 4 = k then u.2 15 (x % 4) else u.2 10 x) (gt_loop fX6_change_55 gt_fuel (u, (k : Int), (0 : Int))) := by
  refine wp_loop (fun x => ∃ p : Nat, p ≤ 4 ∧ x.2.1 = (k : Int) ∧ x.2.2 = (p : Int) ∧ x.1.1 = u.1 ∧ (∀ j, j ≠ 10 → x.1.2 j = u.2 j) ∧ ∀ y, x.1.2 10 y = if y / 4 = k ∧ y % 4 < p then u.2 15 (y % 4) else u.2 10 y) (fun x => 200 - x.2.2.toNat) ?_ ⟨0, Nat.zero_le _, rfl, rfl, rfl, fun _ _ => rfl, fun y => by rw [if_neg (fun z => absurd z.2 (Nat.not_lt_zero _))]⟩ (by rw [gt_fuel_eq]; omega)
  intro kk ⟨x1, x2, x3⟩ ⟨p, hp, e1, e2, e3, e4, e5⟩ ih
  simp only at e1 e2 e3 e4 e5
  subst e1; subst e2
  unfold fX6_change_55
  simp only
  rw [Int.toNat_natCast, Int.toNat_natCast, show ((4 : Int) * (k : Int) + (p : Int)).toNat = 4 * k + p by omega, e4 9 (by decide)]
  refine wp_if (fun c1 => wp_ifp ⟨by omega, by omega, by simp⟩ (wp_some ⟨rfl, e3, fun j a b => ?_, fun x => ?_, fun x => ?_⟩)) (fun c1 => wp_ifp (by omega) (ih _ ⟨p + 1, by omega, rfl, by simp only; omega, e3, fun j hj => ?_, fun y => ?_⟩ (by simp only; omega)))
  · simp only [va_up, a, ↓reduceIte]; exact e4 j b
  · simp only [va_up, ↓reduceIte]
    unfold flp
    by_cases z : x = k
    · rw [if_pos z, if_pos z, z]
    · rw [if_neg z, if_neg z]
  · simp only [va_up, Nat.reduceEqDiff, ↓reduceIte]
    rw [e5 x]
    by_cases z : x / 4 = k
    · rw [if_pos ⟨z, by omega⟩, if_pos z]
    · rw [if_neg (fun w => z w.1), if_neg z]
  · simp only [va_up, hj, ↓reduceIte]; exact e4 j hj
  · simp only [va_up, ↓reduceIte]
    rw [e4 15 (by decide)]
    by_cases z : y = 4 * k + p
    · rw [if_pos z, if_pos ⟨by omega, by omega⟩, show y % 4 = p by omega]
    · rw [if_neg z, e5 y]
      by_cases w : y / 4 = k ∧ y % 4 < p
      · rw [if_pos w, if_pos ⟨w.1, by omega⟩]
      · rw [if_neg w, if_neg (by omega)]
theorem mChange (h : rm_ok t n) (hk : k < n) : wp_Q (fun q => q.2 = 1 ∧ md_F [] [9, 10, 15] t q.1 ∧ (∀ x, q.1.2 9 x = flp (t.2 9) k x) ∧ ∀ x, q.1.2 10 x = rot (t.2 10) k (na_ui (t.2 9) k) x) (fX6_change t (k : Int)) := by
  have hn := h.2.1
  have hu := na_ui_lt (t.2 9) k
  unfold fX6_change
  refine wp_ifn (by omega) ?_
  rw [h.1]
  refine wp_ifp (by omega) (wp_eq (sX6_upperIn h hk) ?_)
  generalize hue : na_ui (t.2 9) k = ui at hu ⊢
  refine wp_loop (fun x => ∃ p : Nat, p ≤ 4 ∧ x.2.1 = (k : Int) ∧ x.2.2.1 = (ui : Int) ∧ x.2.2.2 = (p : Int) ∧ x.1.1 = t.1 ∧ (∀ j, j ≠ 15 → x.1.2 j = t.2 j) ∧ ∀ y, y < p → x.1.2 15 y = t.2 10 (4 * k + (ui + y) % 4)) (fun x => 200 - x.2.2.2.toNat) ?_ ⟨0, Nat.zero_le _, rfl, rfl, rfl, rfl, fun _ _ => rfl, fun y hy => absurd hy (Nat.not_lt_zero y)⟩ (by rw [gt_fuel_eq]; omega)
  intro kk ⟨x1, x2, x3, x4⟩ ⟨p, hp, e1, e2, e3, e4, e5, e6⟩ ih
  simp only at e1 e2 e3 e4 e5 e6
  subst e1; subst e2; subst e3
  unfold fX6_change_22
  simp only
  have hs : -1 ≤ x1.2 9 k ∧ x1.2 9 k ≤ 1 := by rw [e5 9 (by decide)]; rcases h.2.2.1 k hk with e | e <;> rw [e] <;> decide
  refine wp_if (fun c1 => wp_mono (mc55 (u := x1) (by rw [e4]; exact h.1) hn hk hs) (fun q ⟨a1, a2, a3, a4, a5⟩ => ⟨a1, ⟨fun j _ => by rw [a2, e4], fun j hj => ?_⟩, fun x => by rw [a4 x, e5 9 (by decide)], fun x => ?_⟩)) (fun c1 => wp_ifp (by omega) (ih _ ⟨p + 1, by omega, rfl, rfl, by simp only; omega, e4, fun j hj => ?_, fun y hy => ?_⟩ (by simp only; omega)))
  · simp only [List.mem_cons, List.not_mem_nil, or_false, not_or] at hj
    rw [a3 j hj.1 hj.2.1, e5 j hj.2.2]
  · rw [a5 x]
    unfold rot
    by_cases z : x / 4 = k
    · rw [if_pos z, if_pos z, e6 _ (by omega)]
      exact congrArg (t.2 10) (by omega)
    · rw [if_neg z, if_neg z, e5 10 (by decide)]
  · simp only [va_up, hj, ↓reduceIte]; exact e5 j hj
  · simp only [va_up, ↓reduceIte, Int.toNat_natCast]
    rw [show ((4 : Int) * (k : Int) + (((ui : Int) + (p : Int)) % 4)).toNat = 4 * k + (ui + p) % 4 by omega, e5 10 (by decide)]
    by_cases z : y = p
    · rw [if_pos z, z]
    · rw [if_neg z]; exact e6 y (by omega)
theorem rm_ok.of {t' : gt_T} (h : rm_ok t n) (e : t'.1 5 = t.1 5) (hs : ∀ j, j < n → t'.2 9 j = t.2 9 j ∨ t'.2 9 j = -(t.2 9 j)) (hl : ∀ x, x < 4 * n → ∃ y, y < 4 * n ∧ t'.2 10 x = t.2 10 y) : rm_ok t' n := by
  refine ⟨by rw [e]; exact h.1, h.2.1, fun j hj => ?_, fun x hx => ?_⟩
  · rcases hs j hj with z | z <;> rcases h.2.2.1 j hj with w | w <;> rw [z, w] <;> decide
  · obtain ⟨y, y1, y2⟩ := hl x hx
    rw [y2]; exact h.2.2.2 y y1
theorem mMirror (h : rm_ok t n) : wp_Q (fun t' => md_F [] [9, 10, 15] t t' ∧ (∀ x, t'.2 9 x = mirS (t.2 9) n x) ∧ ∀ x, t'.2 10 x = mirL (t.2 10) (t.2 9) n x) (fX6_mirror t) := by
  have hn := h.2.1
  unfold fX6_mirror
  refine wp_loop (fun x => ∃ i : Nat, i ≤ n ∧ x.2 = (i : Int) ∧ md_F [] [9, 10, 15] t x.1 ∧ (∀ y, x.1.2 9 y = mirS (t.2 9) i y) ∧ ∀ y, x.1.2 10 y = mirL (t.2 10) (t.2 9) i y) (fun x => 200 - x.2.toNat) ?_ ⟨0, Nat.zero_le _, rfl, md_F.rf, fun y => by unfold mirS; rw [if_neg (Nat.not_lt_zero y)], fun y => by unfold mirL; rw [if_neg (Nat.not_lt_zero _)]⟩ (by rw [gt_fuel_eq]; omega)
  intro kk ⟨x1, x2⟩ ⟨i, hi, e1, e2, e3, e4⟩ ih
  simp only at e1 e2 e3 e4
  subst e1
  unfold fX6_mirror_2
  simp only
  rw [e2.1 5 (by decide), h.1]
  refine wp_if (fun c1 => wp_some ⟨e2, fun x => by rw [e3 x, show i = n by omega], fun x => by rw [e4 x, show i = n by omega]⟩) (fun c1 => ?_)
  have hin : i < n := by omega
  have h1 : rm_ok x1 n := h.of (e2.1 5 (by decide)) (fun j hj => by
    rw [e3 j]; unfold mirS
    split
    · exact Or.inr rfl
    · exact Or.inl rfl) (fun x hx => by
    rw [e4 x]; unfold mirL
    split
    · exact ⟨_, by omega, rfl⟩
    · exact ⟨x, hx, rfl⟩)
  have e3i : x1.2 9 i = t.2 9 i := by rw [e3 i]; unfold mirS; rw [if_neg (by omega)]
  have eui : na_ui (x1.2 9) i = na_ui (t.2 9) i := by unfold na_ui; rw [e3i]
  refine wp_bind (mChange h1 hin) (fun q ⟨a0, a1, a2, a3⟩ => wp_ifp (by omega) (ih _ ⟨i + 1, by omega, by simp only; omega, e2.tr a1, fun y => ?_, fun y => ?_⟩ (by simp only; omega)))
  · simp only
    rw [a2 y]; unfold flp
    rw [e3 y]; unfold mirS
    by_cases z : y = i
    · rw [if_pos z, if_neg (by omega), if_pos (by omega)]
    · by_cases z' : y < i
      · rw [if_neg z, if_pos z', if_pos (by omega)]
      · rw [if_neg z, if_neg z', if_neg (by omega)]
  · simp only
    rw [a3 y, eui]; unfold rot
    by_cases z : y / 4 = i
    · rw [if_pos z, e4]; unfold mirL
      rw [if_neg (by omega), if_pos (by omega), z]
    · rw [if_neg z, e4 y]; unfold mirL
      by_cases z' : y / 4 < i
      · rw [if_pos z', if_pos (by omega)]
      · rw [if_neg z', if_neg (by omega)]
/-! reverse -/
noncomputable def rvS (L U : Nat → Prop) (g : Nat → Int) (i x : Nat) : Int := @ite Int (x < i ∧ ¬ (L x ↔ U x)) (Classical.propDecidable _) (-(g x)) (g x)
noncomputable def rvL (L : Nat → Prop) (g : Nat → Int) (i x : Nat) : Int := @ite Int (x / 4 < i ∧ L (x / 4)) (Classical.propDecidable _) (g (4 * (x / 4) + (x + 2) % 4)) (g x)
theorem rv89 {L U : Nat → Prop} {u : gt_T} (h : rm_ok u n) (hl : ∀ i, i < n → (u.2 16 i = 1 ∧ L i) ∨ (u.2 16 i = 0 ∧ ¬ L i)) (hup : ∀ i, i < n → (u.2 17 i = 1 ∧ U i) ∨ (u.2 17 i = 0 ∧ ¬ U i)) : wp_Q (fun q => q.2 = 1 ∧ md_F [] [9, 10, 15] u q.1 ∧ (∀ x, q.1.2 9 x = rvS L U (u.2 9) n x) ∧ ∀ x, q.1.2 10 x = rvL L (u.2 10) n x) (gt_loop fX6_reverse_89 gt_fuel (u, (0 : Int))) := by
  have hn := h.2.1
  refine wp_loop (fun x => ∃ i : Nat, i ≤ n ∧ x.2 = (i : Int) ∧ md_F [] [9, 10, 15] u x.1 ∧ (∀ y, x.1.2 9 y = rvS L U (u.2 9) i y) ∧ ∀ y, x.1.2 10 y = rvL L (u.2 10) i y) (fun x => 200 - x.2.toNat) ?_ ⟨0, Nat.zero_le _, rfl, md_F.rf, fun y => by unfold rvS; rw [if_neg (fun z => absurd z.1 (Nat.not_lt_zero y))], fun y => by unfold rvL; rw [if_neg (fun z => absurd z.1 (Nat.not_lt_zero _))]⟩ (by rw [gt_fuel_eq]; omega)
  intro kk ⟨x1, x2⟩ ⟨i, hi, e1, e2, e3, e4⟩ ih
  simp only at e1 e2 e3 e4
  subst e1
  unfold fX6_reverse_89
  simp only
  rw [e2.1 5 (by decide), h.1]
  refine wp_if (fun c1 => wp_ifp (by decide) (wp_some ⟨rfl, e2, fun x => by rw [e3 x, show i = n by omega], fun x => by rw [e4 x, show i = n by omega]⟩)) (fun c1 => ?_)
  have hin : i < n := by omega
  obtain ⟨q0, hq0⟩ : ∃ q0 : Nat, (L i ∧ q0 = 2 ∧ u.2 16 i = 1) ∨ (¬ L i ∧ q0 = 0 ∧ u.2 16 i = 0) := by
    rcases hl i hin with z | z
    · exact ⟨2, Or.inl ⟨z.2, rfl, z.1⟩⟩
    · exact ⟨0, Or.inr ⟨z.2, rfl, z.1⟩⟩
  refine wp_loop (fun x => ∃ p : Nat, p ≤ 4 ∧ x.2.1 = (i : Int) ∧ x.2.2 = (p : Int) ∧ x.1.1 = x1.1 ∧ (∀ j, j ≠ 15 → x.1.2 j = x1.2 j) ∧ ∀ y, y < p → x.1.2 15 y = u.2 10 (4 * i + (q0 + y) % 4)) (fun x => 200 - x.2.2.toNat) ?_ ⟨0, Nat.zero_le _, rfl, rfl, rfl, fun _ _ => rfl, fun y hy => absurd hy (Nat.not_lt_zero y)⟩ (by rw [gt_fuel_eq]; omega)
  intro k2 ⟨w1, w2, w3⟩ ⟨p, hp, f1, f2, f3, f4, f5⟩ ih2
  simp only at f1 f2 f3 f4 f5
  subst f1; subst f2
  unfold fX6_reverse_99 fX6_reverse_132
  simp only
  refine wp_if (fun c2 => ?_) (fun c2 => ?_)
  · -- put back
    have hp4 : p = 4 := by omega
    subst hp4
    refine wp_loop (fun x => ∃ p : Nat, p ≤ 4 ∧ x.2.1 = (i : Int) ∧ x.2.2 = (p : Int) ∧ x.1.1 = x1.1 ∧ (∀ j, j ≠ 10 → j ≠ 15 → x.1.2 j = x1.2 j) ∧ x.1.2 15 = w1.2 15 ∧ ∀ y, x.1.2 10 y = if y / 4 = i ∧ y % 4 < p then u.2 10 (4 * i + (q0 + y % 4) % 4) else x1.2 10 y) (fun x => 200 - x.2.2.toNat) ?_ ⟨0, Nat.zero_le _, rfl, rfl, f3, fun j a b => f4 j b, rfl, fun y => by rw [if_neg (fun z => absurd z.2 (Nat.not_lt_zero _))]; show w1.2 10 y = _; rw [f4 10 (by decide)]⟩ (by rw [gt_fuel_eq]; omega)
    intro k3 ⟨v1, v2, v3⟩ ⟨p, hp, g1, g2, g3, g4, g5, g6⟩ ih3
    simp only at g1 g2 g3 g4 g5 g6
    subst g1; subst g2
    have ev9 : v1.2 9 i = u.2 9 i := by
      rw [g4 9 (by decide) (by decide), e3 i]; unfold rvS; rw [if_neg (fun z => by omega)]
    have hs : -1 ≤ u.2 9 i ∧ u.2 9 i ≤ 1 := by rcases h.2.2.1 i hin with e | e <;> rw [e] <;> decide
    have e16 : v1.2 16 i = u.2 16 i := by rw [g4 16 (by decide) (by decide), e2.2 16 (by decide)]
    have e17 : v1.2 17 i = u.2 17 i := by rw [g4 17 (by decide) (by decide), e2.2 17 (by decide)]
    unfold fX6_reverse_145 fX6_reverse_208
    simp only
    rw [Int.toNat_natCast, Int.toNat_natCast, show ((4 : Int) * (i : Int) + (p : Int)).toNat = 4 * i + p by omega, ev9, e16, e17]
    refine wp_if (fun c3 => ?_) (fun c3 => ?_)
    · have hp4 : p = 4 := by omega
      subst hp4
      have fin : ∀ s : Int, s = (@ite Int (¬ (L i ↔ U i)) (Classical.propDecidable _) (-(u.2 9 i)) (u.2 9 i)) → wp_Q (fun q => q.2 = 1 ∧ md_F [] [9, 10, 15] u q.1 ∧ (∀ x, q.1.2 9 x = rvS L U (u.2 9) n x) ∧ ∀ x, q.1.2 10 x = rvL L (u.2 10) n x) (if (0 ≤ ((i : Nat) : Int) ∧ ((i : Nat) : Int) < 20) ∧ (-2147483648 ≤ ((i : Nat) : Int) + (1 : Int) ∧ ((i : Nat) : Int) + (1 : Int) < 2147483648) then kk ((v1.1, (va_up v1.2 9 (va_up (v1.2 9) i s))), ((i : Nat) : Int) + (1 : Int)) else none) := by
        intro s hs'
        refine wp_ifp (by omega) (ih _ ⟨i + 1, by omega, by simp only; omega, ?_, fun y => ?_, fun y => ?_⟩ (by simp only; omega))
        · refine ⟨fun j _ => ?_, fun j hj => ?_⟩
          · show v1.1 j = u.1 j; rw [g3]; exact e2.1 j (by simp)
          · simp only [List.mem_cons, List.not_mem_nil, or_false, not_or] at hj
            simp only [va_up, hj.1, ↓reduceIte]
            rw [g4 j hj.2.1 hj.2.2]; exact e2.2 j (by simp [hj])
        · simp only [va_up, ↓reduceIte]
          by_cases z : y = i
          · subst z
            rw [if_pos rfl, hs']; unfold rvS
            by_cases w : L y ↔ U y
            · rw [if_neg (fun q => q w), if_neg (fun q => q.2 w)]
            · rw [if_pos w, if_pos ⟨by omega, w⟩]
          · rw [if_neg z, g4 9 (by decide) (by decide), e3 y]; unfold rvS
            by_cases w : y < i ∧ ¬ (L y ↔ U y)
            · rw [if_pos w, if_pos ⟨by omega, w.2⟩]
            · rw [if_neg w, if_neg (fun q => w ⟨by omega, q.2⟩)]
        · simp only [va_up, Nat.reduceEqDiff, ↓reduceIte]
          rw [g6 y]; unfold rvL
          by_cases z : y / 4 = i
          · rw [if_pos ⟨z, by omega⟩]
            rcases hq0 with ⟨w1, w2, _⟩ | ⟨w1, w2, _⟩
            · rw [if_pos ⟨by omega, by rw [z]; exact w1⟩]
              exact congrArg (u.2 10) (by omega)
            · rw [if_neg (fun q => w1 (by rw [← z]; exact q.2))]
              exact congrArg (u.2 10) (by omega)
          · rw [if_neg (fun q => z q.1), e4 y]; unfold rvL
            by_cases w : y / 4 < i ∧ L (y / 4)
            · rw [if_pos w, if_pos ⟨by omega, w.2⟩]
            · rw [if_neg w, if_neg (fun q => w ⟨by omega, q.2⟩)]
      refine wp_ifp (by omega) (wp_if (fun c4 => wp_ifp (by omega) (fin _ ?_)) (fun c4 => wp_ifp (by omega) (fin _ ?_)))
      · have hLU : L i ↔ U i := by
          rcases hl i hin with z | z <;> rcases hup i hin with w | w
          · exact ⟨fun _ => w.2, fun _ => z.2⟩
          · omega
          · omega
          · exact ⟨fun q => absurd q z.2, fun q => absurd q w.2⟩
        rw [if_neg (fun q => q hLU)]
      · have hLU : ¬ (L i ↔ U i) := fun q => by
          rcases hl i hin with z | z <;> rcases hup i hin with w | w
          · omega
          · exact absurd (q.mp z.2) w.2
          · exact absurd (q.mpr w.2) z.2
          · omega
        rw [if_pos hLU]
    · refine wp_ifp (by omega) (ih3 _ ⟨p + 1, by omega, rfl, by simp only; omega, g3, fun j a b => ?_, ?_, fun y => ?_⟩ (by simp only; omega))
      · simp only [va_up, a, ↓reduceIte]; exact g4 j a b
      · simp only [va_up, Nat.reduceEqDiff, ↓reduceIte]; exact g5
      · simp only [va_up, ↓reduceIte]
        rw [g5, f5 p (by omega)]
        by_cases z : y = 4 * i + p
        · rw [if_pos z, if_pos ⟨by omega, by omega⟩, show y % 4 = p by omega]
        · rw [if_neg z, g6 y]
          by_cases w : y / 4 = i ∧ y % 4 < p
          · rw [if_pos w, if_pos ⟨w.1, by omega⟩]
          · rw [if_neg w, if_neg (by omega)]
  · have e16 : w1.2 16 i = u.2 16 i := by rw [f4 16 (by decide), e2.2 16 (by decide)]
    have e10 : ∀ z, z < 4 → w1.2 10 (4 * i + z) = u.2 10 (4 * i + z) := fun z hz => by
      rw [f4 10 (by decide), e4]; unfold rvL; rw [if_neg (fun q => by omega)]
    rw [Int.toNat_natCast, e16]
    have fin : ∀ s : Int, s = ((q0 + p : Nat) : Int) → wp_Q (fun q => q.2 = 1 ∧ md_F [] [9, 10, 15] u q.1 ∧ (∀ x, q.1.2 9 x = rvS L U (u.2 9) n x) ∧ ∀ x, q.1.2 10 x = rvL L (u.2 10) n x) (if 0 ≤ s ∧ (-2147483648 ≤ ((4 : Int) * ((i : Nat) : Int)) + (s % (4 : Int)) ∧ ((4 : Int) * ((i : Nat) : Int)) + (s % (4 : Int)) < 2147483648) ∧ (0 ≤ (((4 : Int) * ((i : Nat) : Int)) + (s % (4 : Int))) ∧ (((4 : Int) * ((i : Nat) : Int)) + (s % (4 : Int))) < 80) ∧ (0 ≤ ((p : Nat) : Int) ∧ ((p : Nat) : Int) < 80) ∧ (-2147483648 ≤ ((p : Nat) : Int) + (1 : Int) ∧ ((p : Nat) : Int) + (1 : Int) < 2147483648) then k2 ((w1.1, (va_up w1.2 15 (va_up (w1.2 15) ((p : Nat) : Int).toNat (w1.2 10 (((4 : Int) * ((i : Nat) : Int)) + (s % (4 : Int))).toNat)))), ((i : Nat) : Int), ((p : Nat) : Int) + (1 : Int)) else none) := by
      intro s hs
      subst hs
      refine wp_ifp (by omega) (ih2 _ ⟨p + 1, by omega, rfl, by simp only; omega, f3, fun j hj => ?_, fun y hy => ?_⟩ (by simp only; omega))
      · simp only [va_up, hj, ↓reduceIte]; exact f4 j hj
      · simp only [va_up, ↓reduceIte, Int.toNat_natCast]
        rw [show ((4 : Int) * (i : Int) + ((q0 + p : Nat) : Int) % 4).toNat = 4 * i + (q0 + p) % 4 by omega, e10 _ (by omega)]
        by_cases z : y = p
        · rw [if_pos z, z]
        · rw [if_neg z]; exact f5 y (by omega)
    refine wp_ifp (by omega) (wp_if (fun c3 => fin _ ?_) (fun c3 => wp_ifp (by omega) (fin _ ?_)))
    · rcases hq0 with ⟨_, z, w⟩ | ⟨_, z, w⟩ <;> omega
    · rcases hq0 with ⟨_, z, w⟩ | ⟨_, z, w⟩ <;> omega
end MC
