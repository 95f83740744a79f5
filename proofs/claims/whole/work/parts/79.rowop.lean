/-! A row's changes: places begun elsewhere, signs flipped, edges joined, a crossing dropped. -/
section RO
variable {T : gt_T} {n k : Nat}
def rot (g : Nat → Int) (k q x : Nat) : Int := if x / 4 = k then g (4 * k + (x + q) % 4) else g x
theorem sX4_begin (h : rw_ok T n) (hk : k < n) {q : Nat} (hq : q ≤ 3) : wp_Q (fun T' => T'.1 = T.1 ∧ T'.2 0 = T.2 0 ∧ ∀ x, T'.2 1 x = rot (T.2 1) k q x) (fX4_beginPlacesAt T (k : Int) (q : Int)) := by
  have hn := h.2.1
  unfold fX4_beginPlacesAt
  have hh := sX4_has T (k : Int)
  rw [h.1, if_pos (by omega)] at hh
  refine wp_eq hh ?_
  refine wp_ifn (by decide) (wp_ifp (by omega) ?_)
  refine wp_loop (fun x => ∃ i : Nat, i ≤ q ∧ x.2.1 = (q : Int) ∧ x.2.2.1 = (4 : Int) * (k : Int) ∧ x.2.2.2 = (i : Int) ∧ x.1.1 = T.1 ∧ x.1.2 0 = T.2 0 ∧ ∀ y, x.1.2 1 y = rot (T.2 1) k i y) (fun x => 200 - x.2.2.2.toNat) ?_ ⟨0, Nat.zero_le _, rfl, rfl, rfl, rfl, rfl, fun y => by
    unfold rot
    split
    · show T.2 1 y = _; rw [show 4 * k + (y + 0) % 4 = y by omega]
    · rfl⟩ (by rw [gt_fuel_eq]; omega)
  intro kk ⟨x1, x2, x3, x4⟩ ⟨i, hi, e1, e2, e3, e4, e5, e6⟩ ih
  simp only at e1 e2 e3 e4 e5 e6
  subst e1; subst e2; subst e3
  have t0 : ((4 : Int) * (k : Int)).toNat = 4 * k := by omega
  have t1 : ((4 : Int) * (k : Int) + 1).toNat = 4 * k + 1 := by omega
  have t2 : ((4 : Int) * (k : Int) + 2).toNat = 4 * k + 2 := by omega
  have t3 : ((4 : Int) * (k : Int) + 3).toNat = 4 * k + 3 := by omega
  unfold fX4_beginPlacesAt_16
  simp only [t0, t1, t2, t3]
  refine wp_if (fun c1 => wp_some ⟨e4, e5, fun x => by rw [e6 x, show i = q by omega]⟩) (fun c1 => wp_ifp (by omega) (ih _ ⟨i + 1, by omega, rfl, rfl, by simp only; omega, e4, ?_, fun y => ?_⟩ (by simp only; omega)))
  · simp only [va_up, Nat.reduceEqDiff, ↓reduceIte]; exact e5
  · simp only [va_up, ↓reduceIte]
    by_cases z3 : y = 4 * k + 3
    · rw [if_pos z3, e6]
      unfold rot
      rw [if_pos (by omega), if_pos (by omega)]
      exact congrArg (T.2 1) (by omega)
    · rw [if_neg z3]
      by_cases z2 : y = 4 * k + 2
      · rw [if_pos z2, if_neg (by omega), if_neg (by omega), e6]
        unfold rot
        rw [if_pos (by omega), if_pos (by omega)]
        exact congrArg (T.2 1) (by omega)
      · rw [if_neg z2]
        by_cases z1 : y = 4 * k + 1
        · rw [if_pos z1, if_neg (by omega), e6]
          unfold rot
          rw [if_pos (by omega), if_pos (by omega)]
          exact congrArg (T.2 1) (by omega)
        · rw [if_neg z1]
          by_cases z0 : y = 4 * k
          · rw [if_pos z0, e6]
            unfold rot
            rw [if_pos (by omega), if_pos (by omega)]
            exact congrArg (T.2 1) (by omega)
          · rw [if_neg z0, e6]
            unfold rot
            rw [if_neg (by omega), if_neg (by omega)]
def flp (g : Nat → Int) (k x : Nat) : Int := if x = k then -(g x) else g x
theorem sX4_flip (h : rw_ok T n) (hk : k < n) : wp_Q (fun T' => T'.1 = T.1 ∧ T'.2 1 = T.2 1 ∧ ∀ x, T'.2 0 x = flp (T.2 0) k x) (fX4_flipSign T (k : Int)) := by
  have hn := h.2.1
  unfold fX4_flipSign fX4_flipSign_21
  have hh := sX4_has T (k : Int)
  rw [h.1, if_pos (by omega)] at hh
  refine wp_eq hh ?_
  rw [Int.toNat_natCast]
  have hs : -1 ≤ T.2 0 k ∧ T.2 0 k ≤ 1 := by rcases h.2.2.1 k hk with e | e <;> rw [e] <;> decide
  refine wp_ifn (by decide) (wp_ifp (by omega) (wp_some ⟨rfl, ?_, fun x => ?_⟩))
  · simp only [va_up, Nat.reduceEqDiff, ↓reduceIte]
  · simp only [va_up, ↓reduceIte]
    unfold flp
    by_cases z : x = k
    · rw [if_pos z, if_pos z, z]
    · rw [if_neg z, if_neg z]
theorem sX4_exchange (h : rw_ok T n) (hk : k < n) : wp_Q (fun T' => T'.1 = T.1 ∧ (∀ x, T'.2 0 x = flp (T.2 0) k x) ∧ ∀ x, T'.2 1 x = rot (T.2 1) k (na_ui (T.2 0) k) x) (fX4_exchangeStrands T (k : Int)) := by
  have hn := h.2.1
  have hu : na_ui (T.2 0) k = 1 ∨ na_ui (T.2 0) k = 3 := by unfold na_ui; split <;> simp
  unfold fX4_exchangeStrands
  refine wp_eq (sX4_upperIn h hk) (wp_ifp (by omega) ?_)
  rw [show ((4 * k + na_ui (T.2 0) k : Nat) : Int) % 4 = ((na_ui (T.2 0) k : Nat) : Int) by omega]
  refine wp_bind (sX4_begin h hk (by omega)) (fun T1 ⟨a1, a2, a3⟩ => ?_)
  have h1 : rw_ok T1 n := by
    refine ⟨by rw [a1]; exact h.1, hn, fun j hj => by rw [a2]; exact h.2.2.1 j hj, fun x hx => ?_⟩
    rw [a3 x]; unfold rot
    split
    · exact h.2.2.2 _ (by omega)
    · exact h.2.2.2 x hx
  refine wp_bind (sX4_flip h1 hk) (fun T2 ⟨b1, b2, b3⟩ => wp_some ⟨by rw [b1, a1], fun x => by rw [b3 x, a2], fun x => by rw [b2, a3 x]⟩)
theorem rw_ok.of {T' : gt_T} (h : rw_ok T n) (e : T'.1 = T.1) (hs : ∀ j, j < n → T'.2 0 j = T.2 0 j ∨ T'.2 0 j = -(T.2 0 j)) (hl : ∀ x, x < 4 * n → ∃ y, y < 4 * n ∧ T'.2 1 x = T.2 1 y) : rw_ok T' n := by
  refine ⟨by rw [e]; exact h.1, h.2.1, fun j hj => ?_, fun x hx => ?_⟩
  · rcases hs j hj with z | z <;> rcases h.2.2.1 j hj with w | w <;> rw [z, w] <;> decide
  · obtain ⟨y, y1, y2⟩ := hl x hx
    rw [y2]; exact h.2.2.2 y y1
def mirS (g : Nat → Int) (i x : Nat) : Int := if x < i then -(g x) else g x
def mirL (g s : Nat → Int) (i x : Nat) : Int := if x / 4 < i then g (4 * (x / 4) + (x + na_ui s (x / 4)) % 4) else g x
theorem sX4_mirror (h : rw_ok T n) : wp_Q (fun T' => T'.1 = T.1 ∧ (∀ x, T'.2 0 x = mirS (T.2 0) n x) ∧ ∀ x, T'.2 1 x = mirL (T.2 1) (T.2 0) n x) (fX4_exchangeAllStrands T) := by
  have hn := h.2.1
  unfold fX4_exchangeAllStrands
  refine wp_loop (fun x => ∃ i : Nat, i ≤ n ∧ x.2 = (i : Int) ∧ x.1.1 = T.1 ∧ (∀ y, x.1.2 0 y = mirS (T.2 0) i y) ∧ ∀ y, x.1.2 1 y = mirL (T.2 1) (T.2 0) i y) (fun x => 200 - x.2.toNat) ?_ ⟨0, Nat.zero_le _, rfl, rfl, fun y => by unfold mirS; rw [if_neg (Nat.not_lt_zero y)], fun y => by unfold mirL; rw [if_neg (Nat.not_lt_zero _)]⟩ (by rw [gt_fuel_eq]; omega)
  intro kk ⟨x1, x2⟩ ⟨i, hi, e1, e2, e3, e4⟩ ih
  simp only at e1 e2 e3 e4
  subst e1
  unfold fX4_exchangeAllStrands_2
  simp only
  rw [e2, h.1]
  refine wp_if (fun c1 => wp_some ⟨e2, fun x => by rw [e3 x, show i = n by omega], fun x => by rw [e4 x, show i = n by omega]⟩) (fun c1 => ?_)
  have hin : i < n := by omega
  have h1 : rw_ok x1 n := h.of e2 (fun j hj => by
    rw [e3 j]; unfold mirS
    split
    · exact Or.inr rfl
    · exact Or.inl rfl) (fun x hx => by
    rw [e4 x]; unfold mirL
    split
    · exact ⟨_, by omega, rfl⟩
    · exact ⟨x, hx, rfl⟩)
  have e3i : x1.2 0 i = T.2 0 i := by rw [e3 i]; unfold mirS; rw [if_neg (by omega)]
  have eui : na_ui (x1.2 0) i = na_ui (T.2 0) i := by unfold na_ui; rw [e3i]
  refine wp_bind (sX4_exchange h1 hin) (fun T1 ⟨a1, a2, a3⟩ => wp_ifp (by omega) (ih _ ⟨i + 1, by omega, by simp only; omega, by rw [a1, e2], fun y => ?_, fun y => ?_⟩ (by simp only; omega)))
  · simp only
    rw [a2 y]; unfold flp
    rw [e3 y]; unfold mirS
    by_cases z : y = i
    · rw [if_pos z, if_neg (by omega), if_pos (by omega)]
    · by_cases z' : y < i
      · rw [if_neg z, if_pos z', if_pos (by omega)]
      · rw [if_neg z, if_neg z', if_neg (by omega)]
  · simp only
    rw [a3 y, eui]; unfold rot
    by_cases z : y / 4 = i
    · rw [if_pos z, e4]; unfold mirL
      rw [if_neg (by omega), if_pos (by omega), z]
    · rw [if_neg z, e4 y]; unfold mirL
      by_cases z' : y / 4 < i
      · rw [if_pos z', if_pos (by omega)]
      · rw [if_neg z', if_neg (by omega)]
theorem sX4_setLabel (h : T.1 2 = (n : Int)) (hn : n ≤ 20) {a : Nat} (ha : a < 4 * n) (v : Int) : fX4_setLabel T (a : Int) v = some (T.1, va_up T.2 1 (va_up (T.2 1) a v)) := by
  unfold fX4_setLabel fX4_setLabel_19
  refine wp_get (wp_ifn (by omega) (wp_eq (sX4_spots h hn) (wp_ifn (by omega) (wp_ifp (by omega) (wp_some ?_)))))
  rw [Int.toNat_natCast]
theorem sX4_turn (h : rw_ok T n) (hk : k < n) {lo up : Int} (h1 : lo = 0 ∨ lo = 1) (h2 : up = 0 ∨ up = 1) : wp_Q (fun T' => T'.1 = T.1 ∧ (∀ x, T'.2 0 x = if lo = up then T.2 0 x else flp (T.2 0) k x) ∧ ∀ x, T'.2 1 x = if lo = 0 then T.2 1 x else rot (T.2 1) k 2 x) (fX4_turnStrands T (k : Int) lo up) := by
  have hn := h.2.1
  have step2 : ∀ T1 : gt_T, rw_ok T1 n → wp_Q (fun T' => T'.1 = T1.1 ∧ T'.2 1 = T1.2 1 ∧ ∀ x, T'.2 0 x = if lo = up then T1.2 0 x else flp (T1.2 0) k x) (fX4_turnStrands_10 T1 (k : Int) lo up) := fun T1 hT1 => by
    unfold fX4_turnStrands_10 fX4_turnStrands_20
    refine wp_if (fun d => wp_some ⟨rfl, rfl, fun x => by rw [if_pos d]⟩) (fun d => wp_bind (sX4_flip hT1 hk) (fun T2 ⟨b1, b2, b3⟩ => wp_some ⟨b1, b2, fun x => by rw [b3 x, if_neg d]⟩))
  unfold fX4_turnStrands
  refine wp_if (fun d => ?_) (fun d => ?_)
  · refine wp_mono (step2 T h) (fun T' ⟨a, b, c⟩ => ⟨a, c, fun x => by rw [b, if_pos d]⟩)
  · refine wp_bind (sX4_begin h hk (q := 2) (by omega)) (fun T1 ⟨a1, a2, a3⟩ => ?_)
    have hT1 : rw_ok T1 n := h.of a1 (fun j hj => by rw [a2]; exact Or.inl rfl) (fun x hx => by
      rw [a3 x]; unfold rot
      split
      · exact ⟨_, by omega, rfl⟩
      · exact ⟨x, hx, rfl⟩)
    refine wp_mono (step2 T1 hT1) (fun T' ⟨a, b, c⟩ => ⟨by rw [a, a1], fun x => by rw [c x, a2], fun x => by rw [b, a3 x, if_neg d]⟩)
theorem sX4_join (h : T.1 2 = (n : Int)) (hn : n ≤ 20) (u v : Int) : wp_Q (fun q => q.1.1 = T.1 ∧ q.1.2 0 = T.2 0 ∧ (∀ x, x < 4 * n → q.1.2 1 x = mrg (T.2 1) u v x) ∧ q.2 = if u = v then 1 else 0) (fX4_joinEdges T u v) := by
  unfold fX4_joinEdges
  refine wp_if (fun d => wp_some ⟨rfl, rfl, fun x _ => ?_, by rw [if_pos d]⟩) (fun d => ?_)
  · subst d
    show T.2 1 x = _
    unfold mrg
    split <;> omega
  · rw [if_neg d]
    refine wp_loop (fun x => ∃ i : Nat, i ≤ 4 * n ∧ x.2.1 = min u v ∧ x.2.2.1 = max u v ∧ x.2.2.2 = (i : Int) ∧ x.1.1 = T.1 ∧ x.1.2 0 = T.2 0 ∧ ∀ y, x.1.2 1 y = if y < i then mrg (T.2 1) u v y else T.2 1 y) (fun x => 200 - x.2.2.2.toNat) ?_ ⟨0, Nat.zero_le _, rfl, rfl, rfl, rfl, rfl, fun y => by rw [if_neg (Nat.not_lt_zero y)]⟩ (by rw [gt_fuel_eq]; omega)
    intro kk ⟨x1, x2, x3, x4⟩ ⟨i, hi, e1, e2, e3, e4, e5, e6⟩ ih
    simp only at e1 e2 e3 e4 e5 e6
    subst e1; subst e2; subst e3
    unfold fX4_joinEdges_23 fX4_joinEdges_52
    simp only
    refine wp_eq (sX4_spots (n := n) (by rw [e4]; exact h) hn) ?_
    refine wp_if (fun c1 => wp_some ⟨e4, e5, fun x hx => by rw [e6 x, if_pos (by omega)], rfl⟩) (fun c1 => wp_ifp (by omega) ?_)
    have e6i : x1.2 1 i = T.2 1 i := by rw [e6 i, if_neg (by omega)]
    rw [Int.toNat_natCast, e6i]
    refine wp_if (fun c2 => wp_ifp (by omega) (wp_ifp (by omega) (ih _ ⟨i + 1, by omega, rfl, rfl, by simp only; omega, e4, ?_, fun y => ?_⟩ (by simp only; omega)))) (fun c2 => wp_ifp (by omega) (ih _ ⟨i + 1, by omega, rfl, rfl, by simp only; omega, e4, e5, fun y => ?_⟩ (by simp only; omega)))
    · simp only [va_up, Nat.reduceEqDiff, ↓reduceIte]; exact e5
    · simp only [va_up, ↓reduceIte]
      by_cases z : y = i
      · rw [if_pos z, if_pos (by omega), z]; unfold mrg; rw [if_pos c2]
      · rw [if_neg z, e6 y]
        by_cases z' : y < i
        · rw [if_pos z', if_pos (by omega)]
        · rw [if_neg z', if_neg (by omega)]
    · simp only
      rw [e6 y]
      by_cases z : y = i
      · rw [if_neg (by omega), if_pos (by omega), z]; unfold mrg; rw [if_neg c2]
      · by_cases z' : y < i
        · rw [if_pos z', if_pos (by omega)]
        · rw [if_neg z', if_neg (by omega)]
theorem sX4_drop38 {t : gt_T} (h : t.1 2 = ((n + 1 : Nat) : Int)) (hn : n < 20) (hk : k ≤ n) : wp_Q (fun T' => T'.1 2 = (n : Int) ∧ T'.2 0 = t.2 0 ∧ ∀ x, x < 4 * n → T'.2 1 x = t.2 1 (hol (4 * k) x)) (gt_loop fX4_dropCrossing_38 gt_fuel (t, ((4 : Int) * (k : Int)) + (4 : Int))) := by
  refine wp_loop (fun x => ∃ i : Nat, 4 * k + 4 ≤ i ∧ i ≤ 4 * n + 4 ∧ x.2 = (i : Int) ∧ x.1.1 = t.1 ∧ x.1.2 0 = t.2 0 ∧ (∀ y, y + 4 < i → x.1.2 1 y = t.2 1 (hol (4 * k) y)) ∧ ∀ y, i ≤ y + 4 → x.1.2 1 y = t.2 1 y) (fun x => 200 - x.2.toNat) ?_ ⟨4 * k + 4, Nat.le_refl _, by omega, by simp only; omega, rfl, rfl, fun y hy => by unfold hol; rw [if_pos (by omega)], fun y _ => rfl⟩ (by rw [gt_fuel_eq]; omega)
  intro kk ⟨x1, x2⟩ ⟨i, hi, hi2, e1, e2, e3, e4, e5⟩ ih
  simp only at e1 e2 e3 e4 e5
  subst e1
  unfold fX4_dropCrossing_38
  simp only
  refine wp_eq (sX4_spots (n := n + 1) (by rw [e2]; exact h) (by omega)) ?_
  rw [e2, h]
  refine wp_if (fun c1 => wp_ifp (by omega) (wp_some ⟨?_, e3, fun x hx => e4 x (by omega)⟩)) (fun c1 => wp_ifp (by omega) (ih _ ⟨i + 1, by omega, by omega, by simp only; omega, rfl, ?_, fun y hy => ?_, fun y hy => ?_⟩ (by simp only; omega)))
  · simp only [va_up, ↓reduceIte]; omega
  · simp only [va_up, Nat.reduceEqDiff, ↓reduceIte]; exact e3
  · simp only [va_up, ↓reduceIte]
    rw [show ((i : Int) - 4).toNat = i - 4 by omega, Int.toNat_natCast]
    by_cases z : y = i - 4
    · rw [if_pos z, e5 i (by omega)]; unfold hol; rw [if_neg (by omega), show y + 4 = i by omega]
    · rw [if_neg z]; exact e4 y (by omega)
  · simp only [va_up, ↓reduceIte]
    rw [show ((i : Int) - 4).toNat = i - 4 by omega, if_neg (by omega)]
    exact e5 y (by omega)
theorem sX4_drop (h : T.1 2 = ((n + 1 : Nat) : Int)) (hn : n < 20) (hk : k ≤ n) : wp_Q (fun T' => T'.1 2 = (n : Int) ∧ (∀ x, x < n → T'.2 0 x = T.2 0 (if x < k then x else x + 1)) ∧ ∀ x, x < 4 * n → T'.2 1 x = T.2 1 (hol (4 * k) x)) (fX4_dropCrossing T (k : Int)) := by
  unfold fX4_dropCrossing
  refine wp_ifp (by omega) ?_
  refine wp_loop (fun x => ∃ i : Nat, k + 1 ≤ i ∧ i ≤ n + 1 ∧ x.2.1 = (k : Int) ∧ x.2.2 = (i : Int) ∧ x.1.1 = T.1 ∧ x.1.2 1 = T.2 1 ∧ (∀ y, y + 1 < i → x.1.2 0 y = T.2 0 (if y < k then y else y + 1)) ∧ ∀ y, i ≤ y + 1 → x.1.2 0 y = T.2 0 y) (fun x => 200 - x.2.2.toNat) ?_ ⟨k + 1, Nat.le_refl _, by omega, rfl, by simp only; omega, rfl, rfl, fun y hy => by rw [if_pos (by omega)], fun y _ => rfl⟩ (by rw [gt_fuel_eq]; omega)
  intro kk ⟨x1, x2, x3⟩ ⟨i, hi, hi2, e1, e2, e3, e4, e5, e6⟩ ih
  simp only at e1 e2 e3 e4 e5 e6
  subst e1; subst e2
  unfold fX4_dropCrossing_4
  simp only
  rw [e3, h]
  refine wp_if (fun c1 => wp_ifp (by omega) (wp_mono (sX4_drop38 (t := x1) (by rw [e3]; exact h) hn hk) (fun T' ⟨a, b, c⟩ => ⟨a, fun x hx => by rw [b]; exact e5 x (by omega), fun x hx => by rw [c x hx, e4]⟩))) (fun c1 => wp_ifp (by omega) (ih _ ⟨i + 1, by omega, by omega, rfl, by simp only; omega, rfl, ?_, fun y hy => ?_, fun y hy => ?_⟩ (by simp only; omega)))
  · simp only [va_up, Nat.reduceEqDiff, ↓reduceIte]; exact e4
  · simp only [va_up, ↓reduceIte]
    rw [show ((i : Int) - 1).toNat = i - 1 by omega, Int.toNat_natCast]
    by_cases z : y = i - 1
    · rw [if_pos z, e6 i (by omega), if_neg (by omega), show y + 1 = i by omega]
    · rw [if_neg z]; exact e5 y (by omega)
  · simp only [va_up, ↓reduceIte]
    rw [show ((i : Int) - 1).toNat = i - 1 by omega, if_neg (by omega)]
    exact e6 y (by omega)
end RO
