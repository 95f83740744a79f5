/-! The call smooth. -/
section SM
variable {T t : gt_T} {n k : Nat}
theorem mrg_c {g g' : Nat → Int} {u v : Int} {x y : Nat} (h : g x = g' y) : mrg g u v x = mrg g' u v y := by unfold mrg; rw [h]
theorem rn46 {u : gt_T} (a b : Int) : wp_Q (fun t' => t'.1 = u.1 ∧ (∀ j, j ≠ 15 → t'.2 j = u.2 j) ∧ ∀ p, p < 4 → t'.2 15 p = if u.2 15 p = a then b else u.2 15 p) (gt_loop fX6_rename_46 gt_fuel (u, a, b, (0 : Int))) := by
  refine wp_loop (fun x => ∃ p : Nat, p ≤ 4 ∧ x.2.1 = a ∧ x.2.2.1 = b ∧ x.2.2.2 = (p : Int) ∧ x.1.1 = u.1 ∧ (∀ j, j ≠ 15 → x.1.2 j = u.2 j) ∧ (∀ y, y < p → x.1.2 15 y = if u.2 15 y = a then b else u.2 15 y) ∧ ∀ y, p ≤ y → x.1.2 15 y = u.2 15 y) (fun x => 200 - x.2.2.2.toNat) ?_ ⟨0, Nat.zero_le _, rfl, rfl, rfl, rfl, fun _ _ => rfl, fun y hy => absurd hy (Nat.not_lt_zero y), fun _ _ => rfl⟩ (by rw [gt_fuel_eq]; omega)
  intro kk ⟨x1, x2, x3, x4⟩ ⟨p, hp, e1, e2, e3, e4, e5, e6, e7⟩ ih
  simp only at e1 e2 e3 e4 e5 e6 e7
  subst e1; subst e2; subst e3
  unfold fX6_rename_46 fX6_rename_76
  simp only
  rw [Int.toNat_natCast, e7 p (Nat.le_refl p)]
  have nxt : ∀ v : Int, v = (if u.2 15 p = x2 then x3 else u.2 15 p) → p < 4 → wp_Q (fun t' => t'.1 = u.1 ∧ (∀ j, j ≠ 15 → t'.2 j = u.2 j) ∧ ∀ p, p < 4 → t'.2 15 p = if u.2 15 p = x2 then x3 else u.2 15 p) (if (0 ≤ ((p : Nat) : Int) ∧ ((p : Nat) : Int) < 80) ∧ (-2147483648 ≤ ((p : Nat) : Int) + (1 : Int) ∧ ((p : Nat) : Int) + (1 : Int) < 2147483648) then kk ((x1.1, (va_up x1.2 15 (va_up (x1.2 15) p v))), x2, x3, ((p : Nat) : Int) + (1 : Int)) else none) := by
    intro v hv hp4
    refine wp_ifp (by omega) (ih _ ⟨p + 1, by omega, rfl, rfl, by simp only; omega, e4, fun j hj => ?_, fun y hy => ?_, fun y hy => ?_⟩ (by simp only; omega))
    · simp only [va_up, hj, ↓reduceIte]; exact e5 j hj
    · simp only [va_up, ↓reduceIte]
      by_cases z : y = p
      · rw [if_pos z, z, hv]
      · rw [if_neg z]; exact e6 y (by omega)
    · simp only [va_up, ↓reduceIte]
      rw [if_neg (by omega)]; exact e7 y (by omega)
  refine wp_if (fun c1 => wp_some ⟨e4, e5, fun y hy => e6 y (by omega)⟩) (fun c1 => wp_ifp (by omega) (wp_if (fun c2 => nxt _ (by rw [if_pos c2]) (by omega)) (fun c2 => wp_ifp (by omega) (nxt _ (by rw [if_neg c2]) (by omega)))))
theorem mRename (h5 : t.1 5 = (n : Int)) (hn : n ≤ 20) (a b : Int) : wp_Q (fun t' => t'.1 = t.1 ∧ (∀ j, j ≠ 10 → j ≠ 15 → t'.2 j = t.2 j) ∧ (∀ x, x < 4 * n → t'.2 10 x = if t.2 10 x = a then b else t.2 10 x) ∧ ∀ p, p < 4 → t'.2 15 p = if t.2 15 p = a then b else t.2 15 p) (fX6_rename t a b) := by
  unfold fX6_rename
  refine wp_loop (fun x => ∃ p : Nat, p ≤ 4 * n ∧ x.2.1 = a ∧ x.2.2.1 = b ∧ x.2.2.2 = (p : Int) ∧ x.1.1 = t.1 ∧ (∀ j, j ≠ 10 → x.1.2 j = t.2 j) ∧ (∀ y, y < p → x.1.2 10 y = if t.2 10 y = a then b else t.2 10 y) ∧ ∀ y, p ≤ y → x.1.2 10 y = t.2 10 y) (fun x => 200 - x.2.2.2.toNat) ?_ ⟨0, Nat.zero_le _, rfl, rfl, rfl, rfl, fun _ _ => rfl, fun y hy => absurd hy (Nat.not_lt_zero y), fun _ _ => rfl⟩ (by rw [gt_fuel_eq]; omega)
  intro kk ⟨x1, x2, x3, x4⟩ ⟨p, hp, e1, e2, e3, e4, e5, e6, e7⟩ ih
  simp only at e1 e2 e3 e4 e5 e6 e7
  subst e1; subst e2; subst e3
  unfold fX6_rename_2 fX6_rename_37
  simp only
  rw [Int.toNat_natCast, e7 p (Nat.le_refl p), e4, h5]
  have nxt : ∀ v : Int, v = (if t.2 10 p = x2 then x3 else t.2 10 p) → p < 4 * n → wp_Q (fun t' => t'.1 = t.1 ∧ (∀ j, j ≠ 10 → j ≠ 15 → t'.2 j = t.2 j) ∧ (∀ x, x < 4 * n → t'.2 10 x = if t.2 10 x = x2 then x3 else t.2 10 x) ∧ ∀ p, p < 4 → t'.2 15 p = if t.2 15 p = x2 then x3 else t.2 15 p) (if (0 ≤ ((p : Nat) : Int) ∧ ((p : Nat) : Int) < 80) ∧ (-2147483648 ≤ ((p : Nat) : Int) + (1 : Int) ∧ ((p : Nat) : Int) + (1 : Int) < 2147483648) then kk ((t.1, (va_up x1.2 10 (va_up (x1.2 10) p v))), x2, x3, ((p : Nat) : Int) + (1 : Int)) else none) := by
    intro v hv hp4
    refine wp_ifp (by omega) (ih _ ⟨p + 1, by omega, rfl, rfl, by simp only; omega, rfl, fun j hj => ?_, fun y hy => ?_, fun y hy => ?_⟩ (by simp only; omega))
    · simp only [va_up, hj, ↓reduceIte]; exact e5 j hj
    · simp only [va_up, ↓reduceIte]
      by_cases z : y = p
      · rw [if_pos z, z, hv]
      · rw [if_neg z]; exact e6 y (by omega)
    · simp only [va_up, ↓reduceIte]
      rw [if_neg (by omega)]; exact e7 y (by omega)
  refine wp_ifp (by omega) (wp_if (fun c1 => wp_mono (rn46 (u := x1) x2 x3) (fun t' ⟨a1, a2, a3⟩ => ⟨by rw [a1, e4], fun j z1 z2 => by rw [a2 j z2, e5 j z1], fun x hx => by rw [a2 10 (by decide)]; exact e6 x (by omega), fun p hp => by rw [a3 p hp, e5 15 (by decide)]⟩)) (fun c1 => wp_ifp (by omega) (wp_if (fun c2 => nxt _ (by rw [if_pos c2]) (by omega)) (fun c2 => wp_ifp (by omega) (nxt _ (by rw [if_neg c2]) (by omega))))))
theorem mJoin (h5 : t.1 5 = (n : Int)) (hn : n ≤ 20) (h6 : 0 ≤ t.1 6 ∧ t.1 6 ≤ 100) (a b : Int) : wp_Q (fun t' => t'.1 6 = t.1 6 + (if a = b then 1 else 0) ∧ md_F [6] [10, 15] t t' ∧ (∀ x, x < 4 * n → t'.2 10 x = mrg (t.2 10) a b x) ∧ ∀ p, p < 4 → t'.2 15 p = mrg (t.2 15) a b p) (fX6_join t a b) := by
  have same : a = b → ∀ (g : Nat → Int) x, mrg g a b x = g x := fun e g x => by
    subst e; unfold mrg; split <;> omega
  unfold fX6_join fX6_join_42 fX6_join_29 fX6_join_39 fX6_join_42
  refine wp_if (fun d => wp_ifp (by omega) (wp_some ⟨?_, md_F.rf.i (by decide) _, fun x _ => ?_, fun p _ => ?_⟩)) (fun d => ?_)
  · simp only [va_up, ↓reduceIte]; rw [if_pos d]
  · rw [same d]
  · rw [same d]
  · have go : ∀ u v : Int, u = max a b → v = min a b → wp_Q (fun t' => t'.1 6 = t.1 6 + (if a = b then 1 else 0) ∧ md_F [6] [10, 15] t t' ∧ (∀ x, x < 4 * n → t'.2 10 x = mrg (t.2 10) a b x) ∧ ∀ p, p < 4 → t'.2 15 p = mrg (t.2 15) a b p) ((fX6_rename t u v).bind (fun (q39 : gt_T) => some q39)) := by
      intro u v hu hv
      subst hu; subst hv
      refine wp_bind (mRename h5 hn (max a b) (min a b)) (fun t' ⟨a1, a2, a3, a4⟩ => wp_some ⟨by rw [a1, if_neg d]; omega, ⟨fun j _ => by rw [a1], fun j hj => a2 j (fun z => hj (by rw [z]; decide)) (fun z => hj (by rw [z]; decide))⟩, fun x hx => by rw [a3 x hx]; rfl, fun p hp => by rw [a4 p hp]; rfl⟩)
    refine wp_if (fun d1 => wp_ifp d1 (go _ _ (by omega) (by omega))) (fun d1 => wp_ifn d1 (go _ _ (by omega) (by omega)))
theorem sm98 {u : gt_T} (h5 : u.1 5 = (n : Int)) (hn : n < 20) (h6 : 0 ≤ u.1 6 ∧ u.1 6 ≤ 90) (hk : k ≤ n) {a b a' b' : Int} (ha : u.2 15 0 = a) (hb : u.2 15 1 = b) (ha' : mrg (u.2 15) a b 2 = a') (hb' : mrg (u.2 15) a b 3 = b') : wp_Q (fun q => q.2 = 1 ∧ md_F [6] [9, 10, 15] u q.1 ∧ (∀ x, x < n → q.1.2 9 x = u.2 9 (if x < k then x else x + 1)) ∧ (∀ x, x < 4 * n → q.1.2 10 x = mrg (mrg (u.2 10) a b) a' b' (hol (4 * k) x)) ∧ q.1.1 6 = u.1 6 + (if a = b then 1 else 0) + (if a' = b' then 1 else 0)) (gt_loop fX6_smooth_98 gt_fuel (u, (k : Int))) := by
  refine wp_loop (fun x => ∃ i : Nat, k ≤ i ∧ i ≤ n ∧ x.2 = (i : Int) ∧ x.1.1 = u.1 ∧ (∀ j, j ≠ 9 → j ≠ 10 → x.1.2 j = u.2 j) ∧ (∀ y, y < i → x.1.2 9 y = u.2 9 (if y < k then y else y + 1)) ∧ (∀ y, i ≤ y → x.1.2 9 y = u.2 9 y) ∧ (∀ y, y < 4 * i → x.1.2 10 y = u.2 10 (hol (4 * k) y)) ∧ ∀ y, 4 * i ≤ y → x.1.2 10 y = u.2 10 y) (fun x => 200 - x.2.toNat) ?_ ⟨k, Nat.le_refl k, hk, rfl, rfl, fun _ _ _ => rfl, fun y hy => by rw [if_pos hy], fun _ _ => rfl, fun y hy => by unfold hol; rw [if_pos hy], fun _ _ => rfl⟩ (by rw [gt_fuel_eq]; omega)
  intro kk ⟨x1, x2⟩ ⟨i, hki, hi, e1, e2, e3, e4, e5, e6, e7⟩ ih
  simp only at e1 e2 e3 e4 e5 e6 e7
  subst e1
  unfold fX6_smooth_98
  simp only
  rw [e2, h5]
  refine wp_if (fun c1 => wp_ifp (by decide) ?_) (fun c1 => ?_)
  · have hin : i = n := by omega
    subst hin
    have z0 : x1.2 15 (0 : Int).toNat = a := by rw [e3 15 (by decide) (by decide)]; exact ha
    have z1 : x1.2 15 (1 : Int).toNat = b := by rw [e3 15 (by decide) (by decide)]; exact hb
    rw [z0, z1]
    refine wp_bind (mJoin (t := x1) (n := i) (by rw [e2]; exact h5) (by omega) (by rw [e2]; omega) a b) (fun t1 ⟨a1, a2, a3, a4⟩ => wp_ifp (by decide) ?_)
    have z2 : t1.2 15 (2 : Int).toNat = a' := by show t1.2 15 2 = a'; rw [a4 2 (by decide), ← ha', e3 15 (by decide) (by decide)]
    have z3 : t1.2 15 (3 : Int).toNat = b' := by show t1.2 15 3 = b'; rw [a4 3 (by decide), ← hb', e3 15 (by decide) (by decide)]
    rw [z2, z3]
    refine wp_bind (mJoin (t := t1) (n := i) (by rw [a2.1 5 (by decide), e2]; exact h5) (by omega) (by rw [a1, e2]; split <;> omega) a' b') (fun t2 ⟨b1, b2, b3, b4⟩ => wp_ifp (by decide) (wp_some ⟨rfl, ?_, fun x hx => ?_, fun x hx => ?_, ?_⟩))
    · refine ⟨fun j hj => ?_, fun j hj => ?_⟩
      · show t2.1 j = _
        rw [b2.1 j hj, a2.1 j hj, e2]
      · show t2.2 j = _
        simp only [List.mem_cons, List.not_mem_nil, or_false, not_or] at hj
        rw [b2.2 j (by simp [hj]), a2.2 j (by simp [hj]), e3 j hj.1 hj.2.1]
    · show t2.2 9 x = _
      rw [b2.2 9 (by decide), a2.2 9 (by decide)]; exact e4 x hx
    · show t2.2 10 x = _
      rw [b3 x hx]
      exact mrg_c (by rw [a3 x hx]; exact mrg_c (e6 x hx))
    · show t2.1 6 = _
      rw [b1, a1, e2]
  · have hin : i < n := by omega
    refine wp_ifp (by omega) ?_
    rw [Int.toNat_natCast, show ((i : Int) + 1).toNat = i + 1 by omega, e5 (i + 1) (by omega)]
    refine wp_loop (fun x => ∃ p : Nat, p ≤ 4 ∧ x.2.1 = (i : Int) ∧ x.2.2 = (p : Int) ∧ x.1.1 = u.1 ∧ (∀ j, j ≠ 9 → j ≠ 10 → x.1.2 j = u.2 j) ∧ x.1.2 9 = va_up (x1.2 9) i (u.2 9 (i + 1)) ∧ (∀ y, y < 4 * i + p → x.1.2 10 y = u.2 10 (hol (4 * k) y)) ∧ ∀ y, 4 * i + p ≤ y → x.1.2 10 y = u.2 10 y) (fun x => 200 - x.2.2.toNat) ?_ ⟨0, Nat.zero_le _, rfl, rfl, rfl, fun j z1 z2 => by simp only [va_up, z1, ↓reduceIte]; exact e3 j z1 z2, by simp only [va_up, ↓reduceIte], fun y hy => by simp only [va_up, Nat.reduceEqDiff, ↓reduceIte]; exact e6 y (by omega), fun y hy => by simp only [va_up, Nat.reduceEqDiff, ↓reduceIte]; exact e7 y (by omega)⟩ (by rw [gt_fuel_eq]; omega)
    intro k2 ⟨w1, w2, w3⟩ ⟨p, hp, f1, f2, f3, f4, f5, f6, f7⟩ ih2
    simp only at f1 f2 f3 f4 f5 f6 f7
    subst f1; subst f2
    unfold fX6_smooth_123
    simp only
    refine wp_if (fun c2 => wp_ifp (by omega) (ih _ ⟨i + 1, by omega, by omega, by simp only; omega, f3, f4, fun y hy => ?_, fun y hy => ?_, fun y hy => f6 y (by omega), fun y hy => f7 y (by omega)⟩ (by simp only; omega))) (fun c2 => wp_ifp (by omega) (ih2 _ ⟨p + 1, by omega, rfl, by simp only; omega, f3, fun j z1 z2 => ?_, ?_, fun y hy => ?_, fun y hy => ?_⟩ (by simp only; omega)))
    · show w1.2 9 y = _
      rw [f5]; unfold va_up
      by_cases z : y = i
      · rw [if_pos z, if_neg (by omega), z]
      · rw [if_neg z]; exact e4 y (by omega)
    · show w1.2 9 y = _
      rw [f5]; unfold va_up
      rw [if_neg (by omega)]; exact e5 y (by omega)
    · simp only [va_up, z2, ↓reduceIte]; exact f4 j z1 z2
    · simp only [va_up, Nat.reduceEqDiff, ↓reduceIte]; exact f5
    · simp only [va_up, ↓reduceIte]
      rw [show ((4 : Int) * (i : Int) + (p : Int)).toNat = 4 * i + p by omega, show ((4 : Int) * (i : Int) + 4 + (p : Int)).toNat = 4 * i + 4 + p by omega]
      by_cases z : y = 4 * i + p
      · rw [if_pos z, f7 _ (by omega)]; unfold hol; rw [if_neg (by omega)]
        exact congrArg (u.2 10) (by omega)
      · rw [if_neg z]; exact f6 y (by omega)
    · simp only [va_up, ↓reduceIte]
      rw [show ((4 : Int) * (i : Int) + (p : Int)).toNat = 4 * i + p by omega, if_neg (by omega)]
      exact f7 y (by omega)
/-- how many circles come -/
def smc (sg lb : Nat → Int) (k : Nat) : Int := (if lb (4 * k) = lb (4 * k + na_uo sg k) then 1 else 0) + (if sm_l1 sg lb k (4 * k + na_ui sg k) = sm_l1 sg lb k (4 * k + 2) then 1 else 0)
theorem mSmooth (h : rm_ok t (n + 1)) (hk : k ≤ n) (h6 : 0 ≤ t.1 6 ∧ t.1 6 ≤ 90) : wp_Q (fun q => q.2 = 1 ∧ md_F [5, 6] [9, 10, 15] t q.1 ∧ q.1.1 5 = (n : Int) ∧ (∀ x, x < n → q.1.2 9 x = t.2 9 (if x < k then x else x + 1)) ∧ (∀ x, x < 4 * n → q.1.2 10 x = sm_l2 (t.2 9) (t.2 10) k (hol (4 * k) x)) ∧ q.1.1 6 = t.1 6 + smc (t.2 9) (t.2 10) k) (fX6_smooth t (k : Int)) := by
  have hn := h.2.1
  have hu : (na_uo (t.2 9) k = 1 ∧ na_ui (t.2 9) k = 3) ∨ (na_uo (t.2 9) k = 3 ∧ na_ui (t.2 9) k = 1) := by unfold na_uo na_ui; split <;> simp
  have h1 := h.1
  unfold fX6_smooth
  rw [h1]
  refine wp_ifn (by omega) (wp_ifp (by omega) (wp_eq (sX6_upperIn h (show k < n + 1 by omega)) ?_))
  have t0 : ((4 : Int) * (k : Int)).toNat = 4 * k := by omega
  have t1 : ((4 : Int) * (k : Int) + (((na_ui (t.2 9) k : Nat) : Int) + 2) % 4).toNat = 4 * k + na_uo (t.2 9) k := by omega
  have t2 : ((4 : Int) * (k : Int) + ((na_ui (t.2 9) k : Nat) : Int)).toNat = 4 * k + na_ui (t.2 9) k := by omega
  have t3 : ((4 : Int) * (k : Int) + 2).toNat = 4 * k + 2 := by omega
  have t5 : (((n + 1 : Nat) : Int) - 1) = (n : Int) := by omega
  rw [t0, t1, t2, t3, t5]
  refine wp_ifp (by omega) ?_
  have key := fun u => @sm98 n k u
  generalize hu0 : (((va_up t.1 5 (n : Int)), _) : gt_T) = u0
  have g5 : u0.1 5 = (n : Int) := by rw [← hu0]; rfl
  have g6 : u0.1 6 = t.1 6 := by rw [← hu0]; rfl
  have gi : ∀ j, j ≠ 5 → u0.1 j = t.1 j := fun j hj => by rw [← hu0]; simp only [va_up, hj, ↓reduceIte]
  have ga : ∀ j, j ≠ 15 → u0.2 j = t.2 j := fun j hj => by rw [← hu0]; simp only [va_up, hj, ↓reduceIte]
  have k0 : u0.2 15 0 = t.2 10 (4 * k) := by rw [← hu0]; rfl
  have k1 : u0.2 15 1 = t.2 10 (4 * k + na_uo (t.2 9) k) := by rw [← hu0]; rfl
  have k2 : u0.2 15 2 = t.2 10 (4 * k + na_ui (t.2 9) k) := by rw [← hu0]; rfl
  have k3 : u0.2 15 3 = t.2 10 (4 * k + 2) := by rw [← hu0]; rfl
  refine wp_mono (key u0 g5 (by omega) (by rw [g6]; exact h6) hk k0 k1 (a' := sm_l1 (t.2 9) (t.2 10) k (4 * k + na_ui (t.2 9) k)) (b' := sm_l1 (t.2 9) (t.2 10) k (4 * k + 2)) (mrg_c k2) (mrg_c k3)) (fun q ⟨a1, a2, a3, a4, a5⟩ => ⟨a1, ⟨fun j hj => ?_, fun j hj => ?_⟩, ?_, fun x hx => by rw [a3 x hx, ga 9 (by decide)], fun x hx => by rw [a4 x hx, ga 10 (by decide)]; rfl, ?_⟩)
  · simp only [List.mem_cons, List.not_mem_nil, or_false, not_or] at hj
    rw [a2.1 j (by simp [hj]), gi j hj.1]
  · rw [a2.2 j hj]
    simp only [List.mem_cons, List.not_mem_nil, or_false, not_or] at hj
    exact ga j hj.2.2
  · rw [a2.1 5 (by decide)]; exact g5
  · rw [a5, g6]; unfold smc
    omega
theorem cSmooth (h : rw_ok T (n + 1)) (hk : k ≤ n) : wp_Q (fun q => q.1.1 2 = (n : Int) ∧ (∀ x, x < n → q.1.2 0 x = T.2 0 (if x < k then x else x + 1)) ∧ (∀ x, x < 4 * n → q.1.2 1 x = sm_l2 (T.2 0) (T.2 1) k (hol (4 * k) x)) ∧ q.2 = smc (T.2 0) (T.2 1) k) (fX4_smoothAway T (k : Int)) := by
  have hn := h.2.1
  have hk' : k < n + 1 := by omega
  have hu := na_uo_lt (T.2 0) k
  have hu' := na_ui_lt (T.2 0) k
  have hh := sX4_has T (k : Int)
  rw [h.1, if_pos (by omega)] at hh
  unfold fX4_smoothAway
  refine wp_eq hh (wp_ifn (by decide) ?_)
  refine wp_eq (sX4_lowerIn (by omega)) ?_
  refine wp_eq (sX4_labelN h (show 4 * k < 4 * (n + 1) by omega)) ?_
  refine wp_eq (sX4_upperOut h hk') ?_
  refine wp_eq (sX4_labelN h (show 4 * k + na_uo (T.2 0) k < 4 * (n + 1) by omega)) ?_
  refine wp_bind (sX4_join h.1 hn (T.2 1 (4 * k)) (T.2 1 (4 * k + na_uo (T.2 0) k))) (fun q1 ⟨a1, a2, a3, a4⟩ => ?_)
  have h1 : rw_ok q1.1 (n + 1) := h.of a1 (fun j _ => Or.inl (by rw [a2])) (fun x hx => by
    rw [a3 x hx]
    rcases mrg_in (T.2 1) (T.2 1 (4 * k)) (T.2 1 (4 * k + na_uo (T.2 0) k)) x with e | e | e
    · exact ⟨_, by omega, e⟩
    · exact ⟨_, by omega, e⟩
    · exact ⟨_, hx, e⟩)
  have hq1 : q1.2 = 0 ∨ q1.2 = 1 := by rw [a4]; split <;> simp
  refine wp_ifp (by omega) ?_
  refine wp_eq (sX4_upperIn h1 hk') ?_
  rw [a2]
  refine wp_eq (sX4_labelN h1 (show 4 * k + na_ui (T.2 0) k < 4 * (n + 1) by omega)) ?_
  refine wp_eq (sX4_lowerOut (by omega)) ?_
  refine wp_eq (sX4_labelN h1 (show 4 * k + 2 < 4 * (n + 1) by omega)) ?_
  rw [a3 _ (show 4 * k + na_ui (T.2 0) k < 4 * (n + 1) by omega), a3 _ (show 4 * k + 2 < 4 * (n + 1) by omega)]
  refine wp_bind (sX4_join h1.1 hn (sm_l1 (T.2 0) (T.2 1) k (4 * k + na_ui (T.2 0) k)) (sm_l1 (T.2 0) (T.2 1) k (4 * k + 2))) (fun q2 ⟨b1, b2, b3, b4⟩ => ?_)
  have hq2 : q2.2 = 0 ∨ q2.2 = 1 := by rw [b4]; split <;> simp
  refine wp_ifp (by omega) ?_
  refine wp_bind (sX4_drop (n := n) (k := k) (by rw [b1]; exact h1.1) (by omega) hk) (fun T3 ⟨c1, c2, c3⟩ => wp_some ⟨c1, fun x hx => by rw [c2 x hx, b2, a2], fun x hx => ?_, ?_⟩)
  · show T3.2 1 x = _
    have hl := hol_lt (m := 4 * k) hx
    rw [c3 x hx, b3 _ (by omega)]
    exact mrg_c (by rw [a3 _ (by omega)]; rfl)
  · show 0 + q1.2 + q2.2 = _
    rw [a4, b4]; unfold smc; omega
end SM
theorem smc_b (sg lb : Nat → Int) (k : Nat) : 0 ≤ smc sg lb k ∧ smc sg lb k ≤ 2 := by
  unfold smc; split <;> split <;> omega
theorem oSmooth {D : gx_Dc} {m : gt_T} (h : RLc D m) (x : Int) : wp_Q (fun q => ∃ D', fX5_smooth D x = some (D', q.2) ∧ RLc D' q.1) (fX6_smooth m x) := by
  have h0 := h
  obtain ⟨n, p, c, ⟨hp1, hp2, hp3⟩, ⟨h5, hch, hsm⟩, hcir⟩ := h
  have M := ch_mr hch
  have hs := ch_SP hch
  have hrw := hch.1.1
  have hn := M.1
  have hh := sX4_has D.2.1.1 x
  rw [hrw.1] at hh
  by_cases hx : 0 ≤ x ∧ x < n
  · obtain ⟨k, rfl⟩ : ∃ k : Nat, x = (k : Int) := ⟨x.toNat, by omega⟩
    rw [if_pos hx] at hh
    obtain ⟨n', rfl⟩ : ∃ n', n = n' + 1 := ⟨n - 1, by omega⟩
    have hk : k ≤ n' := by omega
    have hk' : k < n' + 1 := by omega
    have hrm : rm_ok m (n' + 1) := (hsm.mr M).ok ⟨h5, rfl, rfl⟩
    obtain ⟨hc1, hc2, hc3, hc4⟩ := hcir
    obtain ⟨T', t1, t2, t3, t4, t5⟩ := cSmooth hrw hk
    refine wp_mono (mSmooth hrm hk ⟨hc2, by omega⟩) (fun q ⟨q1, q2, q3, q4, q5, q6⟩ => ?_)
    have euo : na_uo (m.2 9) k = na_uo (D.2.1.1.2 0) k := by unfold na_uo; rw [hsm.1 k hk']
    have eui : na_ui (m.2 9) k = na_ui (D.2.1.1.2 0) k := by unfold na_ui; rw [hsm.1 k hk']
    have hu := na_uo_lt (D.2.1.1.2 0) k
    have hu' := na_ui_lt (D.2.1.1.2 0) k
    have l1 : ∀ y, y < 4 * (n' + 1) → sm_l1 (m.2 9) (m.2 10) k y = sm_l1 (D.2.1.1.2 0) (D.2.1.1.2 1) k y := fun y hy => by
      unfold sm_l1
      rw [euo, ← hsm.2 (4 * k) (by omega), ← hsm.2 (4 * k + na_uo (D.2.1.1.2 0) k) (by omega)]
      exact mrg_c (hsm.2 y hy).symm
    have l2 : ∀ y, y < 4 * (n' + 1) → sm_l2 (m.2 9) (m.2 10) k y = sm_l2 (D.2.1.1.2 0) (D.2.1.1.2 1) k y := fun y hy => by
      unfold sm_l2
      rw [eui, l1 (4 * k + na_ui (D.2.1.1.2 0) k) (by omega), l1 (4 * k + 2) (by omega)]
      exact mrg_c (l1 y hy)
    have lc : smc (m.2 9) (m.2 10) k = smc (D.2.1.1.2 0) (D.2.1.1.2 1) k := by
      unfold smc
      rw [euo, eui, l1 (4 * k + na_ui (D.2.1.1.2 0) k) (by omega), l1 (4 * k + 2) (by omega), ← hsm.2 (4 * k) (by omega), ← hsm.2 (4 * k + na_uo (D.2.1.1.2 0) k) (by omega)]
    have hb := smc_b (D.2.1.1.2 0) (D.2.1.1.2 1) k
    obtain ⟨M', hs'⟩ := smooth_ok M hs hk t3 t4
    have hd : dsm n' (T'.1.2 0) (T'.1.2 1) (q.1.2 9) (q.1.2 10) := by
      refine ⟨fun j hj => ?_, fun y hy => ?_⟩
      · rw [t3 j hj, q4 j hj]
        split
        · exact hsm.1 _ (by omega)
        · exact hsm.1 _ (by omega)
      · rw [t4 y hy, q5 y hy, l2 _ (by have := hol_lt (m := 4 * k) hy; omega)]
    obtain ⟨r, r1, r2⟩ := RL_new (D := D) (m' := q.1) (row := T'.1) (own := (va_up D.2.2.1 2 ((D.2.2.1 2) + T'.2), D.2.2.2)) (n := n') (p := p) ⟨hp1, by rw [q2.1 1 (by decide)]; exact hp2, by rw [q2.2 3 (by decide), q2.2 4 (by decide)]; exact hp3⟩ ⟨t2, by omega, M'.2.1, M'.2.2.1⟩ q3 hd M' hs' (by
        refine ⟨?_, by rw [q6, lc]; omega, by rw [q6, lc]; omega, ?_⟩
        · simp only [va_up, ↓reduceIte]; rw [q6, lc, hc1, t5]
        · simp only [va_up, Nat.reduceEqDiff, ↓reduceIte]; rw [q2.1 2 (by decide)]; exact hc4) (ed := D.2.1.2.1) (pc := D.2.1.2.2.1) (ar := D.2.1.2.2.2.1) (cm := D.2.1.2.2.2.2.1) (sf := D.2.1.2.2.2.2.2.1) (fc := D.2.1.2.2.2.2.2.2.1) (ow := D.2.1.2.2.2.2.2.2.2)
    refine ⟨(D.1, r.1, (va_up D.2.2.1 2 ((D.2.2.1 2) + T'.2), D.2.2.2)), ?_, r2⟩
    unfold fX5_smooth
    refine wp_get (wp_eq hh (wp_ifn (by decide) (wp_eq t1 (wp_ifp ?_ (wp_eq r1 (wp_ifp (by decide) (wp_some (by rw [q1]))))))))
    rw [t5, hc1]; omega
  · rw [if_neg hx] at hh
    have hc : fX5_smooth D x = some (D, 0) := by
      unfold fX5_smooth
      exact wp_get (wp_eq hh (wp_ifp rfl (wp_ifp (by decide) (wp_some rfl))))
    unfold fX6_smooth fX6_smooth_12
    rw [h5]
    exact wp_if (fun _ => wp_ifp (by decide) (wp_some ⟨D, hc, h0⟩)) (fun _ => wp_ifn (by omega) (wp_ifp (by decide) (wp_some ⟨D, hc, h0⟩)))
