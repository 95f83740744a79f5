/-! check -/
section TK
variable {t : gt_T} {p : Nat}
theorem tk106 (h5 : t.1 5 = (p : Int)) (hp : p ≤ 20) : wp_Q (fun t' => t'.1 = va_up t.1 1 0 ∧ (∀ j, j ≠ 10 → t'.2 j = t.2 j) ∧ ∀ a, t'.2 10 a = if a < 4 * p then t.2 4 a else t.2 10 a) (gt_loop fX6_take_106 gt_fuel (t, (0 : Int))) := by
  refine wp_loop (fun x => ∃ i : Nat, i ≤ 4 * p ∧ x.2 = (i : Int) ∧ x.1.1 = t.1 ∧ (∀ j, j ≠ 10 → x.1.2 j = t.2 j) ∧ ∀ a, x.1.2 10 a = if a < i then t.2 4 a else t.2 10 a) (fun x => 200 - x.2.toNat) ?_ ⟨0, Nat.zero_le _, rfl, rfl, fun _ _ => rfl, fun a => by rw [if_neg (Nat.not_lt_zero a)]⟩ (by rw [gt_fuel_eq]; omega)
  intro k ⟨x1, x2⟩ ⟨i, hi, e1, e2, e3, e4⟩ ih
  simp only at e1 e2 e3 e4
  subst e1
  unfold fX6_take_106
  simp only
  rw [e2, h5]
  refine wp_ifp (by omega) (wp_if (fun c1 => wp_some ⟨rfl, e3, fun a => ?_⟩) (fun c1 => wp_ifp (by omega) (ih _ ⟨i + 1, by omega, by simp only; omega, rfl, fun j hj => ?_, fun a => ?_⟩ (by simp only; omega))))
  · rw [e4 a, show i = 4 * p by omega]
  · simp only [va_up, hj, ↓reduceIte]; exact e3 j hj
  · simp only [va_up, ↓reduceIte, Int.toNat_natCast]
    by_cases z : a = i
    · subst z; rw [if_pos rfl, if_pos (by omega), e3 4 (by decide)]
    · rw [if_neg z, e4 a]
      by_cases z2 : a < i
      · rw [if_pos z2, if_pos (by omega)]
      · rw [if_neg z2, if_neg (by omega)]
theorem tk78 (h5 : t.1 5 = (p : Int)) (hp : p ≤ 20) : wp_Q (fun t' => t'.1 = va_up t.1 1 0 ∧ (∀ j, j ≠ 9 → j ≠ 10 → t'.2 j = t.2 j) ∧ (∀ k, t'.2 9 k = if k < p then t.2 3 k else t.2 9 k) ∧ ∀ a, t'.2 10 a = if a < 4 * p then t.2 4 a else t.2 10 a) (gt_loop fX6_take_78 gt_fuel (t, (0 : Int))) := by
  refine wp_loop (fun x => ∃ i : Nat, i ≤ p ∧ x.2 = (i : Int) ∧ x.1.1 = t.1 ∧ (∀ j, j ≠ 9 → x.1.2 j = t.2 j) ∧ ∀ a, x.1.2 9 a = if a < i then t.2 3 a else t.2 9 a) (fun x => 200 - x.2.toNat) ?_ ⟨0, Nat.zero_le _, rfl, rfl, fun _ _ => rfl, fun a => by rw [if_neg (Nat.not_lt_zero a)]⟩ (by rw [gt_fuel_eq]; omega)
  intro k ⟨x1, x2⟩ ⟨i, hi, e1, e2, e3, e4⟩ ih
  simp only at e1 e2 e3 e4
  subst e1
  unfold fX6_take_78
  simp only
  have h5' : x1.1 5 = (p : Int) := by rw [e2]; exact h5
  rw [h5']
  refine wp_if (fun c1 => wp_mono (tk106 h5' hp) (fun t' ⟨g1, g2, g3⟩ => ⟨by rw [g1, e2], fun j a b => by rw [g2 j b, e3 j a], fun k => ?_, fun a => by rw [g3 a, e3 4 (by decide), e3 10 (by decide)]⟩)) (fun c1 => wp_ifp (by omega) (ih _ ⟨i + 1, by omega, by simp only; omega, e2, fun j hj => ?_, fun a => ?_⟩ (by simp only; omega)))
  · rw [g2 9 (by decide), e4 k, show i = p by omega]
  · simp only [va_up, hj, ↓reduceIte]; exact e3 j hj
  · simp only [va_up, ↓reduceIte, Int.toNat_natCast]
    by_cases z : a = i
    · subst z; rw [if_pos rfl, if_pos (by omega), e3 3 (by decide)]
    · rw [if_neg z, e4 a]
      by_cases z2 : a < i
      · rw [if_pos z2, if_pos (by omega)]
      · rw [if_neg z2, if_neg (by omega)]
def tkP (t : gt_T) (p : Nat) (t' : gt_T) : Prop := t'.1 = va_up (va_up t.1 5 (p : Int)) 1 0 ∧ (∀ j, j ≠ 9 → j ≠ 10 → j ≠ 11 → j ≠ 12 → t'.2 j = t.2 j) ∧ (∀ k, k < p → t'.2 9 k = t.2 3 k) ∧ (∀ a, a < 4 * p → t'.2 10 a = t.2 4 a) ∧ (∀ k, k < 20 → t'.2 11 k = t.2 9 k) ∧ ∀ a, a < 80 → t'.2 12 a = t.2 10 a
theorem tk44 (h1 : t.1 1 = (p : Int)) (hp : p ≤ 20) (h11 : ∀ k, k < 20 → t.2 11 k = t.2 9 k) : wp_Q (fun t' => tkP t p t') (gt_loop fX6_take_44 gt_fuel (t, (0 : Int))) := by
  refine wp_loop (fun x => ∃ i : Nat, i ≤ 80 ∧ x.2 = (i : Int) ∧ x.1.1 = t.1 ∧ (∀ j, j ≠ 12 → x.1.2 j = t.2 j) ∧ ∀ a, a < i → x.1.2 12 a = t.2 10 a) (fun x => 200 - x.2.toNat) ?_ ⟨0, Nat.zero_le _, rfl, rfl, fun _ _ => rfl, fun a ha => absurd ha (Nat.not_lt_zero a)⟩ (by rw [gt_fuel_eq]; omega)
  intro k ⟨x1, x2⟩ ⟨i, hi, e1, e2, e3, e4⟩ ih
  simp only at e1 e2 e3 e4
  subst e1
  unfold fX6_take_44
  simp only
  rw [e2, h1]
  refine wp_if (fun c1 => wp_mono (tk78 (p := p) (by simp only [va_up, ↓reduceIte]) hp) (fun t' ⟨g1, g2, g3, g4⟩ => ⟨g1, fun j a b c d => by rw [g2 j a b]; exact e3 j d, fun k hk => ?_, fun a ha => ?_, fun k hk => ?_, fun a ha => ?_⟩)) (fun c1 => wp_ifp (by omega) (ih _ ⟨i + 1, by omega, by simp only; omega, rfl, fun j hj => ?_, fun a ha => ?_⟩ (by simp only; omega)))
  · rw [g3 k, if_pos hk]; exact congrFun (e3 3 (by decide)) k
  · rw [g4 a, if_pos ha]; exact congrFun (e3 4 (by decide)) a
  · rw [g2 11 (by decide) (by decide)]; show x1.2 11 k = _; rw [e3 11 (by decide)]; exact h11 k hk
  · rw [g2 12 (by decide) (by decide)]; exact e4 a (by omega)
  · simp only [va_up, hj, ↓reduceIte]; exact e3 j hj
  · simp only [va_up, ↓reduceIte, Int.toNat_natCast]
    by_cases z : a = i
    · subst z; rw [if_pos rfl, e3 10 (by decide)]
    · rw [if_neg z]; exact e4 a (by omega)
theorem sX6_take (h1 : t.1 1 = (p : Int)) (hp : p ≤ 20) : wp_Q (fun t' => tkP ((va_up (va_up t.1 7 (t.1 5)) 8 (t.1 6)), t.2) p t') (fX6_take t) := by
  unfold fX6_take
  have h6 : (va_up t.1 7 (t.1 5)) 6 = t.1 6 := rfl
  rw [h6]
  generalize hv : va_up (va_up t.1 7 (t.1 5)) 8 (t.1 6) = v
  have hv1 : v 1 = (p : Int) := by rw [← hv]; exact h1
  refine wp_loop (fun x => ∃ i : Nat, i ≤ 20 ∧ x.2 = (i : Int) ∧ x.1.1 = v ∧ (∀ j, j ≠ 11 → x.1.2 j = t.2 j) ∧ ∀ a, a < i → x.1.2 11 a = t.2 9 a) (fun x => 200 - x.2.toNat) ?_ ⟨0, Nat.zero_le _, rfl, rfl, fun _ _ => rfl, fun a ha => absurd ha (Nat.not_lt_zero a)⟩ (by rw [gt_fuel_eq]; omega)
  intro k ⟨x1, x2⟩ ⟨i, hi, e1, e2, e3, e4⟩ ih
  simp only at e1 e2 e3 e4
  subst e1
  unfold fX6_take_18
  simp only
  refine wp_if (fun c1 => wp_mono (tk44 (p := p) (by rw [e2]; exact hv1) hp (fun k hk => by rw [e4 k (by omega), e3 9 (by decide)])) (fun t' ⟨g1, g2, g3, g4, g5, g6⟩ => ⟨by rw [g1, e2], fun j a b c d => by rw [g2 j a b c d]; exact e3 j c, fun k hk => ?_, fun a ha => ?_, fun k hk => ?_, fun a ha => ?_⟩)) (fun c1 => wp_ifp (by omega) (ih _ ⟨i + 1, by omega, by simp only; omega, e2, fun j hj => ?_, fun a ha => ?_⟩ (by simp only; omega)))
  · rw [g3 k hk, e3 3 (by decide)]
  · rw [g4 a ha, e3 4 (by decide)]
  · rw [g5 k hk, e3 9 (by decide)]
  · rw [g6 a ha, e3 10 (by decide)]
  · simp only [va_up, hj, ↓reduceIte]; exact e3 j hj
  · simp only [va_up, ↓reduceIte, Int.toNat_natCast]
    by_cases z : a = i
    · subst z; rw [if_pos rfl, e3 9 (by decide)]
    · rw [if_neg z]; exact e4 a (by omega)
theorem bk44 : wp_Q (fun t' => t'.1 = t.1 ∧ (∀ j, j ≠ 10 → t'.2 j = t.2 j) ∧ ∀ a, a < 80 → t'.2 10 a = t.2 12 a) (gt_loop fX6_back_44 gt_fuel (t, (0 : Int))) := by
  refine wp_loop (fun x => ∃ i : Nat, i ≤ 80 ∧ x.2 = (i : Int) ∧ x.1.1 = t.1 ∧ (∀ j, j ≠ 10 → x.1.2 j = t.2 j) ∧ ∀ a, a < i → x.1.2 10 a = t.2 12 a) (fun x => 200 - x.2.toNat) ?_ ⟨0, Nat.zero_le _, rfl, rfl, fun _ _ => rfl, fun a ha => absurd ha (Nat.not_lt_zero a)⟩ (by rw [gt_fuel_eq]; omega)
  intro k ⟨x1, x2⟩ ⟨i, hi, e1, e2, e3, e4⟩ ih
  simp only at e1 e2 e3 e4
  subst e1
  unfold fX6_back_44
  simp only
  refine wp_if (fun c1 => wp_some ⟨e2, e3, fun a ha => e4 a (by omega)⟩) (fun c1 => wp_ifp (by omega) (ih _ ⟨i + 1, by omega, by simp only; omega, e2, fun j hj => ?_, fun a ha => ?_⟩ (by simp only; omega)))
  · simp only [va_up, hj, ↓reduceIte]; exact e3 j hj
  · simp only [va_up, ↓reduceIte, Int.toNat_natCast]
    by_cases z : a = i
    · subst z; rw [if_pos rfl, e3 12 (by decide)]
    · rw [if_neg z]; exact e4 a (by omega)
theorem sX6_back : wp_Q (fun t' => t'.1 = va_up (va_up t.1 5 (t.1 7)) 6 (t.1 8) ∧ (∀ j, j ≠ 9 → j ≠ 10 → t'.2 j = t.2 j) ∧ (∀ k, k < 20 → t'.2 9 k = t.2 11 k) ∧ ∀ a, a < 80 → t'.2 10 a = t.2 12 a) (fX6_back t) := by
  unfold fX6_back
  have h6 : (va_up t.1 5 (t.1 7)) 8 = t.1 8 := rfl
  rw [h6]
  generalize hv : va_up (va_up t.1 5 (t.1 7)) 6 (t.1 8) = v
  refine wp_loop (fun x => ∃ i : Nat, i ≤ 20 ∧ x.2 = (i : Int) ∧ x.1.1 = v ∧ (∀ j, j ≠ 9 → x.1.2 j = t.2 j) ∧ ∀ a, a < i → x.1.2 9 a = t.2 11 a) (fun x => 200 - x.2.toNat) ?_ ⟨0, Nat.zero_le _, rfl, rfl, fun _ _ => rfl, fun a ha => absurd ha (Nat.not_lt_zero a)⟩ (by rw [gt_fuel_eq]; omega)
  intro k ⟨x1, x2⟩ ⟨i, hi, e1, e2, e3, e4⟩ ih
  simp only at e1 e2 e3 e4
  subst e1
  unfold fX6_back_18
  simp only
  refine wp_if (fun c1 => wp_mono (bk44 (t := x1)) (fun t' ⟨g1, g2, g3⟩ => ⟨by rw [g1, e2], fun j a b => by rw [g2 j b, e3 j a], fun k hk => ?_, fun a ha => ?_⟩)) (fun c1 => wp_ifp (by omega) (ih _ ⟨i + 1, by omega, by simp only; omega, e2, fun j hj => ?_, fun a ha => ?_⟩ (by simp only; omega)))
  · rw [g2 9 (by decide)]; exact e4 k (by omega)
  · rw [g3 a ha, e3 12 (by decide)]
  · simp only [va_up, hj, ↓reduceIte]; exact e3 j hj
  · simp only [va_up, ↓reduceIte, Int.toNat_natCast]
    by_cases z : a = i
    · subst z; rw [if_pos rfl, e3 11 (by decide)]
    · rw [if_neg z]; exact e4 a (by omega)
end TK
/-- check of the class: the put chart is surveyed; a diagram takes the held one's place -/
def fX5_check (T : gx_Dc) (x : Int) : Option (gx_Dc × Int) :=
  if x < 0 then some (T, -1) else if 20 < x then some (T, -1) else
  (fX0_survey T.1).bind (fun q => if q.2 = 0 then some ((((va_up T.2.1.1.1 2 0, T.2.1.1.2), T.2.1.2), q.1, (va_up (va_up T.2.2.1 3 (q.1.2.2.2.2.2.2.2.1 8)) 2 x, T.2.2.2)), q.2) else some ((((va_up q.1.1.1 2 0, q.1.1.2), q.1.2), T.2.1, (va_up T.2.2.1 3 (q.1.2.2.2.2.2.2.2.1 8), T.2.2.2)), q.2))
theorem oCheck {D : gx_Dc} {m : gt_T} (h : RLc D m) (x : Int) : wp_Q (fun q => ∃ D', fX5_check D x = some (D', q.2) ∧ RLc D' q.1) (fX6_check m x) := by
  have h0 := h
  obtain ⟨n, p, c, ⟨hp1, hp2, hp3⟩, ⟨h5, hch, hsm⟩, ⟨hc1, hc2, hc3, hw⟩⟩ := h
  have hp20 := hp1.2.1
  have hn20 := hch.1.1.2.1
  unfold fX6_check fX6_check_10 fX6_check_34
  by_cases hx : 0 ≤ x ∧ x ≤ 20
  · refine wp_ifn (by omega) (wp_ifp (by omega) ?_)
    refine wp_bind (sX6_take hp2 hp20) (fun t ⟨g1, g2, g3, g4, g5, g6⟩ => ?_)
    have f5 : t.1 5 = (p : Int) := by rw [g1]; rfl
    have f1 : t.1 1 = 0 := by rw [g1]; rfl
    have f7 : t.1 7 = m.1 5 := by rw [g1]; rfl
    have f8 : t.1 8 = m.1 6 := by rw [g1]; rfl
    have esm : dsm p (D.1.1.2 0) (D.1.1.2 1) (t.2 9) (t.2 10) := ⟨fun k hk => by rw [hp3.1 k hk, g3 k hk], fun a ha => by rw [hp3.2 a ha, g4 a ha]⟩
    have hrm : rm_ok ((va_up t.1 6 x, t.2) : gt_T) p := ⟨f5, hp20, fun k hk => by show t.2 9 k = 1 ∨ t.2 9 k = -1; rw [← esm.1 k hk]; exact hp1.2.2.1 k hk, fun a ha => by show 1 ≤ t.2 10 a ∧ t.2 10 a ≤ 9999; rw [← esm.2 a ha]; exact hp1.2.2.2 a ha⟩
    refine wp_bind (sX6_fault hrm) (fun q ⟨hF, hs⟩ => ?_)
    obtain ⟨qq, q1, q2, q3, q4⟩ := sX0_survey (ed := D.1.2.1) (pc := D.1.2.2.1) (ar := D.1.2.2.2.1) (cm := D.1.2.2.2.2.1) (sf := D.1.2.2.2.2.2.1) (fc := D.1.2.2.2.2.2.2.1) (ow := D.1.2.2.2.2.2.2.2) hp1
    have hs' : sv_ans p (t.2 9) (t.2 10) q.2 (q.1.1 2) := hs
    obtain ⟨u1, u2⟩ := sv_uniq (esm.sv q3) hs'
    have hsv : fX0_survey D.1 = some qq := q1
    have hck : ∀ {D' : gx_Dc}, (if qq.2 = 0 then some ((((va_up D.2.1.1.1 2 0, D.2.1.1.2), D.2.1.2), qq.1, (va_up (va_up D.2.2.1 3 (qq.1.2.2.2.2.2.2.2.1 8)) 2 x, D.2.2.2)), qq.2) else some ((((va_up qq.1.1.1 2 0, qq.1.1.2), qq.1.2), D.2.1, (va_up D.2.2.1 3 (qq.1.2.2.2.2.2.2.2.1 8), D.2.2.2)), qq.2)) = some (D', q.2) → fX5_check D x = some (D', q.2) := fun z => by
      unfold fX5_check
      rw [if_neg (by omega), if_neg (by omega), hsv]
      exact z
    have hv03 : q.2 = 0 ∨ 0 < q.2 := by
      rcases hs' with ⟨z, _⟩ | ⟨z, _⟩ | ⟨z, _⟩ | ⟨z, _⟩ <;> omega
    have r1 : q.1.1 1 = 0 := by rw [hF.1 1 (by decide)]; exact f1
    refine wp_if (fun d => ?_) (fun d => ?_)
    · have d0 : q.2 = 0 := by omega
      obtain ⟨c', hch'⟩ := q4 (by omega)
      refine wp_some ⟨((((va_up D.2.1.1.1 2 0, D.2.1.1.2), D.2.1.2), qq.1, (va_up (va_up D.2.2.1 3 (qq.1.2.2.2.2.2.2.2.1 8)) 2 x, D.2.2.2)) : gx_Dc), hck (by rw [if_pos (by omega), u1]), p, 0, c', ⟨⟨rfl, by decide, fun k hk => absurd hk (Nat.not_lt_zero k), fun a ha => absurd ha (Nat.not_lt_zero a)⟩, r1, fun k hk => absurd hk (Nat.not_lt_zero k), fun a ha => absurd ha (Nat.not_lt_zero a)⟩, ⟨?_, hch', ?_⟩, ?_, ?_, ?_, ?_⟩
      · show q.1.1 5 = _; rw [hF.1 5 (by decide)]; exact f5
      · show dsm p (qq.1.1.2 0) (qq.1.1.2 1) (q.1.2 9) (q.1.2 10)
        rw [q2, hF.2 9 (by decide), hF.2 10 (by decide)]; exact esm
      · show x = q.1.1 6; rw [hF.1 6 (by decide)]; rfl
      · show 0 ≤ q.1.1 6; rw [hF.1 6 (by decide)]; exact hx.1
      · show q.1.1 6 + 2 * (p : Int) ≤ 60; rw [hF.1 6 (by decide)]; show x + 2 * (p : Int) ≤ 60; omega
      · exact u2
    · refine wp_bind (sX6_back (t := q.1)) (fun t2 ⟨b1, b2, b3, b4⟩ => ?_)
      refine wp_some ⟨((((va_up qq.1.1.1 2 0, qq.1.1.2), qq.1.2), D.2.1, (va_up D.2.2.1 3 (qq.1.2.2.2.2.2.2.2.1 8), D.2.2.2)) : gx_Dc), hck (by rw [if_neg (by omega), u1]), n, 0, c, ⟨⟨rfl, by decide, fun k hk => absurd hk (Nat.not_lt_zero k), fun a ha => absurd ha (Nat.not_lt_zero a)⟩, ?_, fun k hk => absurd hk (Nat.not_lt_zero k), fun a ha => absurd ha (Nat.not_lt_zero a)⟩, ⟨?_, hch, fun k hk => ?_, fun a ha => ?_⟩, ?_, ?_, ?_, ?_⟩
      · show t2.1 1 = _; rw [b1]; exact r1
      · show t2.1 5 = _; rw [b1]; show q.1.1 7 = _; rw [hF.1 7 (by decide)]; show t.1 7 = _; rw [f7, h5]
      · show D.2.1.1.2 0 k = t2.2 9 k
        rw [b3 k (by omega), hF.2 11 (by decide)]; show _ = t.2 11 k
        rw [g5 k (by omega)]; exact hsm.1 k hk
      · show D.2.1.1.2 1 a = t2.2 10 a
        rw [b4 a (by omega), hF.2 12 (by decide)]; show _ = t.2 12 a
        rw [g6 a (by omega)]; exact hsm.2 a ha
      · show D.2.2.1 2 = t2.1 6; rw [b1]; show _ = q.1.1 8; rw [hF.1 8 (by decide)]; show _ = t.1 8; rw [f8]; exact hc1
      · show 0 ≤ t2.1 6; rw [b1]; show _ ≤ q.1.1 8; rw [hF.1 8 (by decide)]; show _ ≤ t.1 8; rw [f8]; exact hc2
      · show t2.1 6 + 2 * (n : Int) ≤ 60; rw [b1]; show q.1.1 8 + 2 * (n : Int) ≤ 60; rw [hF.1 8 (by decide)]; show t.1 8 + 2 * (n : Int) ≤ 60; rw [f8]; exact hc3
      · show _ = t2.1 2; rw [b1]; show _ = q.1.1 2; exact u2
  · have hc : fX5_check D x = some (D, -1) := by
      unfold fX5_check
      refine wp_get (wp_if (fun _ => wp_some rfl) (fun _ => wp_ifp (by omega) (wp_some rfl)))
    refine wp_if (fun _ => wp_some ⟨D, hc, h0⟩) (fun _ => wp_ifn (by omega) (wp_some ⟨D, hc, h0⟩))
