/-! change, mirror, reverse. -/
section TU
variable {n c : Nat} {sg lb f : Nat → Int} {T : gx_Ch} {t : gt_T}
theorem cLower' (M : mr n sg lb) (hS : ed_S f c lb (4 * n)) (he : edv T.2.1 n c f sg lb) (hr : rdv T.2.2.2.2.1 c (pi_c f c n sg lb)) {k : Nat} (hk : k < n) : fX0_lowerComponent T (k : Int) = some (rn (pm_R (pi_c f c n sg lb)) (er f (lb (4 * k)) c) : Int) := by
  have hn := M.1
  have hc := ed_c M hS
  have h4 : 4 * k < 4 * n := by omega
  have hi := (er_lb hS h4).1
  unfold fX0_lowerComponent
  refine wp_get ?_
  refine wp_eq (sX4_lowerIn (by omega)) ?_
  refine wp_eq (r := (er f (lb (4 * k)) c : Int)) (by rw [sX1_at _ (by omega), he.2.2 _ h4]) ?_
  refine wp_eq (r := (rn (pm_R (pi_c f c n sg lb)) (er f (lb (4 * k)) c) : Int)) (by rw [sX3_roundOf hr.1 (by omega) hi, (hr.2.2.1 _ hi).2]) ?_
  exact wp_some rfl
theorem cUpper' (M : mr n sg lb) (hS : ed_S f c lb (4 * n)) (h0 : rw_ok T.1 n) (he : edv T.2.1 n c f sg lb) (hr : rdv T.2.2.2.2.1 c (pi_c f c n sg lb)) {k : Nat} (hk : k < n) : fX0_upperComponent T (k : Int) = some (rn (pm_R (pi_c f c n sg lb)) (er f (lb (4 * k + 1)) c) : Int) := by
  have hn := M.1
  have hc := ed_c M hS
  have hl := na_ui_lt (T.1.2 0) k
  have h4 : 4 * k + na_ui (T.1.2 0) k < 4 * n := by omega
  have hi := (er_lb hS h4).1
  unfold fX0_upperComponent
  refine wp_get ?_
  refine wp_eq (sX4_upperIn h0 hk) ?_
  refine wp_eq (r := (er f (lb (4 * k + na_ui (T.1.2 0) k)) c : Int)) (by rw [sX1_at _ (by omega), he.2.2 _ h4]) ?_
  refine wp_eq (r := (rn (pm_R (pi_c f c n sg lb)) (er f (lb (4 * k + na_ui (T.1.2 0) k)) c) : Int)) (by rw [sX3_roundOf hr.1 (by omega) hi, (hr.2.2.1 _ hi).2]) ?_
  refine wp_some ?_
  have hu : na_ui (T.1.2 0) k = 1 ∨ na_ui (T.1.2 0) k = 3 := by unfold na_ui; split <;> simp
  rcases hu with e | e
  · rw [e]
  · rw [e, ← rn_acr M hS (show 4 * k + 1 < 4 * n by omega), show na_across (4 * k + 1) = 4 * k + 3 by unfold na_across; omega]
def isL (f : Nat → Int) (c n : Nat) (sg lb : Nat → Int) (k i : Nat) : Prop := rn (pm_R (pi_c f c n sg lb)) (er f (lb (4 * i)) c) = k
def isU (f : Nat → Int) (c n : Nat) (sg lb : Nat → Int) (k i : Nat) : Prop := rn (pm_R (pi_c f c n sg lb)) (er f (lb (4 * i + 1)) c) = k
theorem cTurn (M : mr n sg lb) (hS : ed_S f c lb (4 * n)) (h : cv T n c f sg lb) (k : Nat) : wp_Q (fun T' => T'.2 = T.2 ∧ T'.1.1 = T.1.1 ∧ (∀ x, T'.1.2 0 x = rvS (isL f c n sg lb k) (isU f c n sg lb k) (T.1.2 0) n x) ∧ ∀ x, T'.1.2 1 x = rvL (isL f c n sg lb k) (T.1.2 1) n x) (fX0_turnComponent T (k : Int)) := by
  have hn := M.1
  have he := h.2.2.1
  have hr := h.2.2.2.2.2.1
  unfold fX0_turnComponent
  refine wp_loop (fun x => ∃ i : Nat, i ≤ n ∧ x.2.1 = (k : Int) ∧ x.2.2 = (i : Int) ∧ x.1.2 = T.2 ∧ x.1.1.1 = T.1.1 ∧ (∀ y, x.1.1.2 0 y = rvS (isL f c n sg lb k) (isU f c n sg lb k) (T.1.2 0) i y) ∧ ∀ y, x.1.1.2 1 y = rvL (isL f c n sg lb k) (T.1.2 1) i y) (fun x => 200 - x.2.2.toNat) ?_ ⟨0, Nat.zero_le _, rfl, rfl, rfl, rfl, fun y => by unfold rvS; rw [if_neg (fun z => absurd z.1 (Nat.not_lt_zero y))], fun y => by unfold rvL; rw [if_neg (fun z => absurd z.1 (Nat.not_lt_zero _))]⟩ (by rw [gt_fuel_eq]; omega)
  intro kk ⟨x1, x2, x3⟩ ⟨i, hi, e1, e2, e3, e4, e5, e6⟩ ih
  simp only at e1 e2 e3 e4 e5 e6
  subst e1; subst e2
  unfold fX0_turnComponent_2
  simp only
  refine wp_eq (sX4_crossings x1.1) ?_
  rw [e4, h.1.1]
  refine wp_if (fun c1 => ?_) (fun c1 => ?_)
  · have hin : i = n := by omega
    subst hin
    exact wp_some ⟨e3, e4, e5, e6⟩
  have hin : i < n := by omega
  have h1 : rw_ok x1.1 n := h.1.of e4 (fun j hj => by
    rw [e5 j]; unfold rvS
    split
    · exact Or.inr rfl
    · exact Or.inl rfl) (fun x hx => by
    rw [e6 x]; unfold rvL
    split
    · exact ⟨_, by omega, rfl⟩
    · exact ⟨x, hx, rfl⟩)
  have he1 : edv x1.2.1 n c f sg lb := by rw [e3]; exact he
  have hr1 : rdv x1.2.2.2.2.1 c (pi_c f c n sg lb) := by rw [e3]; exact hr
  have lo := cLower' M hS he1 hr1 hin
  have up := cUpper' M hS h1 he1 hr1 hin
  refine wp_eq lo ?_
  have step : ∀ a b : Int, ((a = 1 ∧ isL f c n sg lb k i) ∨ (a = 0 ∧ ¬ isL f c n sg lb k i)) → ((b = 1 ∧ isU f c n sg lb k i) ∨ (b = 0 ∧ ¬ isU f c n sg lb k i)) → wp_Q (fun T' => T'.2 = T.2 ∧ T'.1.1 = T.1.1 ∧ (∀ x, T'.1.2 0 x = rvS (isL f c n sg lb k) (isU f c n sg lb k) (T.1.2 0) n x) ∧ ∀ x, T'.1.2 1 x = rvL (isL f c n sg lb k) (T.1.2 1) n x) (fX0_turnComponent_46 kk x1 (k : Int) (i : Int) (i : Int) a b) := by
    intro a b ha hb
    unfold fX0_turnComponent_46
    refine wp_bind (sX4_turn h1 hin (lo := a) (up := b) (by omega) (by omega)) (fun R ⟨a1, a2, a3⟩ => wp_ifp (by omega) (ih _ ⟨i + 1, by omega, rfl, by simp only; omega, e3, by rw [← e4]; exact a1, fun y => ?_, fun y => ?_⟩ (by simp only; omega)))
    · show R.2 0 y = _
      by_cases z : y = i
      · subst z
        have v : x1.1.2 0 y = T.1.2 0 y := by rw [e5 y]; unfold rvS; rw [if_neg (fun q => absurd q.1 (by omega))]
        have fl : flp (x1.1.2 0) y y = -(T.1.2 0 y) := by unfold flp; rw [if_pos rfl, v]
        rw [a2 y, fl, v]; unfold rvS
        have hab : a = b ↔ (isL f c n sg lb k y ↔ isU f c n sg lb k y) := by
          rcases ha with z1 | z1 <;> rcases hb with z2 | z2
          · exact ⟨fun _ => ⟨fun _ => z2.2, fun _ => z1.2⟩, fun _ => by omega⟩
          · exact ⟨fun q => by omega, fun q => absurd (q.mp z1.2) z2.2⟩
          · exact ⟨fun q => by omega, fun q => absurd (q.mpr z2.2) z1.2⟩
          · exact ⟨fun _ => ⟨fun q => absurd q z1.2, fun q => absurd q z2.2⟩, fun _ => by omega⟩
        by_cases w : a = b
        · rw [if_pos w, if_neg (fun q => q.2 (hab.mp w))]
        · rw [if_neg w, if_pos ⟨by omega, fun q => w (hab.mpr q)⟩]
      · have fl : flp (x1.1.2 0) i y = x1.1.2 0 y := by unfold flp; rw [if_neg z]
        rw [a2 y, fl, e5 y]; unfold rvS
        have : (y < i + 1 ∧ ¬(isL f c n sg lb k y ↔ isU f c n sg lb k y)) ↔ (y < i ∧ ¬(isL f c n sg lb k y ↔ isU f c n sg lb k y)) := ⟨fun q => ⟨by omega, q.2⟩, fun q => ⟨by omega, q.2⟩⟩
        rw [propext this]
        split <;> rfl
    · show R.2 1 y = _
      by_cases z : y / 4 = i
      · have v0 : x1.1.2 1 y = T.1.2 1 y := by rw [e6 y]; unfold rvL; rw [if_neg (fun q => absurd q.1 (by omega))]
        have v2 : rot (x1.1.2 1) i 2 y = T.1.2 1 (4 * (y / 4) + (y + 2) % 4) := by
          unfold rot; rw [if_pos z, e6]; unfold rvL; rw [if_neg (fun q => absurd q.1 (by omega)), z]
        rw [a3 y, v0, v2]; unfold rvL
        have hL : a = 0 ↔ ¬ isL f c n sg lb k (y / 4) := by
          rw [z]
          rcases ha with z1 | z1
          · exact ⟨fun q => by omega, fun q => absurd z1.2 q⟩
          · exact ⟨fun _ => z1.2, fun _ => z1.1⟩
        by_cases w : a = 0
        · rw [if_pos w, if_neg (fun q => hL.mp w q.2)]
        · rw [if_neg w, if_pos ⟨by omega, Classical.not_not.mp (fun q => w (hL.mpr q))⟩]
      · have v2 : rot (x1.1.2 1) i 2 y = x1.1.2 1 y := by unfold rot; rw [if_neg z]
        rw [a3 y, v2, e6 y]; unfold rvL
        have : (y / 4 < i + 1 ∧ isL f c n sg lb k (y / 4)) ↔ (y / 4 < i ∧ isL f c n sg lb k (y / 4)) := ⟨fun q => ⟨by omega, q.2⟩, fun q => ⟨by omega, q.2⟩⟩
        rw [propext this]
        split <;> rfl
  have step2 : ∀ a : Int, ((a = 1 ∧ isL f c n sg lb k i) ∨ (a = 0 ∧ ¬ isL f c n sg lb k i)) → wp_Q (fun T' => T'.2 = T.2 ∧ T'.1.1 = T.1.1 ∧ (∀ x, T'.1.2 0 x = rvS (isL f c n sg lb k) (isU f c n sg lb k) (T.1.2 0) n x) ∧ ∀ x, T'.1.2 1 x = rvL (isL f c n sg lb k) (T.1.2 1) n x) (fX0_turnComponent_32 kk x1 (k : Int) (i : Int) (i : Int) a) := by
    intro a ha
    unfold fX0_turnComponent_32
    refine wp_eq up (wp_if (fun d => step a 1 ha (Or.inl ⟨rfl, by unfold isU; omega⟩)) (fun d => step a 0 ha (Or.inr ⟨rfl, fun q => d (by unfold isU at q; rw [q])⟩)))
  exact wp_if (fun d => step2 1 (Or.inl ⟨rfl, by unfold isL; omega⟩)) (fun d => step2 0 (Or.inr ⟨rfl, fun q => d (by unfold isL at q; rw [q])⟩))
theorem mReverse (M : mr n sg lb) (hS : ed_S f c lb (4 * n)) (S : mst t n sg lb) {k : Nat} (h6 : 0 ≤ t.1 6 ∧ t.1 6 ≤ 100) (hk : (k : Int) < (pm_z c (pi_c f c n sg lb) : Int) + t.1 6) : wp_Q (fun q => q.2 = 1 ∧ md_F SI [9, 10, 11, 12, 14, 15, 16, 17, 18, 21, 22] t q.1 ∧ (∀ x, q.1.2 9 x = rvS (isL f c n sg lb k) (isU f c n sg lb k) sg n x) ∧ ∀ x, q.1.2 10 x = rvL (isL f c n sg lb k) lb n x) (fX6_reverse t (k : Int)) := by
  have hn := M.1
  have hc := ed_c M hS
  have hz1 := pm_z_le c (pi_c f c n sg lb)
  unfold fX6_reverse
  refine wp_bind (mComponents M hS S) (fun t1 ⟨hF, g⟩ => ?_)
  have S1 := S.F hF (by decide) (by decide) (by decide)
  rw [g.2.2.1, hF.1 6 (by decide)]
  refine wp_ifn (by omega) (wp_ifp (by omega) (wp_ifp (by omega) ?_))
  refine wp_loop (fun x => ∃ i : Nat, i ≤ n ∧ x.2.1 = (k : Int) ∧ x.2.2 = (i : Int) ∧ x.1.1 = t1.1 ∧ (∀ j, j ≠ 16 → j ≠ 17 → x.1.2 j = t1.2 j) ∧ (∀ y, y < i → (x.1.2 16 y = 1 ∧ isL f c n sg lb k y) ∨ (x.1.2 16 y = 0 ∧ ¬ isL f c n sg lb k y)) ∧ ∀ y, y < i → (x.1.2 17 y = 1 ∧ isU f c n sg lb k y) ∨ (x.1.2 17 y = 0 ∧ ¬ isU f c n sg lb k y)) (fun x => 200 - x.2.2.toNat) ?_ ⟨0, Nat.zero_le _, rfl, rfl, rfl, fun _ _ _ => rfl, fun y hy => absurd hy (Nat.not_lt_zero y), fun y hy => absurd hy (Nat.not_lt_zero y)⟩ (by rw [gt_fuel_eq]; omega)
  intro kk ⟨x1, x2, x3⟩ ⟨i, hi, e1, e2, e3, e4, e5, e6⟩ ih
  simp only at e1 e2 e3 e4 e5 e6
  subst e1; subst e2
  unfold fX6_reverse_25
  simp only
  rw [e3, S1.1]
  refine wp_if (fun c1 => ?_) (fun c1 => ?_)
  · have hin : i = n := by omega
    subst hin
    have S2 : mst x1 i sg lb := ⟨by rw [e3]; exact S1.1, by rw [e4 9 (by decide) (by decide)]; exact S1.2.1, by rw [e4 10 (by decide) (by decide)]; exact S1.2.2⟩
    refine wp_mono (rv89 (M.ok S2) e5 e6) (fun q ⟨a1, a2, a3, a4⟩ => ⟨a1, ?_, fun x => by rw [a3 x, S2.2.1], fun x => by rw [a4 x, S2.2.2]⟩)
    have f1 : md_F SI [9, 10, 11, 12, 14, 15, 16, 17, 18, 21, 22] t1 x1 := ⟨fun j _ => by rw [e3], fun j hj => e4 j (fun z => hj (by rw [z]; decide)) (fun z => hj (by rw [z]; decide))⟩
    exact ((hF.up (by decide) (by decide)).tr f1).tr (a2.up (by simp) (by decide))
  · have hin : i < n := by omega
    rw [show ((4 : Int) * (i : Int)).toNat = 4 * i by omega, e4 21 (by decide) (by decide), g.2.2.2 (4 * i) (by omega)]
    have st2 : ∀ (a b : Int), ((a = 1 ∧ isL f c n sg lb k i) ∨ (a = 0 ∧ ¬ isL f c n sg lb k i)) → ((b = 1 ∧ isU f c n sg lb k i) ∨ (b = 0 ∧ ¬ isU f c n sg lb k i)) → wp_Q (fun q => q.2 = 1 ∧ md_F SI [9, 10, 11, 12, 14, 15, 16, 17, 18, 21, 22] t q.1 ∧ (∀ x, q.1.2 9 x = rvS (isL f c n sg lb k) (isU f c n sg lb k) sg n x) ∧ ∀ x, q.1.2 10 x = rvL (isL f c n sg lb k) lb n x) (fX6_reverse_80 kk (x1.1, (va_up x1.2 16 (va_up (x1.2 16) i a))) (k : Int) (i : Int) (i : Int) b) := by
      intro a b ha hb
      unfold fX6_reverse_80
      refine wp_ifp (by omega) (ih _ ⟨i + 1, by omega, rfl, by simp only; omega, e3, fun j z1 z2 => ?_, fun y hy => ?_, fun y hy => ?_⟩ (by simp only; omega))
      · simp only [va_up, z1, z2, ↓reduceIte]; exact e4 j z1 z2
      · simp only [va_up, Nat.reduceEqDiff, ↓reduceIte]
        by_cases z : y = i
        · rw [if_pos z, z]; exact ha
        · rw [if_neg z]; exact e5 y (by omega)
      · simp only [va_up, Nat.reduceEqDiff, ↓reduceIte, Int.toNat_natCast]
        by_cases z : y = i
        · rw [if_pos z, z]; exact hb
        · rw [if_neg z]; exact e6 y (by omega)
    have st1 : ∀ (a : Int), ((a = 1 ∧ isL f c n sg lb k i) ∨ (a = 0 ∧ ¬ isL f c n sg lb k i)) → wp_Q (fun q => q.2 = 1 ∧ md_F SI [9, 10, 11, 12, 14, 15, 16, 17, 18, 21, 22] t q.1 ∧ (∀ x, q.1.2 9 x = rvS (isL f c n sg lb k) (isU f c n sg lb k) sg n x) ∧ ∀ x, q.1.2 10 x = rvL (isL f c n sg lb k) lb n x) (fX6_reverse_55 kk x1 (k : Int) (i : Int) (i : Int) a) := by
      intro a ha
      unfold fX6_reverse_55
      have e21 : (va_up x1.2 16 (va_up (x1.2 16) ((i : Nat) : Int).toNat a)) 21 (((4 : Int) * (i : Int)) + (1 : Int)).toNat = (rn (pm_R (pi_c f c n sg lb)) (er f (lb (4 * i + 1)) c) : Int) := by
        show x1.2 21 _ = _
        rw [show ((4 : Int) * (i : Int) + 1).toNat = 4 * i + 1 by omega, e4 21 (by decide) (by decide), g.2.2.2 (4 * i + 1) (by omega)]
      rw [e21, Int.toNat_natCast]
      refine wp_ifp (by omega) (wp_if (fun d => st2 a 1 ha (Or.inl ⟨rfl, by unfold isU; omega⟩)) (fun d => st2 a 0 ha (Or.inr ⟨rfl, fun q => d (by unfold isU at q; rw [q])⟩)))
    refine wp_ifp (by omega) (wp_if (fun d => st1 1 (Or.inl ⟨rfl, by unfold isL; omega⟩)) (fun d => st1 0 (Or.inr ⟨rfl, fun q => d (by unfold isL at q; rw [q])⟩)))
end TU
