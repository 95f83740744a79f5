/-! Rounds: begin, link, trace. -/
theorem sX3_hasMember (T : gt_T) (x : Int) : fX3_hasMember T x = some (if 0 ≤ x ∧ x < T.1 4 then 1 else 0) := by
  unfold fX3_hasMember fX3_hasMember_16 fX3_hasMember_17
  by_cases h1 : x < 0
  · rw [if_pos h1, if_neg (show ¬ (0 ≤ x ∧ x < T.1 4) by omega)]; rfl
  · rw [if_neg h1]
    by_cases h2 : T.1 4 ≤ x
    · rw [if_pos h2, if_neg (show ¬ (0 ≤ x ∧ x < T.1 4) by omega)]; rfl
    · rw [if_neg h2, if_pos (show 0 ≤ x ∧ x < T.1 4 by omega)]; rfl
theorem sX3_hasRound (T : gt_T) (x : Int) : fX3_hasRound T x = some (if 0 ≤ x ∧ x < T.1 5 then 1 else 0) := by
  unfold fX3_hasRound fX3_hasRound_16 fX3_hasRound_17
  by_cases h1 : x < 0
  · rw [if_pos h1, if_neg (show ¬ (0 ≤ x ∧ x < T.1 5) by omega)]; rfl
  · rw [if_neg h1]
    by_cases h2 : T.1 5 ≤ x
    · rw [if_pos h2, if_neg (show ¬ (0 ≤ x ∧ x < T.1 5) by omega)]; rfl
    · rw [if_neg h2, if_pos (show 0 ≤ x ∧ x < T.1 5 by omega)]; rfl
theorem sX3_link {T : gt_T} {N m : Nat} (h : T.1 4 = (N : Int)) (hN : N ≤ 80) (hm : m < N) (v : Int) : fX3_link T (m : Int) v = some (T.1, va_up T.2 0 (va_up (T.2 0) m v)) := by
  unfold fX3_link fX3_link_15
  rw [sX3_hasMember, h, if_pos (show (0 : Int) ≤ (m : Int) ∧ (m : Int) < (N : Int) by omega)]
  simp only [Option.bind_some]
  rw [if_neg (show ¬ (1 : Int) = 0 by decide), if_pos (show 0 ≤ (m : Int) ∧ (m : Int) < 80 by omega), Int.toNat_natCast]
/-- the round of m is unmarked: walk marks it -/
theorem sX3_walk {T : gt_T} {N m p c : Nat} {π : Nat → Nat} (hπ : pm_P N π) (hN : N ≤ 80) (h4 : T.1 4 = (N : Int)) (h5 : T.1 5 = (c : Int)) (hc : c < 80) (hn : ∀ i, i < N → T.2 0 i = (π i : Int)) (hm : m < N) (hp1 : 1 ≤ p) (hpN : p ≤ N) (hpm : pm_it π p m = m) (hmin : ∀ q, 1 ≤ q → q < p → pm_it π q m ≠ m) (hun : ∀ s, s < p → T.2 1 (pm_it π s m) < 0) :
    wp_Q (fun T' => T'.1 4 = (N : Int) ∧ T'.1 5 = ((c + 1 : Nat) : Int) ∧ T'.2 0 = T.2 0 ∧ (∀ i, (∃ s, s < p ∧ pm_it π s m = i) → T'.2 1 i = (c : Int)) ∧ (∀ i, ¬ (∃ s, s < p ∧ pm_it π s m = i) → T'.2 1 i = T.2 1 i) ∧ T'.2 2 = va_up (T.2 2) c (m : Int) ∧ T'.2 3 = va_up (T.2 3) c (p : Int)) (fX3_walk T (m : Int)) := by
  unfold fX3_walk
  refine wp_ifp (by omega) ?_
  refine wp_loop (fun a => ∃ s, s ≤ p ∧ a.2.1 = (m : Int) ∧ a.2.2.1 = (s : Int) ∧ a.2.2.2 = (pm_it π s m : Int) ∧ a.1.1 4 = (N : Int) ∧ a.1.1 5 = (c : Int) ∧ a.1.2 0 = T.2 0 ∧ (∀ i, (∃ s', s' < s ∧ pm_it π s' m = i) → a.1.2 1 i = (c : Int)) ∧ (∀ i, ¬ (∃ s', s' < s ∧ pm_it π s' m = i) → a.1.2 1 i = T.2 1 i) ∧ a.1.2 2 = T.2 2 ∧ a.1.2 3 = T.2 3) (fun a => 200 - a.2.2.1.toNat) ?_ ⟨0, Nat.zero_le p, rfl, rfl, rfl, h4, h5, rfl, fun i ⟨s', q, _⟩ => absurd q (Nat.not_lt_zero s'), fun i _ => rfl, rfl, rfl⟩ (by rw [gt_fuel_eq]; omega)
  intro k ⟨t, x, st, cur⟩ ⟨s, hs, e1, e2, e3, g4, g5, g0, gy, gn, g2, g3⟩ ih
  simp only at e1 e2 e3 g4 g5 g0 gy gn g2 g3
  subst e1; subst e2; subst e3
  have fin : s = p → wp_Q (fun T' => T'.1 4 = (N : Int) ∧ T'.1 5 = ((c + 1 : Nat) : Int) ∧ T'.2 0 = T.2 0 ∧ (∀ i, (∃ s, s < p ∧ pm_it π s m = i) → T'.2 1 i = (c : Int)) ∧ (∀ i, ¬ (∃ s, s < p ∧ pm_it π s m = i) → T'.2 1 i = T.2 1 i) ∧ T'.2 2 = va_up (T.2 2) c (m : Int) ∧ T'.2 3 = va_up (T.2 3) c (p : Int)) (fX3_walk_62 t (m : Int) (s : Int)) := by
    intro hsp
    subst hsp
    unfold fX3_walk_62
    refine wp_ifp (by rw [g5]; omega) (wp_some ?_)
    rw [g5, Int.toNat_natCast]
    refine ⟨by simp [va_up, g4], by simp [va_up], by simp [va_up, g0], fun i hi => ?_, fun i hi => ?_, by simp [va_up, g2], by simp [va_up, g3]⟩
    · simp only [va_up, Nat.reduceEqDiff, ↓reduceIte]
      exact gy i hi
    · simp only [va_up, Nat.reduceEqDiff, ↓reduceIte]
      exact gn i hi
  have hcur := pm_it_lt hπ hm s
  unfold fX3_walk_14
  simp only
  refine wp_if (fun c1 => fin (by omega)) (fun c1 => ?_)
  refine wp_eq (sX3_hasMember t _) ?_
  rw [g4, if_pos (show (0 : Int) ≤ (pm_it π s m : Int) ∧ (pm_it π s m : Int) < (N : Int) by omega)]
  refine wp_ifn (by decide) ?_
  refine wp_ifp (by omega) ?_
  rw [Int.toNat_natCast]
  rcases Nat.lt_or_ge s p with hsp | hsp
  · have hnm : ¬ ∃ s', s' < s ∧ pm_it π s' m = pm_it π s m := fun ⟨s', q1, q2⟩ => by
      have := pm_apart hπ hm hmin (by omega) hsp q2
      omega
    have hneg : t.2 1 (pm_it π s m) < 0 := by rw [gn _ hnm]; exact hun s hsp
    refine wp_ifn (by omega) ?_
    refine wp_ifp (by omega) ?_
    have e0 : va_up t.2 1 (va_up (t.2 1) (pm_it π s m) (t.1 5)) 0 (pm_it π s m) = (pm_it π (s + 1) m : Int) := by
      simp only [va_up, Nat.reduceEqDiff, ↓reduceIte]
      rw [g0]
      exact hn _ hcur
    rw [e0]
    refine ih _ ⟨s + 1, hsp, rfl, by simp only; omega, rfl, g4, g5, by simp [va_up, g0], fun i ⟨s', q1, q2⟩ => ?_, fun i hi => ?_, by simp [va_up, g2], by simp [va_up, g3]⟩ (by simp only; omega)
    · simp only [va_up, ↓reduceIte]
      by_cases hi : i = pm_it π s m
      · rw [if_pos hi, g5]
      · rw [if_neg hi]
        refine gy i ⟨s', ?_, q2⟩
        rcases Nat.lt_or_ge s' s with q | q
        · exact q
        · exact absurd (by rw [← q2, show s' = s by omega]) hi
    · simp only [va_up, ↓reduceIte]
      rw [if_neg (fun q => hi ⟨s, by omega, q.symm⟩)]
      exact gn i (fun ⟨s', q1, q2⟩ => hi ⟨s', by omega, q2⟩)
  · have hsp2 : s = p := by omega
    refine wp_ifp ?_ (fin hsp2)
    rw [gy _ ⟨0, by omega, by rw [hsp2, hpm]; rfl⟩]
    omega
/-- rounds found: numbers, least members, sizes -/
def rd_ok (t : gt_T) (N : Nat) (π : Nat → Nat) : Prop := t.1 4 = (N : Int) ∧ (∀ i, i < N → t.2 0 i = (π i : Int)) ∧ t.1 5 = (pm_z N π : Int) ∧ (∀ i j, i < N → pm_R π i j → pm_L (pm_R π) j → t.2 1 i = (pm_c (pm_L (pm_R π)) j : Int)) ∧ (∀ j, j < N → pm_L (pm_R π) j → t.2 2 (pm_c (pm_L (pm_R π)) j) = (j : Int) ∧ ∃ p : Nat, t.2 3 (pm_c (pm_L (pm_R π)) j) = (p : Int) ∧ 1 ≤ p ∧ p ≤ N ∧ pm_it π p j = j ∧ ∀ q, 1 ≤ q → q < p → pm_it π q j ≠ j)
theorem sX3_trace {T : gt_T} {N : Nat} {π : Nat → Nat} (hπ : pm_P N π) (hN : N ≤ 80) (h4 : T.1 4 = (N : Int)) (h5 : T.1 5 = 0) (hn : ∀ i, i < N → T.2 0 i = (π i : Int)) : wp_Q (fun T' => rd_ok T' N π) (fX3_trace T) := by
  have E := pm_RE hπ
  unfold fX3_trace
  refine wp_loop (fun a => ∃ m : Nat, m ≤ N ∧ a.2 = (m : Int) ∧ a.1.1 4 = (N : Int) ∧ (∀ i, i < N → a.1.2 0 i = (π i : Int)) ∧ a.1.1 5 = (pm_c (pm_L (pm_R π)) m : Int) ∧ (∀ i j, i < N → pm_R π i j → pm_L (pm_R π) j → a.1.2 1 i = if j < m then (pm_c (pm_L (pm_R π)) j : Int) else -1) ∧ (∀ j, j < m → pm_L (pm_R π) j → a.1.2 2 (pm_c (pm_L (pm_R π)) j) = (j : Int) ∧ ∃ p : Nat, a.1.2 3 (pm_c (pm_L (pm_R π)) j) = (p : Int) ∧ 1 ≤ p ∧ p ≤ N ∧ pm_it π p j = j ∧ ∀ q, 1 ≤ q → q < p → pm_it π q j ≠ j)) (fun a => 200 - a.2.toNat) ?_ ⟨0, Nat.zero_le N, rfl, h4, fun i hi => by simp [va_up]; exact hn i hi, h5, fun i j hi _ _ => ?_, fun j hj => absurd hj (Nat.not_lt_zero j)⟩ (by rw [gt_fuel_eq]; omega)
  · intro k ⟨t, x⟩ ⟨m, hm, e1, g4, g0, g5, g1, g23⟩ ih
    simp only at e1 g4 g0 g5 g1 g23
    subst e1
    unfold fX3_trace_10 fX3_trace_32
    simp only
    rw [g4]
    refine wp_if (fun c1 => wp_some ?_) (fun c1 => ?_)
    · have : m = N := by omega
      subst this
      exact ⟨g4, g0, g5, fun i j hi hr hl => by rw [g1 i j hi hr hl, if_pos (hr.lt hπ hi)], fun j hj hl => g23 j hj hl⟩
    · have hmN : m < N := by omega
      refine wp_ifp (by omega) ?_
      rw [Int.toNat_natCast]
      obtain ⟨j0, hj0, hr0, hl0⟩ := pm_least E hmN
      have e2 := g1 m j0 hmN hr0 hl0
      refine wp_if (fun c2 => ?_) (fun c2 => ?_)
      · have hlt : j0 < m := by
          rcases Nat.lt_or_ge j0 m with q | q
          · exact q
          · rw [if_neg (by omega)] at e2; omega
        have hnL : ¬ pm_L (pm_R π) m := fun hL => hL j0 hlt hr0
        refine wp_ifp (by omega) ?_
        refine ih _ ⟨m + 1, hmN, by simp only; omega, g4, g0, by rw [pm_c_n hnL]; exact g5, fun i j hi hr hl => ?_, fun j hj hl => ?_⟩ (by simp only; omega)
        · have hne : j ≠ m := fun e => hnL (e ▸ hl)
          rw [g1 i j hi hr hl]
          by_cases q : j < m
          · rw [if_pos q, if_pos (by omega)]
          · rw [if_neg q, if_neg (by omega)]
        · have hne : j ≠ m := fun e => hnL (e ▸ hl)
          exact g23 j (by omega) hl
      · have hjm : j0 = m := by
          rcases Nat.lt_or_ge j0 m with q | q
          · rw [if_pos q] at e2; omega
          · omega
        subst hjm
        obtain ⟨p, hp1, hpN, hpm, hmin⟩ := pm_per hπ hmN
        have hcm := pm_c_le (pm_L (pm_R π)) j0
        refine wp_bind (sX3_walk hπ hN g4 g5 (by omega) g0 hmN hp1 hpN hpm hmin (fun s hs => ?_)) (fun T' ⟨w4, w5, w0, wy, wn, w2, w3⟩ => ?_)
        · have hlt := pm_it_lt hπ hmN s
          have hrs : pm_R π (pm_it π s j0) j0 := pm_R.sy hπ hmN ⟨s, rfl⟩
          rw [g1 _ j0 hlt hrs hl0, if_neg (Nat.lt_irrefl _)]
          omega
        · refine wp_ifp (by omega) ?_
          refine ih _ ⟨j0 + 1, hmN, by simp only; omega, w4, fun i hi => by rw [w0]; exact g0 i hi, by rw [pm_c_y hl0]; exact w5, fun i j hi hr hl => ?_, fun j hj hl => ?_⟩ (by simp only; omega)
          · have horb : (∃ s, s < p ∧ pm_it π s j0 = i) ↔ j = j0 := by
              constructor
              · rintro ⟨s, _, rfl⟩
                exact pm_least_eq E hi (hr.lt hπ hi) hmN hr (pm_R.sy hπ hmN ⟨s, rfl⟩) hl hl0
              · rintro rfl
                obtain ⟨s, es⟩ := pm_R.sy hπ hi hr
                exact ⟨s % p, Nat.mod_lt _ hp1, by rw [← pm_it_mod hpm]; exact es⟩
            by_cases q : j = j0
            · rw [wy i (horb.mpr q), if_pos (by omega), q]
            · rw [wn i (fun z => q (horb.mp z)), g1 i j hi hr hl]
              by_cases q2 : j < j0
              · rw [if_pos q2, if_pos (by omega)]
              · rw [if_neg q2, if_neg (by omega)]
          · by_cases q : j = j0
            · subst q
              refine ⟨by rw [w2]; simp [va_up], p, by rw [w3]; simp [va_up], hp1, hpN, hpm, hmin⟩
            · have hlt : j < j0 := by omega
              have hne : pm_c (pm_L (pm_R π)) j ≠ pm_c (pm_L (pm_R π)) j0 := Nat.ne_of_lt (pm_c_lt hlt hl)
              obtain ⟨a1, p', a2, a3⟩ := g23 j hlt hl
              refine ⟨by rw [w2]; simp only [va_up]; rw [if_neg hne]; exact a1, p', by rw [w3]; simp only [va_up]; rw [if_neg hne]; exact a2, a3⟩
  · simp only [va_up, if_true, gt_fill]
    rw [if_pos (by omega), if_neg (Nat.not_lt_zero j)]
