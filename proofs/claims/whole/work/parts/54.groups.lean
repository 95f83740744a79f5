/-! Groups: begin, join, numberGroups. -/
theorem sX2_hasMember (T : gt_T) (x : Int) : fX2_hasMember T x = some (if 0 ≤ x ∧ x < T.1 2 then 1 else 0) := by
  unfold fX2_hasMember fX2_hasMember_16 fX2_hasMember_17
  by_cases h1 : x < 0
  · rw [if_pos h1, if_neg (show ¬ (0 ≤ x ∧ x < T.1 2) by omega)]; rfl
  · rw [if_neg h1]
    by_cases h2 : T.1 2 ≤ x
    · rw [if_pos h2, if_neg (show ¬ (0 ≤ x ∧ x < T.1 2) by omega)]; rfl
    · rw [if_neg h2, if_pos (show 0 ≤ x ∧ x < T.1 2 by omega)]; rfl
theorem sX2_least {T : gt_T} {N i : Nat} (h : T.1 2 = (N : Int)) (hN : N ≤ 40) (hi : i < N) : fX2_least T (i : Int) = some (T.2 0 i) := by
  unfold fX2_least fX2_least_18
  rw [sX2_hasMember, h, if_pos (show (0 : Int) ≤ (i : Int) ∧ (i : Int) < (N : Int) by omega)]
  simp only [Option.bind_some]
  rw [if_neg (show ¬ (1 : Int) = 0 by decide), if_pos (show 0 ≤ (i : Int) ∧ (i : Int) < 40 by omega), Int.toNat_natCast]
theorem sX2_numberOf {T : gt_T} {N i : Nat} (h : T.1 2 = (N : Int)) (hN : N ≤ 40) (hi : i < N) : fX2_numberOf T (i : Int) = some (T.2 1 i) := by
  unfold fX2_numberOf fX2_numberOf_18
  rw [sX2_hasMember, h, if_pos (show (0 : Int) ≤ (i : Int) ∧ (i : Int) < (N : Int) by omega)]
  simp only [Option.bind_some]
  rw [if_neg (show ¬ (1 : Int) = 0 by decide), if_pos (show 0 ≤ (i : Int) ∧ (i : Int) < 40 by omega), Int.toNat_natCast]
/-- each member's least one, by an equivalence -/
def gp_L (t : gt_T) (N : Nat) (r : Nat → Nat → Prop) : Prop := t.1 2 = (N : Int) ∧ ∀ i j, i < N → j < N → r i j → pm_L r j → t.2 0 i = (j : Int)
theorem sX2_begin {T : gt_T} {N : Nat} (hN : N ≤ 40) : wp_Q (fun T' => gp_L T' N (fun i j => i = j)) (fX2_begin T (N : Int)) := by
  unfold fX2_begin
  refine wp_loop (fun a => ∃ m : Nat, m ≤ N ∧ a.2 = (m : Int) ∧ a.1.1 2 = (N : Int) ∧ ∀ i, i < m → a.1.2 0 i = (i : Int)) (fun a => 200 - a.2.toNat) ?_ ⟨0, Nat.zero_le N, rfl, by simp only [va_up, ↓reduceIte]; omega, fun i hi => absurd hi (Nat.not_lt_zero i)⟩ (by rw [gt_fuel_eq]; omega)
  intro k ⟨t, x⟩ ⟨m, hm, e1, g2, g0⟩ ih
  simp only at e1 g2 g0
  subst e1
  unfold fX2_begin_12
  simp only
  rw [g2]
  refine wp_if (fun c1 => wp_some ⟨g2, fun i j hi hj hr _ => by rw [g0 i (by omega), hr]⟩) (fun c1 => ?_)
  refine wp_ifp (by omega) ?_
  refine ih _ ⟨m + 1, by omega, by simp only; omega, g2, fun i hi => ?_⟩ (by simp only; omega)
  simp only [va_up, ↓reduceIte, Int.toNat_natCast]
  by_cases q : i = m
  · rw [if_pos q, q]
  · rw [if_neg q]; exact g0 i (by omega)
def pm_M (r : Nat → Nat → Prop) (a b : Nat) (i j : Nat) : Prop := r i j ∨ (r i a ∧ r b j) ∨ (r i b ∧ r a j)
theorem pm_ME {N : Nat} {r : Nat → Nat → Prop} (E : pm_E N r) {a b : Nat} (ha : a < N) (hb : b < N) : pm_E N (pm_M r a b) := by
  refine ⟨fun i hi => Or.inl (E.1 i hi), fun i j hi hj q => ?_, fun i j k hi hj hk q1 q2 => ?_⟩
  · rcases q with q | ⟨q1, q2⟩ | ⟨q1, q2⟩
    · exact Or.inl (E.2.1 _ _ hi hj q)
    · exact Or.inr (Or.inr ⟨E.2.1 _ _ hb hj q2, E.2.1 _ _ hi ha q1⟩)
    · exact Or.inr (Or.inl ⟨E.2.1 _ _ ha hj q2, E.2.1 _ _ hi hb q1⟩)
  · have T := E.2.2
    have S := E.2.1
    rcases q1 with q | ⟨a1, a2⟩ | ⟨a1, a2⟩ <;> rcases q2 with p | ⟨b1, b2⟩ | ⟨b1, b2⟩
    · exact Or.inl (T _ _ _ hi hj hk q p)
    · exact Or.inr (Or.inl ⟨T _ _ _ hi hj ha q b1, b2⟩)
    · exact Or.inr (Or.inr ⟨T _ _ _ hi hj hb q b1, b2⟩)
    · exact Or.inr (Or.inl ⟨a1, T _ _ _ hb hj hk a2 p⟩)
    · exact Or.inl (T _ _ _ hi ha hk a1 (T _ _ _ ha hb hk (S _ _ hb ha (T _ _ _ hb hj ha a2 b1)) b2))
    · exact Or.inl (T _ _ _ hi ha hk a1 b2)
    · exact Or.inr (Or.inr ⟨a1, T _ _ _ ha hj hk a2 p⟩)
    · exact Or.inl (T _ _ _ hi hb hk a1 b2)
    · exact Or.inl (T _ _ _ hi hb hk a1 (T _ _ _ hb ha hk (S _ _ ha hb (T _ _ _ ha hj hb a2 b1)) b2))
theorem gp_least {t : gt_T} {N : Nat} {r : Nat → Nat → Prop} (E : pm_E N r) (h : gp_L t N r) {i : Nat} (hi : i < N) : ∃ j, j ≤ i ∧ r i j ∧ pm_L r j ∧ t.2 0 i = (j : Int) := by
  obtain ⟨j, h1, h2, h3⟩ := pm_least E hi
  exact ⟨j, h1, h2, h3, h.2 i j hi (by omega) h2 h3⟩
theorem gp_of {t : gt_T} {N : Nat} {r : Nat → Nat → Prop} (E : pm_E N r) (h2 : t.1 2 = (N : Int)) (h : ∀ i, i < N → ∃ v : Nat, v < N ∧ t.2 0 i = (v : Int) ∧ r i v ∧ pm_L r v) : gp_L t N r := by
  refine ⟨h2, fun i j hi hj hr hl => ?_⟩
  obtain ⟨v, v1, v2, v3, v4⟩ := h i hi
  rw [v2, pm_least_eq E hi v1 hj v3 hr v4 hl]
theorem sX2_join {T : gt_T} {N a b : Nat} {r : Nat → Nat → Prop} (E : pm_E N r) (hN : N ≤ 40) (h : gp_L T N r) (ha : a < N) (hb : b < N) : wp_Q (fun T' => gp_L T' N (pm_M r a b)) (fX2_join T (a : Int) (b : Int)) := by
  obtain ⟨la, la1, la2, la3, la4⟩ := gp_least E h ha
  obtain ⟨lb, lb1, lb2, lb3, lb4⟩ := gp_least E h hb
  have E' := pm_ME E ha hb
  have S := E.2.1
  have Tr := E.2.2
  unfold fX2_join fX2_join_39
  refine wp_eq (sX2_least h.1 hN ha) ?_
  refine wp_eq (sX2_least h.1 hN hb) ?_
  refine wp_eq (sX2_least h.1 hN ha) ?_
  refine wp_eq (sX2_least h.1 hN hb) ?_
  rw [la4, lb4]
  refine wp_ifn (by omega) ?_
  refine wp_if (fun c1 => wp_some ?_) (fun c1 => ?_)
  · -- one class already
    have hab : r a b := Tr _ _ _ ha (by omega) hb la2 (by rw [show la = lb by omega]; exact S _ _ hb (by omega) lb2)
    have iff : ∀ i j, i < N → j < N → (pm_M r a b i j ↔ r i j) := by
      intro i j hi hj
      refine ⟨fun q => ?_, Or.inl⟩
      rcases q with q | ⟨q1, q2⟩ | ⟨q1, q2⟩
      · exact q
      · exact Tr _ _ _ hi ha hj q1 (Tr _ _ _ ha hb hj hab q2)
      · exact Tr _ _ _ hi hb hj q1 (Tr _ _ _ hb ha hj (S _ _ ha hb hab) q2)
    exact ⟨h.1, fun i j hi hj hr hl => h.2 i j hi hj ((iff i j hi hj).mp hr) (fun k hk hrk => hl k hk (Or.inl hrk))⟩
  · -- two classes: the greater's members go to the lesser
    have hne : la ≠ lb := by omega
    refine wp_loop (fun x => ∃ m : Nat, m ≤ N ∧ x.2.1 = min (la : Int) (lb : Int) ∧ x.2.2.1 = max (la : Int) (lb : Int) ∧ x.2.2.2 = (m : Int) ∧ x.1.1 2 = (N : Int) ∧ (∀ i, i < m → x.1.2 0 i = if T.2 0 i = max (la : Int) (lb : Int) then min (la : Int) (lb : Int) else T.2 0 i) ∧ ∀ i, m ≤ i → x.1.2 0 i = T.2 0 i) (fun x => 200 - x.2.2.2.toNat) ?_ ⟨0, Nat.zero_le N, rfl, rfl, rfl, h.1, fun i hi => absurd hi (Nat.not_lt_zero i), fun i _ => rfl⟩ (by rw [gt_fuel_eq]; omega)
    intro k ⟨t, x, z, w⟩ ⟨m, hm, e1, e2, e3, g2, gy, gn⟩ ih
    simp only at e1 e2 e3 g2 gy gn
    subst e1; subst e2; subst e3
    unfold fX2_join_43 fX2_join_72
    simp only
    rw [g2]
    refine wp_if (fun c2 => wp_some ?_) (fun c2 => ?_)
    · refine gp_of E' g2 (fun i hi => ?_)
      obtain ⟨li, l1, l2, l3, l4⟩ := gp_least E h hi
      have hv := gy i (by omega)
      rw [l4] at hv
      -- which of the two is the lesser
      have main : ∀ (a b la lb : Nat), a < N → b < N → la ≤ a → lb ≤ b → r a la → r b lb → pm_L r la → pm_L r lb → la < lb → (∀ i j, pm_M r a b i j → i < N → j < N → (r i j ∨ (r i a ∧ r b j) ∨ (r i b ∧ r a j))) → (∀ i j, i < N → j < N → (r i j ∨ (r i a ∧ r b j) ∨ (r i b ∧ r a j)) → pm_M r a b i j) → t.2 0 i = (if (li : Int) = (lb : Int) then (la : Int) else (li : Int)) → ∃ v : Nat, v < N ∧ t.2 0 i = (v : Int) ∧ pm_M r a b i v ∧ pm_L (pm_M r a b) v := by
        intro a b la lb ha hb la1 lb1 la2 lb2 la3 lb3 hlt f1 f2 hv
        by_cases q : li = lb
        · subst q
          rw [if_pos rfl] at hv
          refine ⟨la, by omega, hv, f2 i la hi (by omega) (Or.inr (Or.inr ⟨Tr _ _ _ hi (by omega) hb l2 (S _ _ hb (by omega) lb2), la2⟩)), fun k hk hr => ?_⟩
          rcases f1 la k hr (by omega) (by omega) with p | ⟨p1, p2⟩ | ⟨p1, p2⟩
          · exact la3 k hk p
          · exact lb3 k (by omega) (Tr _ _ _ (by omega) hb (by omega) (S _ _ hb (by omega) lb2) p2)
          · exact la3 k hk (Tr _ _ _ (by omega) ha (by omega) (S _ _ ha (by omega) la2) p2)
        · rw [if_neg (by omega)] at hv
          refine ⟨li, by omega, hv, f2 i li hi (by omega) (Or.inl l2), fun k hk hr => ?_⟩
          rcases f1 li k hr (by omega) (by omega) with p | ⟨p1, p2⟩ | ⟨p1, p2⟩
          · exact l3 k hk p
          · have : li = la := pm_least_eq E ha (by omega) (by omega) (S _ _ (by omega) ha p1) la2 l3 la3
            exact lb3 k (by omega) (Tr _ _ _ (by omega) hb (by omega) (S _ _ hb (by omega) lb2) p2)
          · have : li = lb := pm_least_eq E hb (by omega) (by omega) (S _ _ (by omega) hb p1) lb2 l3 lb3
            exact q this
      rcases Nat.lt_or_ge la lb with hlt | hge
      · refine main a b la lb ha hb la1 lb1 la2 lb2 la3 lb3 hlt (fun i j q _ _ => q) (fun i j _ _ q => q) ?_
        rw [hv, show max (la : Int) (lb : Int) = (lb : Int) by omega, show min (la : Int) (lb : Int) = (la : Int) by omega]
      · have hlt : lb < la := by omega
        have sw : ∀ i j, pm_M r b a i j → pm_M r a b i j := by
          intro i j q
          rcases q with q | q | q
          · exact Or.inl q
          · exact Or.inr (Or.inr q)
          · exact Or.inr (Or.inl q)
        have sw' : ∀ i j, pm_M r a b i j → pm_M r b a i j := by
          intro i j q
          rcases q with q | q | q
          · exact Or.inl q
          · exact Or.inr (Or.inr q)
          · exact Or.inr (Or.inl q)
        obtain ⟨v, v1, v2, v3, v4⟩ := main b a lb la hb ha lb1 la1 lb2 la2 lb3 la3 hlt (fun i j q _ _ => q) (fun i j _ _ q => q) (by
          rw [hv, show max (la : Int) (lb : Int) = (la : Int) by omega, show min (la : Int) (lb : Int) = (lb : Int) by omega])
        exact ⟨v, v1, v2, sw _ _ v3, fun k hk hr => v4 k hk (sw' _ _ hr)⟩
    · refine wp_ifp (by omega) ?_
      rw [Int.toNat_natCast, gn m (Nat.le_refl m)]
      refine wp_if (fun c3 => ?_) (fun c3 => ?_)
      · refine wp_ifp (by omega) ?_
        refine wp_ifp (by omega) ?_
        refine ih _ ⟨m + 1, by omega, rfl, rfl, by simp only; omega, g2, fun i hi => ?_, fun i hi => ?_⟩ (by simp only; omega)
        · simp only [va_up, ↓reduceIte]
          by_cases q : i = m
          · rw [if_pos q, q, if_pos c3]
          · rw [if_neg q]; exact gy i (by omega)
        · simp only [va_up, ↓reduceIte]
          rw [if_neg (by omega)]
          exact gn i (by omega)
      · refine wp_ifp (by omega) ?_
        refine ih _ ⟨m + 1, by omega, rfl, rfl, by simp only; omega, g2, fun i hi => ?_, fun i hi => gn i (by omega)⟩ (by simp only; omega)
        by_cases q : i = m
        · rw [q, if_neg c3]; exact gn m (Nat.le_refl m)
        · exact gy i (by omega)
def gp_ok (t : gt_T) (N : Nat) (r : Nat → Nat → Prop) : Prop := gp_L t N r ∧ t.1 3 = (pm_n N r : Int) ∧ ∀ i j, i < N → j < N → r i j → pm_L r j → t.2 1 i = (pm_c (pm_L r) j : Int)
theorem sX2_numberGroups {T : gt_T} {N : Nat} {r : Nat → Nat → Prop} (E : pm_E N r) (hN : N ≤ 40) (h : gp_L T N r) : wp_Q (fun T' => gp_ok T' N r) (fX2_numberGroups T) := by
  unfold fX2_numberGroups
  refine wp_loop (fun x => ∃ m : Nat, m ≤ N ∧ x.2 = (m : Int) ∧ x.1.1 2 = (N : Int) ∧ x.1.2 0 = T.2 0 ∧ x.1.1 3 = (pm_c (pm_L r) m : Int) ∧ ∀ i j, i < m → j < N → r i j → pm_L r j → x.1.2 1 i = (pm_c (pm_L r) j : Int)) (fun x => 200 - x.2.toNat) ?_ ⟨0, Nat.zero_le N, rfl, h.1, rfl, rfl, fun i _ hi => absurd hi (Nat.not_lt_zero i)⟩ (by rw [gt_fuel_eq]; omega)
  intro k ⟨t, x⟩ ⟨m, hm, e1, g2, g0, g3, g1⟩ ih
  simp only at e1 g2 g0 g3 g1
  subst e1
  unfold fX2_numberGroups_7 fX2_numberGroups_64
  simp only
  rw [g2]
  refine wp_if (fun c1 => wp_some ?_) (fun c1 => ?_)
  · have : m = N := by omega
    subst this
    exact ⟨⟨g2, fun i j hi hj hr hl => by rw [g0]; exact h.2 i j hi hj hr hl⟩, g3, g1⟩
  · have hmN : m < N := by omega
    have hcm := pm_c_le (pm_L r) m
    refine wp_ifp (by omega) ?_
    obtain ⟨lm, l1, l2, l3, l4⟩ := gp_least E h hmN
    rw [Int.toNat_natCast, g0, l4]
    refine wp_if (fun c2 => ?_) (fun c2 => ?_)
    · have hlm : lm = m := by omega
      subst hlm
      refine wp_ifp (by omega) ?_
      refine wp_ifp (by omega) ?_
      refine ih _ ⟨lm + 1, by omega, by simp only; omega, by simp [va_up, g2], by simp [va_up, g0], ?_, fun i j hi hj hr hl => ?_⟩ (by simp only; omega)
      · simp only [va_up, ↓reduceIte]
        rw [pm_c_y l3]
        omega
      · simp only [va_up, ↓reduceIte]
        by_cases q : i = lm
        · subst q
          rw [if_pos rfl, g3, pm_least_eq E hmN hj hmN hr (E.1 _ hmN) hl l3]
        · rw [if_neg q]; exact g1 i j (by omega) hj hr hl
    · have hlt : lm < m := by omega
      have hnL : ¬ pm_L r m := fun hL => hL lm hlt l2
      refine wp_ifp (by omega) ?_
      refine wp_eq (sX2_numberOf g2 hN (by omega)) ?_
      refine wp_ifp (by omega) ?_
      refine wp_ifp (by omega) ?_
      refine ih _ ⟨m + 1, by omega, by simp only; omega, g2, by simp [va_up, g0], by rw [pm_c_n hnL]; exact g3, fun i j hi hj hr hl => ?_⟩ (by simp only; omega)
      simp only [va_up, ↓reduceIte]
      by_cases q : i = m
      · subst q
        have hj2 : j = lm := pm_least_eq E hmN hj (by omega) hr l2 hl l3
        rw [if_pos rfl, hj2]
        exact g1 lm lm hlt (by omega) (E.1 lm (by omega)) l3
      · rw [if_neg q]; exact g1 i j (by omega) hj hr hl
