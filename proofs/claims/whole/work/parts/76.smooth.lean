/-! A crossing smoothed away leaves spheres. -/
theorem ESp.c {N : Nat} {β μ β' μ' : Nat → Nat} (h : ESp N β μ) (hβ : pm_P N β) (hμ : pm_P N μ) (e1 : ∀ i, i < N → β' i = β i) (e2 : ∀ i, i < N → μ' i = μ i) : ESp N β' μ' := by
  unfold ESp at h ⊢
  rw [pm_z_congr hβ e1, pm_z_congr hμ e2, pm_z_congr (pm_P_comp hβ hμ) (g := fun i => β' (μ' i)) (fun i hi => by rw [e2 i hi, e1 _ (hμ.1 i hi)]), pm_n_congr (r := pm_G N β' μ') (s := pm_G N β μ) (fun i j _ _ => ?_)]
  · exact h
  · constructor
    · intro q P p1 p2; exact q P (fun a ha => by rw [e1 a ha]; exact p1 a ha) (fun a ha => by rw [e2 a ha]; exact p2 a ha)
    · intro q P p1 p2; exact q P (fun a ha => by rw [← e1 a ha]; exact p1 a ha) (fun a ha => by rw [← e2 a ha]; exact p2 a ha)
theorem ES_A {N : Nat} {β μ : Nat → Nat} (h : ESp N β μ) (hβ : pm_P N β) (hμ : pm_P N μ) {x y : Nat} (hx : x < N) (hy : y < N) (hxy : x ≠ y) (hr : pm_R β x y) : ESp N (fun i => β (pm_sw x y i)) μ := by
  obtain ⟨s1, s2⟩ := pm_step hβ hμ hx hy hxy hr
  unfold ESp at h ⊢
  have e : pm_z N (fun i => (fun i => β (pm_sw x y i)) (μ i)) = pm_z N (fun i => β (pm_sw x y (μ i))) := rfl
  rw [e, s1]
  rcases s2 with ⟨g, f | f⟩ | ⟨g, f⟩ <;> omega
theorem inv_sw {N : Nat} {g : Nat → Nat} {x y : Nat} (hx : x < N) (hy : y < N) {P : Nat → Prop} (h : ∀ a, a < N → (P (g (pm_sw x y a)) ↔ P a)) (hxy : P x ↔ P y) : ∀ a, a < N → (P (g a) ↔ P a) := by
  intro a ha
  have h1 := h (pm_sw x y a) (pm_sw_lt hx hy ha)
  rw [pm_sw_sw] at h1
  rw [h1]
  unfold pm_sw
  split
  · rename_i e; rw [e]; exact hxy.symm
  · split
    · rename_i e; rw [e]; exact hxy
    · exact Iff.rfl
def off2 (a b : Nat) (β : Nat → Nat) (x : Nat) : Nat := if x = a ∨ x = b then x else β x
def jn (μ : Nat → Nat) (a b x : Nat) : Nat := if x = a ∨ x = b then x else if x = μ a then μ b else if x = μ b then μ a else μ x
theorem sw_l (x y : Nat) : pm_sw x y x = y := by unfold pm_sw; rw [if_pos rfl]
theorem sw_r (x y : Nat) : pm_sw x y y = x := by
  unfold pm_sw
  by_cases h : y = x
  · rw [if_pos h, h]
  · rw [if_neg h, if_pos rfl]
theorem sw_o {x y i : Nat} (h1 : i ≠ x) (h2 : i ≠ y) : pm_sw x y i = i := by unfold pm_sw; rw [if_neg h1, if_neg h2]
theorem iv_P {N : Nat} {μ : Nat → Nat} (h : ∀ a, a < N → μ a < N ∧ μ (μ a) = a) : pm_P N μ := ⟨fun i hi => (h i hi).1, fun i j hi hj e => by rw [← (h i hi).2, e, (h j hj).2]⟩
theorem ES_pair {N : Nat} {β μ : Nat → Nat} (h : ESp N β μ) (hβ : pm_P N β) (iv : ∀ a, a < N → μ a < N ∧ μ (μ a) = a) {a b : Nat} (ha : a < N) (hb : b < N) (hab : a ≠ b) (fa : μ a ≠ a) (fb : μ b ≠ b) (h1 : β a = b) (h2 : β b = a) : ESp N (off2 a b β) (jn μ a b) := by
  have hμ := iv_P iv
  have zb := (pm_part hβ ha hb hab ⟨1, h1⟩).2
  have bP := pm_P_sw hβ ha hb
  have eβ : ∀ i, i < N → off2 a b β i = β (pm_sw a b i) := fun i _ => by
    unfold off2
    by_cases z1 : i = a
    · rw [z1, if_pos (Or.inl rfl), sw_l, h2]
    · by_cases z2 : i = b
      · rw [z2, if_pos (Or.inr rfl), sw_r, h1]
      · rw [if_neg (by omega), sw_o z1 z2]
  by_cases hp : μ a = b
  · have hq : μ b = a := by rw [← hp]; exact (iv a ha).2
    have mP := pm_P_sw hμ ha hb
    have zm := (pm_part hμ ha hb hab ⟨1, hp⟩).2
    have eμ : ∀ i, i < N → jn μ a b i = μ (pm_sw a b i) := fun i _ => by
      unfold jn
      by_cases z1 : i = a
      · rw [z1, if_pos (Or.inl rfl), sw_l, hq]
      · by_cases z2 : i = b
        · rw [z2, if_pos (Or.inr rfl), sw_r, hp]
        · rw [if_neg (by omega), if_neg (by omega), if_neg (by omega), sw_o z1 z2]
    refine ESp.c (β := fun i => β (pm_sw a b i)) (μ := fun i => μ (pm_sw a b i)) ?_ bP mP eβ eμ
    have zf : pm_z N (fun i => (fun i => β (pm_sw a b i)) ((fun i => μ (pm_sw a b i)) i)) = pm_z N (fun i => β (μ i)) := by
      refine pm_z_congr (pm_P_comp hβ hμ) (fun i hi => ?_)
      simp only
      by_cases z1 : i = a
      · rw [z1, sw_l, hq, sw_l, hp]
      · by_cases z2 : i = b
        · rw [z2, sw_r, hp, sw_r, hq]
        · rw [sw_o z1 z2, sw_o (fun z => z2 (by rw [← (iv i hi).2, z, hp])) (fun z => z1 (by rw [← (iv i hi).2, z, hq]))]
    have gc := G_le1 (β := β) (μ := μ) (β' := fun i => β (pm_sw a b i)) (μ' := fun i => μ (pm_sw a b i)) ha hb bP.1 mP.1 (fun P p1 p2 pab => ⟨inv_sw ha hb p1 pab, inv_sw ha hb p2 pab⟩)
    unfold ESp at h ⊢
    rw [zf, zb, zm]
    omega
  · obtain ⟨p, hpe⟩ : ∃ p, p = μ a := ⟨_, rfl⟩
    obtain ⟨q, hqe⟩ : ∃ q, q = μ b := ⟨_, rfl⟩
    have hpN : p < N := by rw [hpe]; exact (iv a ha).1
    have hqN : q < N := by rw [hqe]; exact (iv b hb).1
    have mp : μ p = a := by rw [hpe]; exact (iv a ha).2
    have mq : μ q = b := by rw [hqe]; exact (iv b hb).2
    have pa : p ≠ a := by rw [hpe]; exact fa
    have pb : p ≠ b := by rw [hpe]; exact hp
    have qb : q ≠ b := by rw [hqe]; exact fb
    have qa : q ≠ a := fun z => hp (by rw [← z, mq])
    have pq : p ≠ q := fun z => hab (by rw [← mp, z, mq])
    have j1 := pm_join hμ hpN hqN (fun z => by
      rcases (iv_R iv hpN).mp z with e | e
      · exact pq e.symm
      · rw [mp] at e; exact qa e)
    have P1 := pm_P_sw hμ hpN hqN
    have j2 := (pm_part P1 hqN ha qa ⟨1, by show μ (pm_sw p q q) = a; rw [sw_r, mp]⟩).2
    have P2 := pm_P_sw P1 hqN ha
    have j3 := (pm_part P2 hpN hb pb ⟨1, by show μ (pm_sw p q (pm_sw q a p)) = b; rw [sw_o pq pa, sw_l, mq]⟩).2
    have P3 := pm_P_sw P2 hpN hb
    have hf := pm_P_comp hβ hμ
    have k2 := (pm_part hf hqN ha qa ⟨1, by show β (μ q) = a; rw [mq, h2]⟩).2
    have F2 := pm_P_sw hf hqN ha
    have k3 := (pm_part F2 hpN hb pb ⟨1, by show β (μ (pm_sw q a p)) = b; rw [sw_o pq pa, mp, h1]⟩).2
    have F3 := pm_P_sw F2 hpN hb
    have eμ : ∀ i, i < N → jn μ a b i = μ (pm_sw p q (pm_sw q a (pm_sw p b i))) := fun i _ => by
      unfold jn
      rw [← hpe, ← hqe]
      by_cases z1 : i = a
      · rw [z1, if_pos (Or.inl rfl), sw_o pa.symm hab, sw_r, sw_r, mp]
      · by_cases z2 : i = b
        · rw [z2, if_pos (Or.inr rfl), sw_r, sw_o pq pa, sw_l, mq]
        · rw [if_neg (by omega)]
          by_cases z3 : i = p
          · rw [z3, if_pos rfl, sw_l, sw_o qb.symm hab.symm, sw_o pb.symm qb.symm, hqe]
          · by_cases z4 : i = q
            · rw [z4, if_neg pq.symm, if_pos rfl, sw_o pq.symm qb, sw_l, sw_o pa.symm qa.symm, hpe]
            · rw [if_neg z3, if_neg z4, sw_o z3 z2, sw_o z4 z1, sw_o z3 z4]
    refine ESp.c (β := fun i => β (pm_sw a b i)) (μ := fun i => μ (pm_sw p q (pm_sw q a (pm_sw p b i)))) ?_ bP P3 eβ eμ
    have zf : pm_z N (fun i => (fun i => β (pm_sw a b i)) ((fun i => μ (pm_sw p q (pm_sw q a (pm_sw p b i)))) i)) = pm_z N (fun i => β (μ (pm_sw q a (pm_sw p b i)))) := by
      refine pm_z_congr F3 (fun i hi => ?_)
      show β (pm_sw a b (μ (pm_sw p q (pm_sw q a (pm_sw p b i))))) = β (μ (pm_sw q a (pm_sw p b i)))
      by_cases z1 : i = a
      · rw [z1, sw_o pa.symm hab, sw_r, sw_r, mp, sw_l, mq]
      · by_cases z2 : i = b
        · rw [z2, sw_r, sw_o pq pa, sw_l, mq, sw_r, mp]
        · by_cases z3 : i = p
          · rw [z3, sw_l, sw_o qb.symm hab.symm, sw_o pb.symm qb.symm, ← hqe, sw_o qa qb]
          · by_cases z4 : i = q
            · rw [z4, sw_o pq.symm qb, sw_l, sw_o pa.symm qa.symm, ← hpe, sw_o pa pb]
            · rw [sw_o z3 z2, sw_o z4 z1, sw_o z3 z4, sw_o (fun z => z3 (by rw [← (iv i hi).2, z, hpe])) (fun z => z4 (by rw [← (iv i hi).2, z, hqe]))]
    have g1 := G_le (N := N) (β := β) (μ := μ) (β' := fun i => β (pm_sw a b i)) (μ' := fun i => μ (pm_sw p q i)) (fun P p1 p2 => by
      have a1 : P p ↔ P a := by have := p2 a ha; rw [sw_o pa.symm qa.symm, ← hpe] at this; exact this
      have a2 : P b ↔ P p := by have := p2 p hpN; rw [sw_l, mq] at this; exact this
      have a3 : P q ↔ P b := by have := p2 b hb; rw [sw_o pb.symm qb.symm, ← hqe] at this; exact this
      exact ⟨inv_sw ha hb p1 (a1.symm.trans a2.symm), inv_sw hpN hqN p2 (a2.symm.trans a3.symm)⟩)
    have g2 := G_le1 (N := N) (β := fun i => β (pm_sw a b i)) (μ := fun i => μ (pm_sw p q i)) (β' := fun i => β (pm_sw a b i)) (μ' := fun i => μ (pm_sw p q (pm_sw q a i))) hqN ha bP.1 P2.1 (fun P p1 p2 pab => ⟨p1, inv_sw (g := fun i => μ (pm_sw p q i)) hqN ha p2 pab⟩)
    have g3 := G_le1 (N := N) (β := fun i => β (pm_sw a b i)) (μ := fun i => μ (pm_sw p q (pm_sw q a i))) (β' := fun i => β (pm_sw a b i)) (μ' := fun i => μ (pm_sw p q (pm_sw q a (pm_sw p b i)))) hpN hb bP.1 P3.1 (fun P p1 p2 pab => ⟨p1, inv_sw (g := fun i => μ (pm_sw p q (pm_sw q a i))) hpN hb p2 pab⟩)
    unfold ESp at h ⊢
    rw [zf, zb, j3, j2, k3, k2]
    omega
/-! the places of a crossing left out -/
def hol (m x : Nat) : Nat := if x < m then x else x + 4
theorem hol_lt {m N x : Nat} (h : x < N) : hol m x < N + 4 := by unfold hol; split <;> omega
theorem hol_mono {m x y : Nat} : hol m x < hol m y ↔ x < y := by unfold hol; split <;> split <;> omega
theorem hol_inj {m x y : Nat} (h : hol m x = hol m y) : x = y := by unfold hol at h; split at h <;> split at h <;> omega
theorem hol_out {m x : Nat} : ¬ (m ≤ hol m x ∧ hol m x < m + 4) := by unfold hol; split <;> omega
theorem hol_ex {m i : Nat} (h : ¬ (m ≤ i ∧ i < m + 4)) : ∃ x, hol m x = i := by
  by_cases z : i < m
  · exact ⟨i, by unfold hol; rw [if_pos z]⟩
  · exact ⟨i - 4, by unfold hol; rw [if_neg (by omega)]; omega⟩
theorem hol_c {A : Nat → Prop} {m : Nat} (hA : ∀ i, m ≤ i → i < m + 4 → A i) : ∀ d, pm_c A (m + d + 4) = pm_c (fun x => A (hol m x)) (m + d) + 4
  | 0 => by
    rw [show m + 0 + 4 = m + 1 + 1 + 1 + 1 by omega, pm_c_y (hA _ (by omega) (by omega)), pm_c_y (hA _ (by omega) (by omega)), pm_c_y (hA _ (by omega) (by omega)), pm_c_y (hA m (by omega) (by omega)), show m + 0 = m by omega, pm_c_congr (p := fun x => A (hol m x)) (q := A) (fun i hi => by unfold hol; rw [if_pos hi])]
  | d + 1 => by
    have ih := hol_c hA d
    have e : hol m (m + d) = m + d + 4 := by unfold hol; rw [if_neg (by omega)]
    rw [show m + (d + 1) + 4 = (m + d + 4) + 1 by omega, show m + (d + 1) = (m + d) + 1 by omega]
    by_cases h : A (m + d + 4)
    · rw [pm_c_y h, pm_c_y (p := fun x => A (hol m x)) (by rw [e]; exact h), ih]
    · rw [pm_c_n h, pm_c_n (p := fun x => A (hol m x)) (by rw [e]; exact h), ih]
theorem hol_n {m N : Nat} (hm : m ≤ N) {r r' : Nat → Nat → Prop} (E : pm_E (N + 4) r) (h1 : ∀ i j, m ≤ i → i < m + 4 → r i j → i = j) (h2 : ∀ x y, x < N → y < N → (r (hol m x) (hol m y) ↔ r' x y)) : pm_n (N + 4) r = pm_n N r' + 4 := by
  obtain ⟨d, rfl⟩ : ∃ d, N = m + d := ⟨N - m, by omega⟩
  unfold pm_n
  rw [hol_c (A := pm_L r) (fun i a b j hj hr => by have := h1 i j a b hr; omega) d]
  rw [pm_c_congr (fun x hx => ?_)]
  constructor
  · intro h j hj hr; exact h _ (hol_mono.mpr hj) ((h2 x j hx (by omega)).mpr hr)
  · intro h i hi hr
    by_cases z : m ≤ i ∧ i < m + 4
    · have hx4 := hol_lt (m := m) hx
      have := h1 i _ z.1 z.2 (E.2.1 _ _ hx4 (by omega) hr)
      omega
    · obtain ⟨y, rfl⟩ := hol_ex z
      have hy := hol_mono.mp hi
      exact h y hy ((h2 x y hx (by omega)).mp hr)
theorem hol_R {m N : Nat} {g g' : Nat → Nat} (hg' : pm_P N g') (h : ∀ x, x < N → g (hol m x) = hol m (g' x)) {x y : Nat} (hx : x < N) : pm_R g (hol m x) (hol m y) ↔ pm_R g' x y := by
  have key : ∀ k, pm_it g k (hol m x) = hol m (pm_it g' k x) := by
    intro k
    induction k with
    | zero => rfl
    | succ k ih =>
      show g (pm_it g k (hol m x)) = _
      rw [ih, h _ (pm_it_lt hg' hx k)]; rfl
  constructor
  · rintro ⟨k, e⟩; exact ⟨k, hol_inj (by rw [← key k]; exact e)⟩
  · rintro ⟨k, e⟩; exact ⟨k, by rw [key k, e]⟩
theorem fix_R {g : Nat → Nat} {i j : Nat} (h : g i = i) (hr : pm_R g i j) : i = j := by
  obtain ⟨k, e⟩ := hr
  have : ∀ k, pm_it g k i = i := fun k => by
    induction k with
    | zero => rfl
    | succ k ih => show g (pm_it g k i) = i; rw [ih, h]
  rw [this k] at e; exact e
theorem ES_hol {m N : Nat} (hm : m ≤ N) {β μ β' μ' : Nat → Nat} (h : ESp (N + 4) β μ) (hβ : pm_P (N + 4) β) (hμ : pm_P (N + 4) μ) (hβ' : pm_P N β') (hμ' : pm_P N μ') (f1 : ∀ i, m ≤ i → i < m + 4 → β i = i) (f2 : ∀ i, m ≤ i → i < m + 4 → μ i = i) (e1 : ∀ x, x < N → β (hol m x) = hol m (β' x)) (e2 : ∀ x, x < N → μ (hol m x) = hol m (μ' x)) : ESp N β' μ' := by
  have z1 : pm_z (N + 4) β = pm_z N β' + 4 := hol_n hm (pm_RE hβ) (fun i j a b hr => fix_R (f1 i a b) hr) (fun x y hx _ => hol_R hβ' e1 hx)
  have z2 : pm_z (N + 4) μ = pm_z N μ' + 4 := hol_n hm (pm_RE hμ) (fun i j a b hr => fix_R (f2 i a b) hr) (fun x y hx _ => hol_R hμ' e2 hx)
  have z3 : pm_z (N + 4) (fun i => β (μ i)) = pm_z N (fun i => β' (μ' i)) + 4 := hol_n hm (pm_RE (pm_P_comp hβ hμ)) (fun i j a b hr => fix_R (by show β (μ i) = i; rw [f2 i a b, f1 i a b]) hr) (fun x y hx _ => hol_R (pm_P_comp hβ' hμ') (fun x hx => by show β (μ (hol m x)) = _; rw [e2 x hx, e1 _ (hμ'.1 x hx)]) hx)
  have z4 : pm_n (N + 4) (pm_G (N + 4) β μ) = pm_n N (pm_G N β' μ') + 4 := by
    refine hol_n hm (pm_GE _ _ _) (fun i j a b hr => ?_) (fun x y hx hy => ⟨fun q P p1 p2 => ?_, fun q P p1 p2 => ?_⟩)
    · refine (hr (fun z => i = z) (fun z hz => ?_) (fun z hz => ?_)).mp rfl
      · exact ⟨fun e => hβ.2 _ _ (by omega) hz (by rw [f1 i a b]; exact e), fun e => by rw [← e, f1 i a b]⟩
      · exact ⟨fun e => hμ.2 _ _ (by omega) hz (by rw [f2 i a b]; exact e), fun e => by rw [← e, f2 i a b]⟩
    · have inv : ∀ {g g' : Nat → Nat}, (∀ i, m ≤ i → i < m + 4 → g i = i) → (∀ x, x < N → g (hol m x) = hol m (g' x)) → (∀ x, x < N → (P (g' x) ↔ P x)) → ∀ i, i < N + 4 → ((∃ x, hol m x = g i ∧ P x) ↔ ∃ x, hol m x = i ∧ P x) := by
        intro g g' gf ge gp i hi
        by_cases z : m ≤ i ∧ i < m + 4
        · rw [gf i z.1 z.2]
        · obtain ⟨x, rfl⟩ := hol_ex z
          have hxN : x < N := by unfold hol at hi; split at hi <;> omega
          rw [ge x hxN]
          constructor
          · rintro ⟨w, w1, w2⟩
            rw [hol_inj w1] at w2
            exact ⟨x, rfl, (gp x hxN).mp w2⟩
          · rintro ⟨w, w1, w2⟩
            rw [hol_inj w1] at w2
            exact ⟨_, rfl, (gp x hxN).mpr w2⟩
      have := q (fun i => ∃ x, hol m x = i ∧ P x) (inv f1 e1 p1) (inv f2 e2 p2)
      constructor
      · intro w
        obtain ⟨v, v1, v2⟩ := this.mp ⟨x, rfl, w⟩
        rw [hol_inj v1] at v2; exact v2
      · intro w
        obtain ⟨v, v1, v2⟩ := this.mpr ⟨y, rfl, w⟩
        rw [hol_inj v1] at v2; exact v2
    · exact q (fun z => P (hol m z)) (fun z hz => by rw [← e1 z hz]; exact p1 _ (hol_lt hz)) (fun z hz => by rw [← e2 z hz]; exact p2 _ (hol_lt hz))
  unfold ESp at h ⊢
  omega
