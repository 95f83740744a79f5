/-! Two permutations, what hangs together by them, and Euler's inequality. -/
def pm_G (N : Nat) (β μ : Nat → Nat) (i j : Nat) : Prop := ∀ P : Nat → Prop, (∀ a, a < N → (P (β a) ↔ P a)) → (∀ a, a < N → (P (μ a) ↔ P a)) → (P i ↔ P j)
theorem pm_GE (N : Nat) (β μ : Nat → Nat) : pm_E N (pm_G N β μ) := ⟨fun _ _ _ _ _ => Iff.rfl, fun _ _ _ _ h P h1 h2 => (h P h1 h2).symm, fun _ _ _ _ _ _ h k P h1 h2 => (h P h1 h2).trans (k P h1 h2)⟩
theorem pm_G.b {N : Nat} {β μ : Nat → Nat} {a : Nat} (ha : a < N) : pm_G N β μ a (β a) := fun _ h1 _ => (h1 a ha).symm
theorem pm_G.m {N : Nat} {β μ : Nat → Nat} {a : Nat} (ha : a < N) : pm_G N β μ a (μ a) := fun _ _ h2 => (h2 a ha).symm
theorem pm_G.tr {N : Nat} {β μ : Nat → Nat} {a b c : Nat} (h : pm_G N β μ a b) (k : pm_G N β μ b c) : pm_G N β μ a c := fun P h1 h2 => (h P h1 h2).trans (k P h1 h2)
theorem pm_G.sy {N : Nat} {β μ : Nat → Nat} {a b : Nat} (h : pm_G N β μ a b) : pm_G N β μ b a := fun P h1 h2 => (h P h1 h2).symm
theorem pm_G.rf {N : Nat} {β μ : Nat → Nat} {a : Nat} : pm_G N β μ a a := fun _ _ _ => Iff.rfl
theorem pm_G.of {N : Nat} {β μ : Nat → Nat} {f : Nat → Nat} (hf : pm_P N f) (hs : ∀ a, a < N → pm_G N β μ a (f a)) {i j : Nat} (hi : i < N) (h : pm_R f i j) : pm_G N β μ i j := by
  obtain ⟨k, rfl⟩ := h
  induction k with
  | zero => exact pm_G.rf
  | succ k ih => exact ih.tr (hs _ (pm_it_lt hf hi k))
theorem pm_inv {N : Nat} {f : Nat → Nat} (h : pm_P N f) {x : Nat} (hx : x < N) : ∃ a, a < N ∧ f a = x := by
  obtain ⟨p, hp, -, e, -⟩ := pm_per h hx
  refine ⟨pm_it f (p - 1) x, pm_it_lt h hx _, ?_⟩
  show pm_it f (p - 1 + 1) x = x
  rw [show p - 1 + 1 = p by omega]
  exact e
theorem pm_P_comp {N : Nat} {f g : Nat → Nat} (hf : pm_P N f) (hg : pm_P N g) : pm_P N (fun i => f (g i)) := ⟨fun i hi => hf.1 _ (hg.1 i hi), fun i j hi hj e => hg.2 i j hi hj (hf.2 _ _ (hg.1 i hi) (hg.1 j hj) e)⟩
theorem pm_P_congr {N : Nat} {f g : Nat → Nat} (hf : pm_P N f) (h : ∀ i, i < N → g i = f i) : pm_P N g := ⟨fun i hi => by rw [h i hi]; exact hf.1 i hi, fun i j hi hj e => hf.2 i j hi hj (by rw [← h i hi, ← h j hj]; exact e)⟩
/-- parting one round of β: what becomes of the faces and of what hangs together -/
theorem pm_step {N : Nat} {β μ : Nat → Nat} (hβ : pm_P N β) (hμ : pm_P N μ) {x y : Nat} (hx : x < N) (hy : y < N) (hxy : x ≠ y) (hr : pm_R β x y) :
    pm_z N (fun i => β (pm_sw x y i)) = pm_z N β + 1 ∧
    ((pm_n N (pm_G N (fun i => β (pm_sw x y i)) μ) = pm_n N (pm_G N β μ) ∧ (pm_z N (fun i => β (pm_sw x y (μ i))) = pm_z N (fun i => β (μ i)) + 1 ∨ pm_z N (fun i => β (μ i)) = pm_z N (fun i => β (pm_sw x y (μ i))) + 1)) ∨
     (pm_n N (pm_G N (fun i => β (pm_sw x y i)) μ) = pm_n N (pm_G N β μ) + 1 ∧ pm_z N (fun i => β (pm_sw x y (μ i))) = pm_z N (fun i => β (μ i)) + 1)) := by
  refine ⟨(pm_part hβ hx hy hxy hr).2, ?_⟩
  have hβ' := pm_P_sw hβ hx hy
  obtain ⟨a, ha, ea⟩ := pm_inv hμ hx
  obtain ⟨b, hb, eb⟩ := pm_inv hμ hy
  have hab : a ≠ b := fun e => hxy (by rw [← ea, ← eb, e])
  have hφ := pm_P_comp hβ hμ
  have hφ' := pm_P_comp hβ' hμ
  -- the faces by a swap ahead
  have esw : ∀ i, i < N → pm_sw x y (μ i) = μ (pm_sw a b i) := by
    intro i hi
    unfold pm_sw
    by_cases h1 : i = a
    · subst h1; rw [if_pos ea, if_pos rfl, eb]
    · have n1 : μ i ≠ x := fun e => h1 (hμ.2 i a hi ha (by rw [e, ea]))
      rw [if_neg n1, if_neg h1]
      by_cases h2 : i = b
      · subst h2; rw [if_pos eb, if_pos rfl, ea]
      · have n2 : μ i ≠ y := fun e => h2 (hμ.2 i b hi hb (by rw [e, eb]))
        rw [if_neg n2, if_neg h2]
  have ez : pm_z N (fun i => β (pm_sw x y (μ i))) = pm_z N (fun i => (fun i => β (μ i)) (pm_sw a b i)) := by
    refine pm_z_congr (pm_P_sw hφ ha hb) (fun i hi => ?_)
    show β (pm_sw x y (μ i)) = β (μ (pm_sw a b i))
    rw [esw i hi]
  -- what hangs together: β's is β''s with x and y joined
  have g1 : ∀ i j, i < N → j < N → pm_G N (fun i => β (pm_sw x y i)) μ i j → pm_G N β μ i j := by
    intro i j hi hj h P h1 h2
    refine h P (fun c hc => ?_) h2
    show P (β (pm_sw x y c)) ↔ P c
    rw [h1 _ (pm_sw_lt hx hy hc)]
    have hPxy : P x ↔ P y := (pm_G.of hβ (fun a ha => pm_G.b ha) hx hr : pm_G N β μ x y) P h1 h2
    unfold pm_sw
    by_cases c1 : c = x
    · subst c1; rw [if_pos rfl]; exact hPxy.symm
    · rw [if_neg c1]
      by_cases c2 : c = y
      · subst c2; rw [if_pos rfl]; exact hPxy
      · rw [if_neg c2]
  have g2 : ∀ (r : Nat → Nat → Prop), pm_E N r → r x y → (∀ c, c < N → r c (β (pm_sw x y c))) → (∀ c, c < N → r c (μ c)) → ∀ i j, i < N → j < N → pm_G N β μ i j → r i j := by
    intro r E hrxy hb1 hm1 i j hi hj h
    refine (h (fun k => r i k ∧ k < N) (fun c hc => ?_) (fun c hc => ?_)).mp ⟨E.1 i hi, hi⟩ |>.1
    · have e0 : β c = β (pm_sw x y (pm_sw x y c)) := by rw [pm_sw_sw]
      have hs := pm_sw_lt hx hy hc
      have h1 : r (pm_sw x y c) (β c) := by rw [e0]; exact hb1 _ hs
      have h2 : r c (pm_sw x y c) := by
        unfold pm_sw
        by_cases c1 : c = x
        · subst c1; rw [if_pos rfl]; exact hrxy
        · rw [if_neg c1]
          by_cases c2 : c = y
          · subst c2; rw [if_pos rfl]; exact E.2.1 _ _ hx hc hrxy
          · rw [if_neg c2]; exact E.1 c hc
      have h3 : r c (β c) := E.2.2 _ _ _ hc hs (hβ.1 c hc) h2 h1
      exact ⟨fun q => ⟨E.2.2 _ _ _ hi (hβ.1 c hc) hc q.1 (E.2.1 _ _ hc (hβ.1 c hc) h3), hc⟩, fun q => ⟨E.2.2 _ _ _ hi hc (hβ.1 c hc) q.1 h3, hβ.1 c hc⟩⟩
    · have h3 := hm1 c hc
      exact ⟨fun q => ⟨E.2.2 _ _ _ hi (hμ.1 c hc) hc q.1 (E.2.1 _ _ hc (hμ.1 c hc) h3), hc⟩, fun q => ⟨E.2.2 _ _ _ hi hc (hμ.1 c hc) q.1 h3, hμ.1 c hc⟩⟩
  by_cases hG : pm_G N (fun i => β (pm_sw x y i)) μ x y
  · left
    refine ⟨pm_n_congr (fun i j hi hj => ⟨g1 i j hi hj, g2 _ (pm_GE N _ μ) hG (fun c hc => pm_G.b (β := fun i => β (pm_sw x y i)) hc) (fun c hc => pm_G.m hc) i j hi hj⟩), ?_⟩
    rw [ez]
    by_cases hR : pm_R (fun i => β (μ i)) a b
    · exact Or.inl (pm_part hφ ha hb hab hR).2
    · exact Or.inr (pm_join hφ ha hb hR)
  · right
    have E' := pm_GE N (fun i => β (pm_sw x y i)) μ
    constructor
    · refine pm_merge E' hx hy hG (fun i j hi hj => ⟨fun h => ?_, fun h => ?_⟩)
      · have Em : pm_E N (fun i j => pm_G N (fun i => β (pm_sw x y i)) μ i j ∨ (pm_G N (fun i => β (pm_sw x y i)) μ i x ∧ pm_G N (fun i => β (pm_sw x y i)) μ y j) ∨ (pm_G N (fun i => β (pm_sw x y i)) μ i y ∧ pm_G N (fun i => β (pm_sw x y i)) μ x j)) := by
          refine ⟨fun i hi => Or.inl pm_G.rf, fun i j hi hj q => ?_, fun i j k hi hj hk q1 q2 => ?_⟩
          · rcases q with q | ⟨q1, q2⟩ | ⟨q1, q2⟩
            · exact Or.inl q.sy
            · exact Or.inr (Or.inr ⟨q2.sy, q1.sy⟩)
            · exact Or.inr (Or.inl ⟨q2.sy, q1.sy⟩)
          · rcases q1 with q | ⟨a1, a2⟩ | ⟨a1, a2⟩ <;> rcases q2 with p | ⟨b1, b2⟩ | ⟨b1, b2⟩
            · exact Or.inl (q.tr p)
            · exact Or.inr (Or.inl ⟨q.tr b1, b2⟩)
            · exact Or.inr (Or.inr ⟨q.tr b1, b2⟩)
            · exact Or.inr (Or.inl ⟨a1, a2.tr p⟩)
            · exact absurd (a2.tr b1).sy hG
            · exact Or.inl (a1.tr b2)
            · exact Or.inr (Or.inr ⟨a1, a2.tr p⟩)
            · exact Or.inl (a1.tr b2)
            · exact absurd (a2.tr b1) hG
        exact g2 _ Em (Or.inr (Or.inl ⟨pm_G.rf, pm_G.rf⟩)) (fun c hc => Or.inl (pm_G.b (β := fun i => β (pm_sw x y i)) hc)) (fun c hc => Or.inl (pm_G.m hc)) i j hi hj h
      · have hxy2 : pm_G N β μ x y := pm_G.of hβ (fun a ha => pm_G.b ha) hx hr
        rcases h with q | ⟨q1, q2⟩ | ⟨q1, q2⟩
        · exact g1 i j hi hj q
        · exact ((g1 i x hi hx q1).tr hxy2).tr (g1 y j hy hj q2)
        · exact ((g1 i y hi hy q1).tr hxy2.sy).tr (g1 x j hx hj q2)
    · -- a and b lie in different rounds of φ'
      have hn : ¬ pm_R (fun i => β (pm_sw x y (μ i))) a b := by
        intro hR
        have h1 : pm_G N (fun i => β (pm_sw x y i)) μ a b := pm_G.of hφ' (fun c hc => (pm_G.m hc).tr (pm_G.b (β := fun i => β (pm_sw x y i)) (hμ.1 c hc))) ha hR
        have h2 : pm_G N (fun i => β (pm_sw x y i)) μ a x := by
          have := pm_G.m (N := N) (β := fun i => β (pm_sw x y i)) (μ := μ) ha
          rw [ea] at this
          exact this
        have h3 : pm_G N (fun i => β (pm_sw x y i)) μ b y := by
          have := pm_G.m (N := N) (β := fun i => β (pm_sw x y i)) (μ := μ) hb
          rw [eb] at this
          exact this
        exact hG ((h2.sy.tr h1).tr h3)
      have hj := pm_join hφ' ha hb hn
      rw [hj]
      congr 1
      refine pm_z_congr hφ (fun i hi => ?_)
      show β (pm_sw x y (μ (pm_sw a b i))) = β (μ i)
      rw [← esw i hi, pm_sw_sw]
theorem pm_fix {N : Nat} {β : Nat → Nat} (h : ∀ i, i < N → β i = i) : pm_z N β = N := by
  refine pm_c_all (fun i hi j hj ⟨k, e⟩ => ?_)
  have : ∀ k, pm_it β k i = i := by
    intro k
    induction k with
    | zero => rfl
    | succ k ih => show β (pm_it β k i) = i; rw [ih, h i hi]
  rw [this k] at e
  omega
theorem pm_z_le (N : Nat) (f : Nat → Nat) : pm_z N f ≤ N := pm_c_le _ N
theorem pm_euler {N : Nat} {μ : Nat → Nat} (hμ : pm_P N μ) : ∀ (d : Nat) (β : Nat → Nat), pm_P N β → N - pm_z N β ≤ d → pm_z N β + pm_z N μ + pm_z N (fun i => β (μ i)) ≤ N + 2 * pm_n N (pm_G N β μ) := by
  intro d
  induction d with
  | zero =>
    intro β hβ hd
    have hz : pm_z N β = N := by have := pm_z_le N β; omega
    have hid : ∀ i, i < N → β i = i := by
      intro i hi
      by_cases e : β i = i
      · exact e
      · exfalso
        have := (pm_part hβ hi (hβ.1 i hi) (fun q => e q.symm) pm_R.st).2
        have h2 := pm_z_le N (fun k => β (pm_sw i (β i) k))
        omega
    have h1 : pm_z N (fun i => β (μ i)) = pm_z N μ := pm_z_congr hμ (fun i hi => hid _ (hμ.1 i hi))
    have h2 : pm_n N (pm_G N β μ) = pm_z N μ := by
      refine pm_n_congr (fun i j hi hj => ⟨fun h => ?_, fun h => pm_G.of hμ (fun c hc => pm_G.m hc) hi h⟩)
      refine (h (fun k => pm_R μ i k) (fun c hc => by rw [hid c hc]) (fun c hc => ⟨fun q => q.tr (pm_R.sy hμ hc pm_R.st), fun q => q.tr pm_R.st⟩)).mp pm_R.rf
    omega
  | succ d ih =>
    intro β hβ hd
    by_cases hall : ∀ i, i < N → β i = i
    · refine ih β hβ ?_
      rw [pm_fix hall]
      omega
    · obtain ⟨x, hx⟩ := Classical.not_forall.mp hall
      obtain ⟨hxN, hxb⟩ := Classical.not_imp.mp hx
      obtain ⟨s1, s2⟩ := pm_step hβ hμ hxN (hβ.1 x hxN) (fun q => hxb q.symm) pm_R.st
      have h1 := ih (fun i => β (pm_sw x (β x) i)) (pm_P_sw hβ hxN (hβ.1 x hxN)) (by omega)
      rcases s2 with ⟨c1, c2⟩ | ⟨c1, c2⟩
      · rcases c2 with c2 | c2 <;> omega
      · omega
/-- EULER: never more faces than on spheres -/
theorem pm_euler0 {N : Nat} {β μ : Nat → Nat} (hβ : pm_P N β) (hμ : pm_P N μ) : pm_z N β + pm_z N μ + pm_z N (fun i => β (μ i)) ≤ N + 2 * pm_n N (pm_G N β μ) := pm_euler hμ N β hβ (Nat.sub_le _ _)
