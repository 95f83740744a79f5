/-! On spheres: in all. -/
def ESp (N : Nat) (β μ : Nat → Nat) : Prop := N + 2 * pm_n N (pm_G N β μ) ≤ pm_z N β + pm_z N μ + pm_z N (fun i => β (μ i))
section ES
variable {n : Nat} {sg lb : Nat → Int}
theorem G_pr (hD : dg_D n sg lb) {i j : Nat} (hi : i < 4 * n) (hj : j < 4 * n) : pm_G (4 * n) na_beside (mt lb (4 * n)) i j ↔ pr_L n lb (i / 4) (j / 4) := by
  constructor
  · intro h P hP
    exact h (fun a => P (a / 4)) (fun a _ => by rw [na_beside_4]) (fun a ha => by obtain ⟨m1, _, m3, _⟩ := dg_mt hD ha; exact hP _ _ m1 ha m3)
  · intro h P p1 p2
    have h4 : ∀ a, a < 4 * n → (P a ↔ P (4 * (a / 4))) := fun a ha => it_inv (be_P n) p1 ha ((be_R a (4 * (a / 4))).mpr (by omega))
    rw [h4 i hi, h4 j hj]
    refine h (fun x => P (4 * x)) (fun a b ha hb e => ?_)
    show P (4 * (a / 4)) ↔ P (4 * (b / 4))
    rw [← h4 a ha, ← h4 b hb]
    rcases (dg_mt hD ha).2.2.2.2 b hb e.symm with z | z
    · rw [z]
    · rw [z]; exact (p2 a ha).symm
theorem G_L (hD : dg_D n sg lb) {a : Nat} (ha : a < 4 * n) : pm_L (pm_G (4 * n) na_beside (mt lb (4 * n))) a ↔ a % 4 = 0 ∧ pm_L (pr_L n lb) (a / 4) := by
  constructor
  · intro h
    refine ⟨?_, fun j hj hr => ?_⟩
    · rcases Nat.eq_zero_or_pos (a % 4) with z | z
      · exact z
      · refine absurd ((G_pr hD ha (show 4 * (a / 4) < 4 * n by omega)).mpr ?_) (h _ (by omega))
        rw [show 4 * (a / 4) / 4 = a / 4 by omega]
        exact (pr_E n n lb).1 _ (by omega)
    · refine absurd ((G_pr hD ha (show 4 * j < 4 * n by omega)).mpr ?_) (h _ (by omega))
      rw [show 4 * j / 4 = j by omega]; exact hr
  · rintro ⟨h1, h2⟩ j hj hr
    exact h2 (j / 4) (by omega) ((G_pr hD ha (by omega)).mp hr)
theorem F_le (hD : dg_D n sg lb) {k : Nat} (hk : k < n) (hl : pm_L (pr_L n lb) k) : FS n lb k ≤ NC n lb k + 2 := by
  have E := pr_E n n lb
  have h := eu_Q (Q := fun a => pr_L n lb (a / 4) k) (be_P n) (mt_P hD) (fun a _ => by rw [na_beside_4]) (fun a ha => by obtain ⟨m1, _, m3, _⟩ := dg_mt hD ha; exact pr_mate m1 ha m3 k)
  have e1 : pm_c (fun i => pm_L (pm_R na_beside) i ∧ pr_L n lb (i / 4) k) (4 * n) = NC n lb k := by
    rw [pm_c_congr (q := fun a => a % 4 = 0 ∧ (fun x => pr_L n lb x k) (a / 4)) (fun i _ => by rw [be_L])]
    exact pm_c_4 (fun x => pr_L n lb x k) n
  have e2 : pm_c (fun a => pr_L n lb (a / 4) k) (4 * n) = 4 * NC n lb k := pm_c_44 (fun x => pr_L n lb x k) n
  have e3 := iv_half (N := 4 * n) (μ := mt lb (4 * n)) (Q := fun a => pr_L n lb (a / 4) k) (fun a ha => ⟨(dg_mt hD ha).1, dg_mm hD ha, (dg_mt hD ha).2.1⟩) (fun a ha => by obtain ⟨m1, _, m3, _⟩ := dg_mt hD ha; exact pr_mate m1 ha m3 k)
  have e4 : pm_c (fun i => pm_L (pm_G (4 * n) na_beside (mt lb (4 * n))) i ∧ pr_L n lb (i / 4) k) (4 * n) = 1 := by
    rw [pm_c_congr (q := fun a => a % 4 = 0 ∧ (fun x => pm_L (pr_L n lb) x ∧ pr_L n lb x k) (a / 4)) (fun i hi => by rw [G_L hD hi]; exact and_assoc), pm_c_4 (fun x => pm_L (pr_L n lb) x ∧ pr_L n lb x k) n, pm_c_one (q := fun _ => False) hk (fun i hi hne => ⟨fun z => hne (pm_least_eq E hi hi hk (E.1 i hi) z.2 z.1 hl), fun z => absurd z id⟩) ⟨hl, E.1 k hk⟩ id, pm_c_none (fun _ _ => id)]
  have e5 : pm_c (fun i => pm_L (pm_R (fun i => na_beside (mt lb (4 * n) i))) i ∧ pr_L n lb (i / 4) k) (4 * n) = FS n lb k := rfl
  rw [e1, e2, e4, e5] at h
  omega
theorem ES_parts (hD : dg_D n sg lb) : pm_z (4 * n) na_beside = n ∧ pm_z (4 * n) (mt lb (4 * n)) = 2 * n ∧ pm_n (4 * n) (pm_G (4 * n) na_beside (mt lb (4 * n))) = pm_n n (pr_L n lb) := by
  refine ⟨?_, ?_, ?_⟩
  · unfold pm_z pm_n
    rw [pm_c_congr (q := fun a => a % 4 = 0 ∧ (fun _ => True) (a / 4)) (fun i _ => by rw [be_L]; exact ⟨fun z => ⟨z, trivial⟩, fun z => z.1⟩), pm_c_4 (fun _ => True) n, pm_c_all (fun _ _ => trivial)]
  · have e3 := iv_half (N := 4 * n) (μ := mt lb (4 * n)) (Q := fun _ => True) (fun a ha => ⟨(dg_mt hD ha).1, dg_mm hD ha, (dg_mt hD ha).2.1⟩) (fun a ha => Iff.rfl)
    rw [pm_c_all (p := fun _ => True) (fun _ _ => trivial), pm_c_congr (q := pm_L (pm_R (mt lb (4 * n)))) (fun i _ => ⟨fun z => z.1, fun z => ⟨z, trivial⟩⟩)] at e3
    unfold pm_z pm_n; omega
  · unfold pm_n
    rw [pm_c_congr (q := fun a => a % 4 = 0 ∧ pm_L (pr_L n lb) (a / 4)) (fun i hi => G_L hD hi), pm_c_4]
theorem ES_sum (hD : dg_D n sg lb) : pm_z (4 * n) (fa n lb) = pm_s (fun k => pm_c (fun a => pm_L (pm_R (fa n lb)) a ∧ pm_m (pr_L n lb) (a / 4) = k) (4 * n)) n ∧ n = pm_s (fun k => pm_c (fun x => True ∧ pm_m (pr_L n lb) x = k) n) n ∧ pm_n n (pr_L n lb) = pm_s (fun k => pm_c (fun x => pm_L (pr_L n lb) x ∧ pm_m (pr_L n lb) x = k) n) n := by
  have E := pr_E n n lb
  refine ⟨?_, ?_, ?_⟩
  · exact pm_s_part (fun a ha => by have := (pm_m_spec E (show a / 4 < n by omega)).1; omega)
  · have := pm_s_part (κ := pm_m (pr_L n lb)) (A := fun _ => True) (m := n) (N := n) (fun a ha => by have := (pm_m_spec E ha).1; omega)
    rw [pm_c_all (p := fun _ => True) (fun _ _ => trivial)] at this
    exact this
  · exact pm_s_part (fun a ha => by have := (pm_m_spec E ha).1; omega)
theorem ES_terms (hD : dg_D n sg lb) {k : Nat} (hk : k < n) : (pm_L (pr_L n lb) k ∧ pm_c (fun a => pm_L (pm_R (fa n lb)) a ∧ pm_m (pr_L n lb) (a / 4) = k) (4 * n) = FS n lb k ∧ pm_c (fun x => True ∧ pm_m (pr_L n lb) x = k) n = NC n lb k ∧ pm_c (fun x => pm_L (pr_L n lb) x ∧ pm_m (pr_L n lb) x = k) n = 1) ∨ (¬ pm_L (pr_L n lb) k ∧ pm_c (fun a => pm_L (pm_R (fa n lb)) a ∧ pm_m (pr_L n lb) (a / 4) = k) (4 * n) = 0 ∧ pm_c (fun x => True ∧ pm_m (pr_L n lb) x = k) n = 0 ∧ pm_c (fun x => pm_L (pr_L n lb) x ∧ pm_m (pr_L n lb) x = k) n = 0) := by
  have E := pr_E n n lb
  by_cases hl : pm_L (pr_L n lb) k
  · have hm : ∀ x, x < n → (pm_m (pr_L n lb) x = k ↔ pr_L n lb x k) := fun x hx => ⟨fun z => by rw [← z]; exact (pm_m_spec E hx).2.1, fun z => pm_m_eq E hx hk z hl⟩
    refine Or.inl ⟨hl, pm_c_congr (fun a ha => by rw [hm _ (by omega)]), pm_c_congr (fun x hx => by rw [hm x hx]; exact ⟨fun z => z.2, fun z => ⟨trivial, z⟩⟩), ?_⟩
    rw [pm_c_one (q := fun _ => False) hk (fun i hi hne => ⟨fun z => hne (by rw [← z.2]; exact ((pm_m_self E hi).mpr z.1).symm), fun z => absurd z id⟩) ⟨hl, (pm_m_self E hk).mpr hl⟩ id, pm_c_none (fun _ _ => id)]
  · have hno : ∀ x, x < n → pm_m (pr_L n lb) x ≠ k := fun x hx e => hl (by rw [← e]; exact (pm_m_spec E hx).2.2)
    exact Or.inr ⟨hl, pm_c_none (fun a ha z => hno _ (by omega) z.2), pm_c_none (fun x hx z => hno x hx z.2), pm_c_none (fun x hx z => hno x hx z.2)⟩
theorem ES_iff (hD : dg_D n sg lb) : ESp (4 * n) na_beside (mt lb (4 * n)) ↔ SPh n lb := by
  obtain ⟨p1, p2, p3⟩ := ES_parts hD
  obtain ⟨s1, s2, s3⟩ := ES_sum hD
  have e : pm_z (4 * n) (fun i => na_beside (mt lb (4 * n) i)) = pm_z (4 * n) (fa n lb) := rfl
  unfold ESp
  rw [p1, p2, p3, e]
  constructor
  · intro h k hk hl
    have h2 := pm_s_eq (m := n) (g := fun k => pm_c (fun a => pm_L (pm_R (fa n lb)) a ∧ pm_m (pr_L n lb) (a / 4) = k) (4 * n)) (g1 := fun k => pm_c (fun x => True ∧ pm_m (pr_L n lb) x = k) n) (g2 := fun k => pm_c (fun x => pm_L (pr_L n lb) x ∧ pm_m (pr_L n lb) x = k) n) (fun i hi => ?_) (by rw [← s1, ← s3]; omega) k hk
    · rcases ES_terms hD hk with ⟨_, t1, t2, t3⟩ | ⟨z, _⟩
      · rw [t1, t2, t3] at h2; omega
      · exact absurd hl z
    · rcases ES_terms hD hi with ⟨l, t1, t2, t3⟩ | ⟨_, t1, t2, t3⟩
      · rw [t1, t2, t3]; have := F_le hD hi l; omega
      · rw [t1, t2, t3]; exact Nat.le_refl _
  · intro h
    have h2 := pm_s_lin (m := n) (g := fun k => pm_c (fun a => pm_L (pm_R (fa n lb)) a ∧ pm_m (pr_L n lb) (a / 4) = k) (4 * n)) (g1 := fun k => pm_c (fun x => True ∧ pm_m (pr_L n lb) x = k) n) (g2 := fun k => pm_c (fun x => pm_L (pr_L n lb) x ∧ pm_m (pr_L n lb) x = k) n) (fun i hi => ?_)
    · rw [← s1, ← s2, ← s3] at h2; omega
    · rcases ES_terms hD hi with ⟨l, t1, t2, t3⟩ | ⟨_, t1, t2, t3⟩
      · rw [t1, t2, t3]; have := h i hi l; omega
      · rw [t1, t2, t3]
end ES
/-! taking two places away -/
theorem pm_n_sub {N : Nat} {r s : Nat → Nat → Prop} (h : ∀ i j, i < N → j < N → r i j → s i j) : pm_n N s ≤ pm_n N r :=
  pm_c_sub (fun i hi hl j hj hr => hl j hj (h i j hi (by omega) hr))
theorem pm_n_one {N : Nat} {r s : Nat → Nat → Prop} (E : pm_E N r) {x y : Nat} (hx : x < N) (hy : y < N) (h : ∀ i j, i < N → j < N → s i j → pm_M r x y i j) : pm_n N r ≤ pm_n N s + 1 := by
  have h1 := pm_n_sub (N := N) (r := s) (s := pm_M r x y) h
  by_cases hxy : r x y
  · have h2 : pm_n N r ≤ pm_n N (pm_M r x y) := pm_n_sub (fun i j hi hj q => by
      rcases q with q | ⟨q1, q2⟩ | ⟨q1, q2⟩
      · exact q
      · exact E.2.2 _ _ _ hi hx hj q1 (E.2.2 _ _ _ hx hy hj hxy q2)
      · exact E.2.2 _ _ _ hi hy hj q1 (E.2.2 _ _ _ hy hx hj (E.2.1 _ _ hx hy hxy) q2))
    omega
  · have h2 := pm_merge E hx hy hxy (s := pm_M r x y) (fun i j _ _ => Iff.rfl)
    omega
theorem G_le {N : Nat} {β μ β' μ' : Nat → Nat} (h : ∀ P : Nat → Prop, (∀ a, a < N → (P (β' a) ↔ P a)) → (∀ a, a < N → (P (μ' a) ↔ P a)) → (∀ a, a < N → (P (β a) ↔ P a)) ∧ ∀ a, a < N → (P (μ a) ↔ P a)) : pm_n N (pm_G N β' μ') ≤ pm_n N (pm_G N β μ) :=
  pm_n_sub (fun i j _ _ q P p1 p2 => by obtain ⟨a, b⟩ := h P p1 p2; exact q P a b)
theorem G_le1 {N : Nat} {β μ β' μ' : Nat → Nat} {x y : Nat} (hx : x < N) (hy : y < N) (hβ : ∀ a, a < N → β' a < N) (hμ : ∀ a, a < N → μ' a < N) (h : ∀ P : Nat → Prop, (∀ a, a < N → (P (β' a) ↔ P a)) → (∀ a, a < N → (P (μ' a) ↔ P a)) → (P x ↔ P y) → (∀ a, a < N → (P (β a) ↔ P a)) ∧ ∀ a, a < N → (P (μ a) ↔ P a)) : pm_n N (pm_G N β' μ') ≤ pm_n N (pm_G N β μ) + 1 := by
  have E := pm_GE N β' μ'
  have EM := pm_ME E hx hy
  refine pm_n_one E hx hy (fun i j hi hj q => ?_)
  have mono : ∀ a b, pm_G N β' μ' a b → pm_M (pm_G N β' μ') x y a b := fun a b z => Or.inl z
  have ih : ∀ a b, a < N → b < N → pm_M (pm_G N β' μ') x y a b → (pm_M (pm_G N β' μ') x y i a ↔ pm_M (pm_G N β' μ') x y i b) := fun a b ha hb z => ⟨fun w => EM.2.2 _ _ _ hi ha hb w z, fun w => EM.2.2 _ _ _ hi hb ha w (EM.2.1 _ _ ha hb z)⟩
  obtain ⟨p1, p2⟩ := h (fun z => pm_M (pm_G N β' μ') x y i z) (fun a ha => ih _ _ (hβ a ha) ha (mono _ _ (pm_G.b ha).sy)) (fun a ha => ih _ _ (hμ a ha) ha (mono _ _ (pm_G.m ha).sy)) (ih _ _ hx hy (Or.inr (Or.inl ⟨E.1 x hx, E.1 y hy⟩)))
  exact (q (fun z => pm_M (pm_G N β' μ') x y i z) p1 p2).mp (EM.1 i hi)
