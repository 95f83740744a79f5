/-! The beginning. -/
theorem RL_init {D : gx_Dc} {m : gt_T} (h1 : D.1.1.1 2 = 0) (h2 : m.1 1 = 0) (h3 : m.1 5 = 0) (r : D.2.1.1.1 2 = 0) (ed : D.2.1.2.1.1 5 = 0) (pc : D.2.1.2.2.1.1 2 = 0 ∧ D.2.1.2.2.1.1 3 = 0) (ar : D.2.1.2.2.2.1.1 2 = 0 ∧ D.2.1.2.2.2.1.1 3 = 0) (cm : D.2.1.2.2.2.2.1.1 4 = 0 ∧ D.2.1.2.2.2.2.1.1 5 = 0) (sf : D.2.1.2.2.2.2.2.1.1 4 = 0 ∧ D.2.1.2.2.2.2.2.1.1 5 = 0) (fc : D.2.1.2.2.2.2.2.2.1.1 4 = 0 ∧ D.2.1.2.2.2.2.2.2.1.1 5 = 0) (h4 : D.2.2.1 2 = m.1 6) (h5 : m.1 6 = 0) (h6 : D.2.2.1 3 = m.1 2) : RLc D m := by
  have n0 : ∀ {k : Nat}, ¬ k < 0 := fun {k} => Nat.not_lt_zero k
  have gp0 : ∀ {t : gt_T} {r : Nat → Nat → Prop}, t.1 2 = 0 ∧ t.1 3 = 0 → gp_ok t 0 r := fun h => ⟨⟨h.1, fun i j hi => absurd hi n0⟩, h.2, fun i j hi => absurd hi n0⟩
  have rd0 : ∀ {t : gt_T} {π : Nat → Nat}, t.1 4 = 0 ∧ t.1 5 = 0 → rd_ok t 0 π := fun h => ⟨h.1, fun i hi => absurd hi n0, h.2, fun i j hi => absurd hi n0, fun j hj => absurd hj n0⟩
  have d0 : ∀ {a b c d : Nat → Int}, dsm 0 a b c d := ⟨fun k hk => absurd hk n0, fun k hk => absurd hk (by omega)⟩
  have r0 : ∀ {t : gt_T}, t.1 2 = 0 → rw_ok t 0 := fun h => ⟨h, by decide, fun k hk => absurd hk n0, fun k hk => absurd hk (by omega)⟩
  refine ⟨0, 0, 0, ⟨r0 h1, h2, d0⟩, ⟨h3, ⟨⟨r0 r, fun a ha => absurd ha (by omega), ed, ⟨Nat.le_refl 0, fun i j _ hj => absurd hj n0, fun i hi => absurd hi n0, fun a ha => absurd ha (by omega)⟩, rfl, fun i hi => absurd hi n0, fun a ha => absurd ha (by omega)⟩, gp0 pc, gp0 ar, rd0 cm, rd0 sf, rd0 fc, fun k hk => absurd hk n0⟩, d0⟩, ⟨h4, by omega, by omega, h6⟩⟩
