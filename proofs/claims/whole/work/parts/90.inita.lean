/-! The constructors. -/
def gm_rm (f l c s : Nat) : Room := { frames := f, cells := c, slots := s, locals := l }
def gm_0 : gt_T := (fun _ => 0, fun _ _ => 0)
def gm_m2 : gt_T := (fun j => if j = 2 then -1 else 0, fun _ _ => 0)
def gm_w8 : gt_T := (fun j => if j = 8 then -1 else 0, fun _ _ => 0)
def gm_w3 : gt_T := (fun j => if j = 3 then -1 else 0, fun _ _ => 0)
def gm_ch : gx_Ch := (gm_0, gm_0, gm_0, gm_0, gm_0, gm_0, gm_0, gm_w8)
def gm_dc : gx_Dc := (gm_ch, gm_ch, gm_w3)
def gm_nw0 : ga_N := [(RX0, 11, yX4_init, "DiagramCode"), (RX0, 20, yX1_init, "DiagramCode"), (RX0, 27, yX2_init, "DiagramCode"), (RX0, 37, yX3_init, "DiagramCode")]
def gm_nw5 : ga_N := (RX5, 11, yX0_init, "DiagramCode") :: gm_nw0
theorem gm_Wk {c : Nat} {T : gx_Ch} {σ σ' : ga_S} (h : gx_W c T σ) (hk : ∀ k, c ≤ k → k < c + 32 → σ' k = σ k) : gx_W c T σ' := by
  obtain ⟨h1, h2, h3, h4, h5, h6, h7, h8⟩ := h
  exact ⟨h1.keep okX4 (fun k a b => hk k (by omega) (by omega)) (by decide), h2.keep okX1 (fun k a b => hk k (by omega) (by omega)) (by decide), h3.keep okX2 (fun k a b => hk k (by omega) (by omega)) (by decide), h4.keep okX2 (fun k a b => hk k (by omega) (by omega)) (by decide), h5.keep okX3 (fun k a b => hk k (by omega) (by omega)) (by decide), h6.keep okX3 (fun k a b => hk k (by omega) (by omega)) (by decide), h7.keep okX3 (fun k a b => hk k (by omega) (by omega)) (by decide), h8.keep okX0 (fun k a b => hk k (by omega) (by omega)) (by decide)⟩
set_option maxHeartbeats 4000000 in
set_option maxRecDepth 20000 in
theorem eX4_init (l : Launch) (D : va_G) (cI cZ : ClassId) {b : Nat} (hb0 : b ≠ 0) {σ : ga_S} (hσ : σ b = .inr (4, [.inr 0, .inr 0, .inl 0])) : ga_Ev l (D, vwCl, cI, cZ) yX4_init wsX4_init (gm_rm 1 20 2 100) [] 2 100 b [.inr b] σ (fun σ' rv => (gt_O SX4 4 (b) gm_0 σ' ∧ gt_F b (b + 3) σ σ') ∧ rv = none) := by
  refine ga_ofV (by decide +kernel) rfl gt_hcl (Nat.le_of_ble_eq_true rfl) (fun X hX C hret => ?_)
  have hF : gt_F b (b + 3) σ σ := gt_F.rf
  refine ga_aload_n C dX4_init_0 rfl rfl hb0 ?_
  refine ga_objI C (by decide +kernel) (by decide +kernel) (by decide +kernel) hb0 (by decide) ⟨by decide, by decide⟩ dX4_init_1 ?_
  refine ga_aload_n C dX4_init_4 rfl rfl hb0 ?_
  refine ga_bipush C dX4_init_5 ⟨by decide, by decide⟩ (by decide) ?_
  refine ga_newi (n := 20) C (by decide +kernel) (by decide) ⟨Nat.le_of_ble_eq_true rfl, Nat.le_of_ble_eq_true rfl⟩ dX4_init_7 (fun σ1 n1 s1 => ?_)
  have hσ : σ1 b = .inr (4, [.inr 0, .inr 0, .inl 0]) := (s1 b (by omega)).trans hσ
  have a1 : σ1 (b + 1) = .inl (false, 20, fun _ => 0) := n1
  have hF : gt_F b (b + 3) σ σ1 := fun k hk => (s1 k (by omega)).trans (hF k hk)
  refine ga_putC (j := 0) C (by decide +kernel) tyX4 tyX4_ok nmX4 hσ rfl (by decide) (by decide +kernel) (Or.inr ⟨rfl, rfl, rfl⟩) (tyX4_ok 0 (by decide)) (fun ad => ⟨rfl, rfl⟩) (Nat.le_of_ble_eq_true rfl) dX4_init_9 (fun σ2 n2 s2 => ?_)
  have hσ : σ2 b = .inr (4, [.inr (b + 1), .inr 0, .inl 0]) := n2
  have a1 : σ2 (b + 1) = .inl (false, 20, fun _ => 0) := (s2 (b + 1) (by omega)).trans a1
  have hF : gt_F b (b + 3) σ σ2 := fun k hk => (s2 k (by omega)).trans (hF k hk)
  refine ga_aload_n C dX4_init_12 rfl rfl hb0 ?_
  refine ga_bipush C dX4_init_13 ⟨by decide, by decide⟩ (by decide) ?_
  refine ga_newi (n := 80) C (by decide +kernel) (by decide) ⟨Nat.le_of_ble_eq_true rfl, Nat.le_of_ble_eq_true rfl⟩ dX4_init_15 (fun σ3 n3 s3 => ?_)
  have hσ : σ3 b = .inr (4, [.inr (b + 1), .inr 0, .inl 0]) := (s3 b (by omega)).trans hσ
  have a1 : σ3 (b + 1) = .inl (false, 20, fun _ => 0) := (s3 (b + 1) (by omega)).trans a1
  have a2 : σ3 (b + 2) = .inl (false, 80, fun _ => 0) := n3
  have hF : gt_F b (b + 3) σ σ3 := fun k hk => (s3 k (by omega)).trans (hF k hk)
  refine ga_putC (j := 1) C (by decide +kernel) tyX4 tyX4_ok nmX4 hσ rfl (by decide) (by decide +kernel) (Or.inr ⟨rfl, rfl, rfl⟩) (tyX4_ok 1 (by decide)) (fun ad => ⟨rfl, rfl⟩) (Nat.le_of_ble_eq_true rfl) dX4_init_17 (fun σ4 n4 s4 => ?_)
  have hσ : σ4 b = .inr (4, [.inr (b + 1), .inr (b + 2), .inl 0]) := n4
  have a1 : σ4 (b + 1) = .inl (false, 20, fun _ => 0) := (s4 (b + 1) (by omega)).trans a1
  have a2 : σ4 (b + 2) = .inl (false, 80, fun _ => 0) := (s4 (b + 2) (by omega)).trans a2
  have hF : gt_F b (b + 3) σ σ4 := fun k hk => (s4 k (by omega)).trans (hF k hk)
  refine ga_aload_n C dX4_init_20 rfl rfl hb0 ?_
  refine ga_iconst C dX4_init_21 ⟨by decide, by decide⟩ ?_
  refine ga_putC (j := 2) C (by decide +kernel) tyX4 tyX4_ok nmX4 hσ rfl (by decide) (by decide +kernel) (Or.inl rfl) (tyX4_ok 2 (by decide)) (fun ad => ⟨rfl, rfl⟩) (Nat.le_of_ble_eq_true rfl) dX4_init_22 (fun σ5 n5 s5 => ?_)
  have hσ : σ5 b = .inr (4, [.inr (b + 1), .inr (b + 2), .inl 0]) := n5
  have a1 : σ5 (b + 1) = .inl (false, 20, fun _ => 0) := (s5 (b + 1) (by omega)).trans a1
  have a2 : σ5 (b + 2) = .inl (false, 80, fun _ => 0) := (s5 (b + 2) (by omega)).trans a2
  have hF : gt_F b (b + 3) σ σ5 := fun k hk => (s5 k (by omega)).trans (hF k hk)
  have hO : gt_O SX4 4 b gm_0 σ5 := by
    refine ⟨hσ, fun j o n => ?_⟩
    rcases j with _ | _ | _ | j
    · exact ⟨fun h => (by cases (show some (1, 1, 20) = some (1, o, n) from h); exact a1), fun h => (by cases (show some (1, 1, 20) = some (2, o, n) from h))⟩
    · exact ⟨fun h => (by cases (show some (1, 2, 80) = some (1, o, n) from h); exact a2), fun h => (by cases (show some (1, 2, 80) = some (2, o, n) from h))⟩
    · exact ⟨fun h => (by cases (show some (0, 0, 0) = some (1, o, n) from h)), fun h => (by cases (show some (0, 0, 0) = some (2, o, n) from h))⟩
    · exact ⟨fun h => (by cases (show (none : Option (Nat × Nat × Nat)) = some (1, o, n) from h)), fun h => (by cases (show (none : Option (Nat × Nat × Nat)) = some (2, o, n) from h))⟩
  exact hret _ _ _ dX4_init_25 ⟨⟨hO, hF⟩, rfl⟩
set_option maxHeartbeats 4000000 in
set_option maxRecDepth 20000 in
theorem eX1_init (l : Launch) (D : va_G) (cI cZ : ClassId) {b : Nat} (hb0 : b ≠ 0) {σ : ga_S} (hσ : σ b = .inr (1, [.inr 0, .inr 0, .inr 0, .inr 0, .inr 0, .inl 0])) : ga_Ev l (D, vwCl, cI, cZ) yX1_init wsX1_init (gm_rm 1 20 5 400) [] 5 400 b [.inr b] σ (fun σ' rv => (gt_O SX1 1 (b) gm_0 σ' ∧ gt_F b (b + 6) σ σ') ∧ rv = none) := by
  refine ga_ofV (by decide +kernel) rfl gt_hcl (Nat.le_of_ble_eq_true rfl) (fun X hX C hret => ?_)
  have hF : gt_F b (b + 6) σ σ := gt_F.rf
  refine ga_aload_n C dX1_init_0 rfl rfl hb0 ?_
  refine ga_objI C (by decide +kernel) (by decide +kernel) (by decide +kernel) hb0 (by decide) ⟨by decide, by decide⟩ dX1_init_1 ?_
  refine ga_aload_n C dX1_init_4 rfl rfl hb0 ?_
  refine ga_bipush C dX1_init_5 ⟨by decide, by decide⟩ (by decide) ?_
  refine ga_newi (n := 80) C (by decide +kernel) (by decide) ⟨Nat.le_of_ble_eq_true rfl, Nat.le_of_ble_eq_true rfl⟩ dX1_init_7 (fun σ1 n1 s1 => ?_)
  have hσ : σ1 b = .inr (1, [.inr 0, .inr 0, .inr 0, .inr 0, .inr 0, .inl 0]) := (s1 b (by omega)).trans hσ
  have a1 : σ1 (b + 1) = .inl (false, 80, fun _ => 0) := n1
  have hF : gt_F b (b + 6) σ σ1 := fun k hk => (s1 k (by omega)).trans (hF k hk)
  refine ga_putC (j := 0) C (by decide +kernel) tyX1 tyX1_ok nmX1 hσ rfl (by decide) (by decide +kernel) (Or.inr ⟨rfl, rfl, rfl⟩) (tyX1_ok 0 (by decide)) (fun ad => ⟨rfl, rfl⟩) (Nat.le_of_ble_eq_true rfl) dX1_init_9 (fun σ2 n2 s2 => ?_)
  have hσ : σ2 b = .inr (1, [.inr (b + 1), .inr 0, .inr 0, .inr 0, .inr 0, .inl 0]) := n2
  have a1 : σ2 (b + 1) = .inl (false, 80, fun _ => 0) := (s2 (b + 1) (by omega)).trans a1
  have hF : gt_F b (b + 6) σ σ2 := fun k hk => (s2 k (by omega)).trans (hF k hk)
  refine ga_aload_n C dX1_init_12 rfl rfl hb0 ?_
  refine ga_bipush C dX1_init_13 ⟨by decide, by decide⟩ (by decide) ?_
  refine ga_newi (n := 80) C (by decide +kernel) (by decide) ⟨Nat.le_of_ble_eq_true rfl, Nat.le_of_ble_eq_true rfl⟩ dX1_init_15 (fun σ3 n3 s3 => ?_)
  have hσ : σ3 b = .inr (1, [.inr (b + 1), .inr 0, .inr 0, .inr 0, .inr 0, .inl 0]) := (s3 b (by omega)).trans hσ
  have a1 : σ3 (b + 1) = .inl (false, 80, fun _ => 0) := (s3 (b + 1) (by omega)).trans a1
  have a2 : σ3 (b + 2) = .inl (false, 80, fun _ => 0) := n3
  have hF : gt_F b (b + 6) σ σ3 := fun k hk => (s3 k (by omega)).trans (hF k hk)
  refine ga_putC (j := 1) C (by decide +kernel) tyX1 tyX1_ok nmX1 hσ rfl (by decide) (by decide +kernel) (Or.inr ⟨rfl, rfl, rfl⟩) (tyX1_ok 1 (by decide)) (fun ad => ⟨rfl, rfl⟩) (Nat.le_of_ble_eq_true rfl) dX1_init_17 (fun σ4 n4 s4 => ?_)
  have hσ : σ4 b = .inr (1, [.inr (b + 1), .inr (b + 2), .inr 0, .inr 0, .inr 0, .inl 0]) := n4
  have a1 : σ4 (b + 1) = .inl (false, 80, fun _ => 0) := (s4 (b + 1) (by omega)).trans a1
  have a2 : σ4 (b + 2) = .inl (false, 80, fun _ => 0) := (s4 (b + 2) (by omega)).trans a2
  have hF : gt_F b (b + 6) σ σ4 := fun k hk => (s4 k (by omega)).trans (hF k hk)
  refine ga_aload_n C dX1_init_20 rfl rfl hb0 ?_
  refine ga_bipush C dX1_init_21 ⟨by decide, by decide⟩ (by decide) ?_
  refine ga_newi (n := 80) C (by decide +kernel) (by decide) ⟨Nat.le_of_ble_eq_true rfl, Nat.le_of_ble_eq_true rfl⟩ dX1_init_23 (fun σ5 n5 s5 => ?_)
  have hσ : σ5 b = .inr (1, [.inr (b + 1), .inr (b + 2), .inr 0, .inr 0, .inr 0, .inl 0]) := (s5 b (by omega)).trans hσ
  have a1 : σ5 (b + 1) = .inl (false, 80, fun _ => 0) := (s5 (b + 1) (by omega)).trans a1
  have a2 : σ5 (b + 2) = .inl (false, 80, fun _ => 0) := (s5 (b + 2) (by omega)).trans a2
  have a3 : σ5 (b + 3) = .inl (false, 80, fun _ => 0) := n5
  have hF : gt_F b (b + 6) σ σ5 := fun k hk => (s5 k (by omega)).trans (hF k hk)
  refine ga_putC (j := 2) C (by decide +kernel) tyX1 tyX1_ok nmX1 hσ rfl (by decide) (by decide +kernel) (Or.inr ⟨rfl, rfl, rfl⟩) (tyX1_ok 2 (by decide)) (fun ad => ⟨rfl, rfl⟩) (Nat.le_of_ble_eq_true rfl) dX1_init_25 (fun σ6 n6 s6 => ?_)
  have hσ : σ6 b = .inr (1, [.inr (b + 1), .inr (b + 2), .inr (b + 3), .inr 0, .inr 0, .inl 0]) := n6
  have a1 : σ6 (b + 1) = .inl (false, 80, fun _ => 0) := (s6 (b + 1) (by omega)).trans a1
  have a2 : σ6 (b + 2) = .inl (false, 80, fun _ => 0) := (s6 (b + 2) (by omega)).trans a2
  have a3 : σ6 (b + 3) = .inl (false, 80, fun _ => 0) := (s6 (b + 3) (by omega)).trans a3
  have hF : gt_F b (b + 6) σ σ6 := fun k hk => (s6 k (by omega)).trans (hF k hk)
  refine ga_aload_n C dX1_init_28 rfl rfl hb0 ?_
  refine ga_bipush C dX1_init_29 ⟨by decide, by decide⟩ (by decide) ?_
  refine ga_newi (n := 80) C (by decide +kernel) (by decide) ⟨Nat.le_of_ble_eq_true rfl, Nat.le_of_ble_eq_true rfl⟩ dX1_init_31 (fun σ7 n7 s7 => ?_)
  have hσ : σ7 b = .inr (1, [.inr (b + 1), .inr (b + 2), .inr (b + 3), .inr 0, .inr 0, .inl 0]) := (s7 b (by omega)).trans hσ
  have a1 : σ7 (b + 1) = .inl (false, 80, fun _ => 0) := (s7 (b + 1) (by omega)).trans a1
  have a2 : σ7 (b + 2) = .inl (false, 80, fun _ => 0) := (s7 (b + 2) (by omega)).trans a2
  have a3 : σ7 (b + 3) = .inl (false, 80, fun _ => 0) := (s7 (b + 3) (by omega)).trans a3
  have a4 : σ7 (b + 4) = .inl (false, 80, fun _ => 0) := n7
  have hF : gt_F b (b + 6) σ σ7 := fun k hk => (s7 k (by omega)).trans (hF k hk)
  refine ga_putC (j := 3) C (by decide +kernel) tyX1 tyX1_ok nmX1 hσ rfl (by decide) (by decide +kernel) (Or.inr ⟨rfl, rfl, rfl⟩) (tyX1_ok 3 (by decide)) (fun ad => ⟨rfl, rfl⟩) (Nat.le_of_ble_eq_true rfl) dX1_init_33 (fun σ8 n8 s8 => ?_)
  have hσ : σ8 b = .inr (1, [.inr (b + 1), .inr (b + 2), .inr (b + 3), .inr (b + 4), .inr 0, .inl 0]) := n8
  have a1 : σ8 (b + 1) = .inl (false, 80, fun _ => 0) := (s8 (b + 1) (by omega)).trans a1
  have a2 : σ8 (b + 2) = .inl (false, 80, fun _ => 0) := (s8 (b + 2) (by omega)).trans a2
  have a3 : σ8 (b + 3) = .inl (false, 80, fun _ => 0) := (s8 (b + 3) (by omega)).trans a3
  have a4 : σ8 (b + 4) = .inl (false, 80, fun _ => 0) := (s8 (b + 4) (by omega)).trans a4
  have hF : gt_F b (b + 6) σ σ8 := fun k hk => (s8 k (by omega)).trans (hF k hk)
  refine ga_aload_n C dX1_init_36 rfl rfl hb0 ?_
  refine ga_bipush C dX1_init_37 ⟨by decide, by decide⟩ (by decide) ?_
  refine ga_newi (n := 80) C (by decide +kernel) (by decide) ⟨Nat.le_of_ble_eq_true rfl, Nat.le_of_ble_eq_true rfl⟩ dX1_init_39 (fun σ9 n9 s9 => ?_)
  have hσ : σ9 b = .inr (1, [.inr (b + 1), .inr (b + 2), .inr (b + 3), .inr (b + 4), .inr 0, .inl 0]) := (s9 b (by omega)).trans hσ
  have a1 : σ9 (b + 1) = .inl (false, 80, fun _ => 0) := (s9 (b + 1) (by omega)).trans a1
  have a2 : σ9 (b + 2) = .inl (false, 80, fun _ => 0) := (s9 (b + 2) (by omega)).trans a2
  have a3 : σ9 (b + 3) = .inl (false, 80, fun _ => 0) := (s9 (b + 3) (by omega)).trans a3
  have a4 : σ9 (b + 4) = .inl (false, 80, fun _ => 0) := (s9 (b + 4) (by omega)).trans a4
  have a5 : σ9 (b + 5) = .inl (false, 80, fun _ => 0) := n9
  have hF : gt_F b (b + 6) σ σ9 := fun k hk => (s9 k (by omega)).trans (hF k hk)
  refine ga_putC (j := 4) C (by decide +kernel) tyX1 tyX1_ok nmX1 hσ rfl (by decide) (by decide +kernel) (Or.inr ⟨rfl, rfl, rfl⟩) (tyX1_ok 4 (by decide)) (fun ad => ⟨rfl, rfl⟩) (Nat.le_of_ble_eq_true rfl) dX1_init_41 (fun σ10 n10 s10 => ?_)
  have hσ : σ10 b = .inr (1, [.inr (b + 1), .inr (b + 2), .inr (b + 3), .inr (b + 4), .inr (b + 5), .inl 0]) := n10
  have a1 : σ10 (b + 1) = .inl (false, 80, fun _ => 0) := (s10 (b + 1) (by omega)).trans a1
  have a2 : σ10 (b + 2) = .inl (false, 80, fun _ => 0) := (s10 (b + 2) (by omega)).trans a2
  have a3 : σ10 (b + 3) = .inl (false, 80, fun _ => 0) := (s10 (b + 3) (by omega)).trans a3
  have a4 : σ10 (b + 4) = .inl (false, 80, fun _ => 0) := (s10 (b + 4) (by omega)).trans a4
  have a5 : σ10 (b + 5) = .inl (false, 80, fun _ => 0) := (s10 (b + 5) (by omega)).trans a5
  have hF : gt_F b (b + 6) σ σ10 := fun k hk => (s10 k (by omega)).trans (hF k hk)
  refine ga_aload_n C dX1_init_44 rfl rfl hb0 ?_
  refine ga_iconst C dX1_init_45 ⟨by decide, by decide⟩ ?_
  refine ga_putC (j := 5) C (by decide +kernel) tyX1 tyX1_ok nmX1 hσ rfl (by decide) (by decide +kernel) (Or.inl rfl) (tyX1_ok 5 (by decide)) (fun ad => ⟨rfl, rfl⟩) (Nat.le_of_ble_eq_true rfl) dX1_init_46 (fun σ11 n11 s11 => ?_)
  have hσ : σ11 b = .inr (1, [.inr (b + 1), .inr (b + 2), .inr (b + 3), .inr (b + 4), .inr (b + 5), .inl 0]) := n11
  have a1 : σ11 (b + 1) = .inl (false, 80, fun _ => 0) := (s11 (b + 1) (by omega)).trans a1
  have a2 : σ11 (b + 2) = .inl (false, 80, fun _ => 0) := (s11 (b + 2) (by omega)).trans a2
  have a3 : σ11 (b + 3) = .inl (false, 80, fun _ => 0) := (s11 (b + 3) (by omega)).trans a3
  have a4 : σ11 (b + 4) = .inl (false, 80, fun _ => 0) := (s11 (b + 4) (by omega)).trans a4
  have a5 : σ11 (b + 5) = .inl (false, 80, fun _ => 0) := (s11 (b + 5) (by omega)).trans a5
  have hF : gt_F b (b + 6) σ σ11 := fun k hk => (s11 k (by omega)).trans (hF k hk)
  have hO : gt_O SX1 1 b gm_0 σ11 := by
    refine ⟨hσ, fun j o n => ?_⟩
    rcases j with _ | _ | _ | _ | _ | _ | j
    · exact ⟨fun h => (by cases (show some (1, 1, 80) = some (1, o, n) from h); exact a1), fun h => (by cases (show some (1, 1, 80) = some (2, o, n) from h))⟩
    · exact ⟨fun h => (by cases (show some (1, 2, 80) = some (1, o, n) from h); exact a2), fun h => (by cases (show some (1, 2, 80) = some (2, o, n) from h))⟩
    · exact ⟨fun h => (by cases (show some (1, 3, 80) = some (1, o, n) from h); exact a3), fun h => (by cases (show some (1, 3, 80) = some (2, o, n) from h))⟩
    · exact ⟨fun h => (by cases (show some (1, 4, 80) = some (1, o, n) from h); exact a4), fun h => (by cases (show some (1, 4, 80) = some (2, o, n) from h))⟩
    · exact ⟨fun h => (by cases (show some (1, 5, 80) = some (1, o, n) from h); exact a5), fun h => (by cases (show some (1, 5, 80) = some (2, o, n) from h))⟩
    · exact ⟨fun h => (by cases (show some (0, 0, 0) = some (1, o, n) from h)), fun h => (by cases (show some (0, 0, 0) = some (2, o, n) from h))⟩
    · exact ⟨fun h => (by cases (show (none : Option (Nat × Nat × Nat)) = some (1, o, n) from h)), fun h => (by cases (show (none : Option (Nat × Nat × Nat)) = some (2, o, n) from h))⟩
  exact hret _ _ _ dX1_init_49 ⟨⟨hO, hF⟩, rfl⟩
set_option maxHeartbeats 4000000 in
set_option maxRecDepth 20000 in
theorem eX2_init (l : Launch) (D : va_G) (cI cZ : ClassId) {b : Nat} (hb0 : b ≠ 0) {σ : ga_S} (hσ : σ b = .inr (2, [.inr 0, .inr 0, .inl 0, .inl 0])) : ga_Ev l (D, vwCl, cI, cZ) yX2_init wsX2_init (gm_rm 1 20 2 80) [] 2 80 b [.inr b] σ (fun σ' rv => (gt_O SX2 2 (b) gm_0 σ' ∧ gt_F b (b + 3) σ σ') ∧ rv = none) := by
  refine ga_ofV (by decide +kernel) rfl gt_hcl (Nat.le_of_ble_eq_true rfl) (fun X hX C hret => ?_)
  have hF : gt_F b (b + 3) σ σ := gt_F.rf
  refine ga_aload_n C dX2_init_0 rfl rfl hb0 ?_
  refine ga_objI C (by decide +kernel) (by decide +kernel) (by decide +kernel) hb0 (by decide) ⟨by decide, by decide⟩ dX2_init_1 ?_
  refine ga_aload_n C dX2_init_4 rfl rfl hb0 ?_
  refine ga_bipush C dX2_init_5 ⟨by decide, by decide⟩ (by decide) ?_
  refine ga_newi (n := 40) C (by decide +kernel) (by decide) ⟨Nat.le_of_ble_eq_true rfl, Nat.le_of_ble_eq_true rfl⟩ dX2_init_7 (fun σ1 n1 s1 => ?_)
  have hσ : σ1 b = .inr (2, [.inr 0, .inr 0, .inl 0, .inl 0]) := (s1 b (by omega)).trans hσ
  have a1 : σ1 (b + 1) = .inl (false, 40, fun _ => 0) := n1
  have hF : gt_F b (b + 3) σ σ1 := fun k hk => (s1 k (by omega)).trans (hF k hk)
  refine ga_putC (j := 0) C (by decide +kernel) tyX2 tyX2_ok nmX2 hσ rfl (by decide) (by decide +kernel) (Or.inr ⟨rfl, rfl, rfl⟩) (tyX2_ok 0 (by decide)) (fun ad => ⟨rfl, rfl⟩) (Nat.le_of_ble_eq_true rfl) dX2_init_9 (fun σ2 n2 s2 => ?_)
  have hσ : σ2 b = .inr (2, [.inr (b + 1), .inr 0, .inl 0, .inl 0]) := n2
  have a1 : σ2 (b + 1) = .inl (false, 40, fun _ => 0) := (s2 (b + 1) (by omega)).trans a1
  have hF : gt_F b (b + 3) σ σ2 := fun k hk => (s2 k (by omega)).trans (hF k hk)
  refine ga_aload_n C dX2_init_12 rfl rfl hb0 ?_
  refine ga_bipush C dX2_init_13 ⟨by decide, by decide⟩ (by decide) ?_
  refine ga_newi (n := 40) C (by decide +kernel) (by decide) ⟨Nat.le_of_ble_eq_true rfl, Nat.le_of_ble_eq_true rfl⟩ dX2_init_15 (fun σ3 n3 s3 => ?_)
  have hσ : σ3 b = .inr (2, [.inr (b + 1), .inr 0, .inl 0, .inl 0]) := (s3 b (by omega)).trans hσ
  have a1 : σ3 (b + 1) = .inl (false, 40, fun _ => 0) := (s3 (b + 1) (by omega)).trans a1
  have a2 : σ3 (b + 2) = .inl (false, 40, fun _ => 0) := n3
  have hF : gt_F b (b + 3) σ σ3 := fun k hk => (s3 k (by omega)).trans (hF k hk)
  refine ga_putC (j := 1) C (by decide +kernel) tyX2 tyX2_ok nmX2 hσ rfl (by decide) (by decide +kernel) (Or.inr ⟨rfl, rfl, rfl⟩) (tyX2_ok 1 (by decide)) (fun ad => ⟨rfl, rfl⟩) (Nat.le_of_ble_eq_true rfl) dX2_init_17 (fun σ4 n4 s4 => ?_)
  have hσ : σ4 b = .inr (2, [.inr (b + 1), .inr (b + 2), .inl 0, .inl 0]) := n4
  have a1 : σ4 (b + 1) = .inl (false, 40, fun _ => 0) := (s4 (b + 1) (by omega)).trans a1
  have a2 : σ4 (b + 2) = .inl (false, 40, fun _ => 0) := (s4 (b + 2) (by omega)).trans a2
  have hF : gt_F b (b + 3) σ σ4 := fun k hk => (s4 k (by omega)).trans (hF k hk)
  refine ga_aload_n C dX2_init_20 rfl rfl hb0 ?_
  refine ga_iconst C dX2_init_21 ⟨by decide, by decide⟩ ?_
  refine ga_putC (j := 2) C (by decide +kernel) tyX2 tyX2_ok nmX2 hσ rfl (by decide) (by decide +kernel) (Or.inl rfl) (tyX2_ok 2 (by decide)) (fun ad => ⟨rfl, rfl⟩) (Nat.le_of_ble_eq_true rfl) dX2_init_22 (fun σ5 n5 s5 => ?_)
  have hσ : σ5 b = .inr (2, [.inr (b + 1), .inr (b + 2), .inl 0, .inl 0]) := n5
  have a1 : σ5 (b + 1) = .inl (false, 40, fun _ => 0) := (s5 (b + 1) (by omega)).trans a1
  have a2 : σ5 (b + 2) = .inl (false, 40, fun _ => 0) := (s5 (b + 2) (by omega)).trans a2
  have hF : gt_F b (b + 3) σ σ5 := fun k hk => (s5 k (by omega)).trans (hF k hk)
  refine ga_aload_n C dX2_init_25 rfl rfl hb0 ?_
  refine ga_iconst C dX2_init_26 ⟨by decide, by decide⟩ ?_
  refine ga_putC (j := 3) C (by decide +kernel) tyX2 tyX2_ok nmX2 hσ rfl (by decide) (by decide +kernel) (Or.inl rfl) (tyX2_ok 3 (by decide)) (fun ad => ⟨rfl, rfl⟩) (Nat.le_of_ble_eq_true rfl) dX2_init_27 (fun σ6 n6 s6 => ?_)
  have hσ : σ6 b = .inr (2, [.inr (b + 1), .inr (b + 2), .inl 0, .inl 0]) := n6
  have a1 : σ6 (b + 1) = .inl (false, 40, fun _ => 0) := (s6 (b + 1) (by omega)).trans a1
  have a2 : σ6 (b + 2) = .inl (false, 40, fun _ => 0) := (s6 (b + 2) (by omega)).trans a2
  have hF : gt_F b (b + 3) σ σ6 := fun k hk => (s6 k (by omega)).trans (hF k hk)
  have hO : gt_O SX2 2 b gm_0 σ6 := by
    refine ⟨hσ, fun j o n => ?_⟩
    rcases j with _ | _ | _ | _ | j
    · exact ⟨fun h => (by cases (show some (1, 1, 40) = some (1, o, n) from h); exact a1), fun h => (by cases (show some (1, 1, 40) = some (2, o, n) from h))⟩
    · exact ⟨fun h => (by cases (show some (1, 2, 40) = some (1, o, n) from h); exact a2), fun h => (by cases (show some (1, 2, 40) = some (2, o, n) from h))⟩
    · exact ⟨fun h => (by cases (show some (0, 0, 0) = some (1, o, n) from h)), fun h => (by cases (show some (0, 0, 0) = some (2, o, n) from h))⟩
    · exact ⟨fun h => (by cases (show some (0, 0, 0) = some (1, o, n) from h)), fun h => (by cases (show some (0, 0, 0) = some (2, o, n) from h))⟩
    · exact ⟨fun h => (by cases (show (none : Option (Nat × Nat × Nat)) = some (1, o, n) from h)), fun h => (by cases (show (none : Option (Nat × Nat × Nat)) = some (2, o, n) from h))⟩
  exact hret _ _ _ dX2_init_30 ⟨⟨hO, hF⟩, rfl⟩
set_option maxHeartbeats 4000000 in
set_option maxRecDepth 20000 in
theorem eX3_init (l : Launch) (D : va_G) (cI cZ : ClassId) {b : Nat} (hb0 : b ≠ 0) {σ : ga_S} (hσ : σ b = .inr (3, [.inr 0, .inr 0, .inr 0, .inr 0, .inl 0, .inl 0])) : ga_Ev l (D, vwCl, cI, cZ) yX3_init wsX3_init (gm_rm 1 20 4 320) [] 4 320 b [.inr b] σ (fun σ' rv => (gt_O SX3 3 (b) gm_0 σ' ∧ gt_F b (b + 5) σ σ') ∧ rv = none) := by
  refine ga_ofV (by decide +kernel) rfl gt_hcl (Nat.le_of_ble_eq_true rfl) (fun X hX C hret => ?_)
  have hF : gt_F b (b + 5) σ σ := gt_F.rf
  refine ga_aload_n C dX3_init_0 rfl rfl hb0 ?_
  refine ga_objI C (by decide +kernel) (by decide +kernel) (by decide +kernel) hb0 (by decide) ⟨by decide, by decide⟩ dX3_init_1 ?_
  refine ga_aload_n C dX3_init_4 rfl rfl hb0 ?_
  refine ga_bipush C dX3_init_5 ⟨by decide, by decide⟩ (by decide) ?_
  refine ga_newi (n := 80) C (by decide +kernel) (by decide) ⟨Nat.le_of_ble_eq_true rfl, Nat.le_of_ble_eq_true rfl⟩ dX3_init_7 (fun σ1 n1 s1 => ?_)
  have hσ : σ1 b = .inr (3, [.inr 0, .inr 0, .inr 0, .inr 0, .inl 0, .inl 0]) := (s1 b (by omega)).trans hσ
  have a1 : σ1 (b + 1) = .inl (false, 80, fun _ => 0) := n1
  have hF : gt_F b (b + 5) σ σ1 := fun k hk => (s1 k (by omega)).trans (hF k hk)
  refine ga_putC (j := 0) C (by decide +kernel) tyX3 tyX3_ok nmX3 hσ rfl (by decide) (by decide +kernel) (Or.inr ⟨rfl, rfl, rfl⟩) (tyX3_ok 0 (by decide)) (fun ad => ⟨rfl, rfl⟩) (Nat.le_of_ble_eq_true rfl) dX3_init_9 (fun σ2 n2 s2 => ?_)
  have hσ : σ2 b = .inr (3, [.inr (b + 1), .inr 0, .inr 0, .inr 0, .inl 0, .inl 0]) := n2
  have a1 : σ2 (b + 1) = .inl (false, 80, fun _ => 0) := (s2 (b + 1) (by omega)).trans a1
  have hF : gt_F b (b + 5) σ σ2 := fun k hk => (s2 k (by omega)).trans (hF k hk)
  refine ga_aload_n C dX3_init_12 rfl rfl hb0 ?_
  refine ga_bipush C dX3_init_13 ⟨by decide, by decide⟩ (by decide) ?_
  refine ga_newi (n := 80) C (by decide +kernel) (by decide) ⟨Nat.le_of_ble_eq_true rfl, Nat.le_of_ble_eq_true rfl⟩ dX3_init_15 (fun σ3 n3 s3 => ?_)
  have hσ : σ3 b = .inr (3, [.inr (b + 1), .inr 0, .inr 0, .inr 0, .inl 0, .inl 0]) := (s3 b (by omega)).trans hσ
  have a1 : σ3 (b + 1) = .inl (false, 80, fun _ => 0) := (s3 (b + 1) (by omega)).trans a1
  have a2 : σ3 (b + 2) = .inl (false, 80, fun _ => 0) := n3
  have hF : gt_F b (b + 5) σ σ3 := fun k hk => (s3 k (by omega)).trans (hF k hk)
  refine ga_putC (j := 1) C (by decide +kernel) tyX3 tyX3_ok nmX3 hσ rfl (by decide) (by decide +kernel) (Or.inr ⟨rfl, rfl, rfl⟩) (tyX3_ok 1 (by decide)) (fun ad => ⟨rfl, rfl⟩) (Nat.le_of_ble_eq_true rfl) dX3_init_17 (fun σ4 n4 s4 => ?_)
  have hσ : σ4 b = .inr (3, [.inr (b + 1), .inr (b + 2), .inr 0, .inr 0, .inl 0, .inl 0]) := n4
  have a1 : σ4 (b + 1) = .inl (false, 80, fun _ => 0) := (s4 (b + 1) (by omega)).trans a1
  have a2 : σ4 (b + 2) = .inl (false, 80, fun _ => 0) := (s4 (b + 2) (by omega)).trans a2
  have hF : gt_F b (b + 5) σ σ4 := fun k hk => (s4 k (by omega)).trans (hF k hk)
  refine ga_aload_n C dX3_init_20 rfl rfl hb0 ?_
  refine ga_bipush C dX3_init_21 ⟨by decide, by decide⟩ (by decide) ?_
  refine ga_newi (n := 80) C (by decide +kernel) (by decide) ⟨Nat.le_of_ble_eq_true rfl, Nat.le_of_ble_eq_true rfl⟩ dX3_init_23 (fun σ5 n5 s5 => ?_)
  have hσ : σ5 b = .inr (3, [.inr (b + 1), .inr (b + 2), .inr 0, .inr 0, .inl 0, .inl 0]) := (s5 b (by omega)).trans hσ
  have a1 : σ5 (b + 1) = .inl (false, 80, fun _ => 0) := (s5 (b + 1) (by omega)).trans a1
  have a2 : σ5 (b + 2) = .inl (false, 80, fun _ => 0) := (s5 (b + 2) (by omega)).trans a2
  have a3 : σ5 (b + 3) = .inl (false, 80, fun _ => 0) := n5
  have hF : gt_F b (b + 5) σ σ5 := fun k hk => (s5 k (by omega)).trans (hF k hk)
  refine ga_putC (j := 2) C (by decide +kernel) tyX3 tyX3_ok nmX3 hσ rfl (by decide) (by decide +kernel) (Or.inr ⟨rfl, rfl, rfl⟩) (tyX3_ok 2 (by decide)) (fun ad => ⟨rfl, rfl⟩) (Nat.le_of_ble_eq_true rfl) dX3_init_25 (fun σ6 n6 s6 => ?_)
  have hσ : σ6 b = .inr (3, [.inr (b + 1), .inr (b + 2), .inr (b + 3), .inr 0, .inl 0, .inl 0]) := n6
  have a1 : σ6 (b + 1) = .inl (false, 80, fun _ => 0) := (s6 (b + 1) (by omega)).trans a1
  have a2 : σ6 (b + 2) = .inl (false, 80, fun _ => 0) := (s6 (b + 2) (by omega)).trans a2
  have a3 : σ6 (b + 3) = .inl (false, 80, fun _ => 0) := (s6 (b + 3) (by omega)).trans a3
  have hF : gt_F b (b + 5) σ σ6 := fun k hk => (s6 k (by omega)).trans (hF k hk)
  refine ga_aload_n C dX3_init_28 rfl rfl hb0 ?_
  refine ga_bipush C dX3_init_29 ⟨by decide, by decide⟩ (by decide) ?_
  refine ga_newi (n := 80) C (by decide +kernel) (by decide) ⟨Nat.le_of_ble_eq_true rfl, Nat.le_of_ble_eq_true rfl⟩ dX3_init_31 (fun σ7 n7 s7 => ?_)
  have hσ : σ7 b = .inr (3, [.inr (b + 1), .inr (b + 2), .inr (b + 3), .inr 0, .inl 0, .inl 0]) := (s7 b (by omega)).trans hσ
  have a1 : σ7 (b + 1) = .inl (false, 80, fun _ => 0) := (s7 (b + 1) (by omega)).trans a1
  have a2 : σ7 (b + 2) = .inl (false, 80, fun _ => 0) := (s7 (b + 2) (by omega)).trans a2
  have a3 : σ7 (b + 3) = .inl (false, 80, fun _ => 0) := (s7 (b + 3) (by omega)).trans a3
  have a4 : σ7 (b + 4) = .inl (false, 80, fun _ => 0) := n7
  have hF : gt_F b (b + 5) σ σ7 := fun k hk => (s7 k (by omega)).trans (hF k hk)
  refine ga_putC (j := 3) C (by decide +kernel) tyX3 tyX3_ok nmX3 hσ rfl (by decide) (by decide +kernel) (Or.inr ⟨rfl, rfl, rfl⟩) (tyX3_ok 3 (by decide)) (fun ad => ⟨rfl, rfl⟩) (Nat.le_of_ble_eq_true rfl) dX3_init_33 (fun σ8 n8 s8 => ?_)
  have hσ : σ8 b = .inr (3, [.inr (b + 1), .inr (b + 2), .inr (b + 3), .inr (b + 4), .inl 0, .inl 0]) := n8
  have a1 : σ8 (b + 1) = .inl (false, 80, fun _ => 0) := (s8 (b + 1) (by omega)).trans a1
  have a2 : σ8 (b + 2) = .inl (false, 80, fun _ => 0) := (s8 (b + 2) (by omega)).trans a2
  have a3 : σ8 (b + 3) = .inl (false, 80, fun _ => 0) := (s8 (b + 3) (by omega)).trans a3
  have a4 : σ8 (b + 4) = .inl (false, 80, fun _ => 0) := (s8 (b + 4) (by omega)).trans a4
  have hF : gt_F b (b + 5) σ σ8 := fun k hk => (s8 k (by omega)).trans (hF k hk)
  refine ga_aload_n C dX3_init_36 rfl rfl hb0 ?_
  refine ga_iconst C dX3_init_37 ⟨by decide, by decide⟩ ?_
  refine ga_putC (j := 4) C (by decide +kernel) tyX3 tyX3_ok nmX3 hσ rfl (by decide) (by decide +kernel) (Or.inl rfl) (tyX3_ok 4 (by decide)) (fun ad => ⟨rfl, rfl⟩) (Nat.le_of_ble_eq_true rfl) dX3_init_38 (fun σ9 n9 s9 => ?_)
  have hσ : σ9 b = .inr (3, [.inr (b + 1), .inr (b + 2), .inr (b + 3), .inr (b + 4), .inl 0, .inl 0]) := n9
  have a1 : σ9 (b + 1) = .inl (false, 80, fun _ => 0) := (s9 (b + 1) (by omega)).trans a1
  have a2 : σ9 (b + 2) = .inl (false, 80, fun _ => 0) := (s9 (b + 2) (by omega)).trans a2
  have a3 : σ9 (b + 3) = .inl (false, 80, fun _ => 0) := (s9 (b + 3) (by omega)).trans a3
  have a4 : σ9 (b + 4) = .inl (false, 80, fun _ => 0) := (s9 (b + 4) (by omega)).trans a4
  have hF : gt_F b (b + 5) σ σ9 := fun k hk => (s9 k (by omega)).trans (hF k hk)
  refine ga_aload_n C dX3_init_41 rfl rfl hb0 ?_
  refine ga_iconst C dX3_init_42 ⟨by decide, by decide⟩ ?_
  refine ga_putC (j := 5) C (by decide +kernel) tyX3 tyX3_ok nmX3 hσ rfl (by decide) (by decide +kernel) (Or.inl rfl) (tyX3_ok 5 (by decide)) (fun ad => ⟨rfl, rfl⟩) (Nat.le_of_ble_eq_true rfl) dX3_init_43 (fun σ10 n10 s10 => ?_)
  have hσ : σ10 b = .inr (3, [.inr (b + 1), .inr (b + 2), .inr (b + 3), .inr (b + 4), .inl 0, .inl 0]) := n10
  have a1 : σ10 (b + 1) = .inl (false, 80, fun _ => 0) := (s10 (b + 1) (by omega)).trans a1
  have a2 : σ10 (b + 2) = .inl (false, 80, fun _ => 0) := (s10 (b + 2) (by omega)).trans a2
  have a3 : σ10 (b + 3) = .inl (false, 80, fun _ => 0) := (s10 (b + 3) (by omega)).trans a3
  have a4 : σ10 (b + 4) = .inl (false, 80, fun _ => 0) := (s10 (b + 4) (by omega)).trans a4
  have hF : gt_F b (b + 5) σ σ10 := fun k hk => (s10 k (by omega)).trans (hF k hk)
  have hO : gt_O SX3 3 b gm_0 σ10 := by
    refine ⟨hσ, fun j o n => ?_⟩
    rcases j with _ | _ | _ | _ | _ | _ | j
    · exact ⟨fun h => (by cases (show some (1, 1, 80) = some (1, o, n) from h); exact a1), fun h => (by cases (show some (1, 1, 80) = some (2, o, n) from h))⟩
    · exact ⟨fun h => (by cases (show some (1, 2, 80) = some (1, o, n) from h); exact a2), fun h => (by cases (show some (1, 2, 80) = some (2, o, n) from h))⟩
    · exact ⟨fun h => (by cases (show some (1, 3, 80) = some (1, o, n) from h); exact a3), fun h => (by cases (show some (1, 3, 80) = some (2, o, n) from h))⟩
    · exact ⟨fun h => (by cases (show some (1, 4, 80) = some (1, o, n) from h); exact a4), fun h => (by cases (show some (1, 4, 80) = some (2, o, n) from h))⟩
    · exact ⟨fun h => (by cases (show some (0, 0, 0) = some (1, o, n) from h)), fun h => (by cases (show some (0, 0, 0) = some (2, o, n) from h))⟩
    · exact ⟨fun h => (by cases (show some (0, 0, 0) = some (1, o, n) from h)), fun h => (by cases (show some (0, 0, 0) = some (2, o, n) from h))⟩
    · exact ⟨fun h => (by cases (show (none : Option (Nat × Nat × Nat)) = some (1, o, n) from h)), fun h => (by cases (show (none : Option (Nat × Nat × Nat)) = some (2, o, n) from h))⟩
  exact hret _ _ _ dX3_init_46 ⟨⟨hO, hF⟩, rfl⟩
