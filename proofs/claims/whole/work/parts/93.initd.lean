theorem gm_fs6 (b : Nat) : gt_fs SX6 b gm_m2 = [.inl 0, .inl 0, .inl (-1), .inr (b + 1), .inr (b + 2), .inl 0, .inl 0, .inl 0, .inl 0, .inr (b + 3), .inr (b + 4), .inr (b + 5), .inr (b + 6), .inl 0, .inr (b + 7), .inr (b + 8), .inr (b + 9), .inr (b + 10), .inr (b + 11), .inl 0, .inl 0, .inr (b + 12), .inr (b + 13)] := by
  unfold gt_fs SX6
  simp [gt_f, gm_m2]
set_option maxHeartbeats 4000000 in
set_option maxRecDepth 20000 in
theorem eX6_init (l : Launch) (D : va_G) (cI cZ : ClassId) {b : Nat} (hb0 : b ≠ 0) {σ : ga_S} (hσ : σ b = .inr (6, [.inl 0, .inl 0, .inl 0, .inr 0, .inr 0, .inl 0, .inl 0, .inl 0, .inl 0, .inr 0, .inr 0, .inr 0, .inr 0, .inl 0, .inr 0, .inr 0, .inr 0, .inr 0, .inr 0, .inl 0, .inl 0, .inr 0, .inr 0])) : ga_Ev l (D, vwCl, cI, cZ) yX6_init wsX6_init (gm_rm 1 20 13 680) [] 13 680 b [.inr b] σ (fun σ' rv => (gt_O SX6 6 (b) gm_m2 σ' ∧ gt_F b (b + 14) σ σ') ∧ rv = none) := by
  refine ga_ofV (by decide +kernel) rfl gt_hcl (Nat.le_of_ble_eq_true rfl) (fun X hX C hret => ?_)
  have hF : gt_F b (b + 14) σ σ := gt_F.rf
  refine ga_aload_n C dX6_init_0 rfl rfl hb0 ?_
  refine ga_objI C (by decide +kernel) (by decide +kernel) (by decide +kernel) hb0 (by decide) ⟨by decide, by decide⟩ dX6_init_1 ?_
  refine ga_aload_n C dX6_init_4 rfl rfl hb0 ?_
  refine ga_iconst C dX6_init_5 ⟨by decide, by decide⟩ ?_
  refine ga_putC (j := 2) C (by decide +kernel) tyX6 tyX6_ok nmX6 hσ rfl (by decide) (by decide +kernel) (Or.inl rfl) (tyX6_ok 2 (by decide)) (fun ad => ⟨rfl, rfl⟩) (Nat.le_of_ble_eq_true rfl) dX6_init_6 (fun σ1 n1 s1 => ?_)
  have hσ : σ1 b = .inr (6, [.inl 0, .inl 0, .inl (-1), .inr 0, .inr 0, .inl 0, .inl 0, .inl 0, .inl 0, .inr 0, .inr 0, .inr 0, .inr 0, .inl 0, .inr 0, .inr 0, .inr 0, .inr 0, .inr 0, .inl 0, .inl 0, .inr 0, .inr 0]) := n1
  have hF : gt_F b (b + 14) σ σ1 := fun k hk => (s1 k (by omega)).trans (hF k hk)
  refine ga_aload_n C dX6_init_9 rfl rfl hb0 ?_
  refine ga_bipush C dX6_init_10 ⟨by decide, by decide⟩ (by decide) ?_
  refine ga_newi (n := 20) C (by decide +kernel) (by decide) ⟨Nat.le_of_ble_eq_true rfl, Nat.le_of_ble_eq_true rfl⟩ dX6_init_12 (fun σ2 n2 s2 => ?_)
  have hσ : σ2 b = .inr (6, [.inl 0, .inl 0, .inl (-1), .inr 0, .inr 0, .inl 0, .inl 0, .inl 0, .inl 0, .inr 0, .inr 0, .inr 0, .inr 0, .inl 0, .inr 0, .inr 0, .inr 0, .inr 0, .inr 0, .inl 0, .inl 0, .inr 0, .inr 0]) := (s2 b (by omega)).trans hσ
  have a1 : σ2 (b + 1) = .inl (false, 20, fun _ => 0) := n2
  have hF : gt_F b (b + 14) σ σ2 := fun k hk => (s2 k (by omega)).trans (hF k hk)
  refine ga_putC (j := 3) C (by decide +kernel) tyX6 tyX6_ok nmX6 hσ rfl (by decide) (by decide +kernel) (Or.inr ⟨rfl, rfl, rfl⟩) (tyX6_ok 3 (by decide)) (fun ad => ⟨rfl, rfl⟩) (Nat.le_of_ble_eq_true rfl) dX6_init_14 (fun σ3 n3 s3 => ?_)
  have hσ : σ3 b = .inr (6, [.inl 0, .inl 0, .inl (-1), .inr (b + 1), .inr 0, .inl 0, .inl 0, .inl 0, .inl 0, .inr 0, .inr 0, .inr 0, .inr 0, .inl 0, .inr 0, .inr 0, .inr 0, .inr 0, .inr 0, .inl 0, .inl 0, .inr 0, .inr 0]) := n3
  have a1 : σ3 (b + 1) = .inl (false, 20, fun _ => 0) := (s3 (b + 1) (by omega)).trans a1
  have hF : gt_F b (b + 14) σ σ3 := fun k hk => (s3 k (by omega)).trans (hF k hk)
  refine ga_aload_n C dX6_init_17 rfl rfl hb0 ?_
  refine ga_bipush C dX6_init_18 ⟨by decide, by decide⟩ (by decide) ?_
  refine ga_newi (n := 80) C (by decide +kernel) (by decide) ⟨Nat.le_of_ble_eq_true rfl, Nat.le_of_ble_eq_true rfl⟩ dX6_init_20 (fun σ4 n4 s4 => ?_)
  have hσ : σ4 b = .inr (6, [.inl 0, .inl 0, .inl (-1), .inr (b + 1), .inr 0, .inl 0, .inl 0, .inl 0, .inl 0, .inr 0, .inr 0, .inr 0, .inr 0, .inl 0, .inr 0, .inr 0, .inr 0, .inr 0, .inr 0, .inl 0, .inl 0, .inr 0, .inr 0]) := (s4 b (by omega)).trans hσ
  have a1 : σ4 (b + 1) = .inl (false, 20, fun _ => 0) := (s4 (b + 1) (by omega)).trans a1
  have a2 : σ4 (b + 2) = .inl (false, 80, fun _ => 0) := n4
  have hF : gt_F b (b + 14) σ σ4 := fun k hk => (s4 k (by omega)).trans (hF k hk)
  refine ga_putC (j := 4) C (by decide +kernel) tyX6 tyX6_ok nmX6 hσ rfl (by decide) (by decide +kernel) (Or.inr ⟨rfl, rfl, rfl⟩) (tyX6_ok 4 (by decide)) (fun ad => ⟨rfl, rfl⟩) (Nat.le_of_ble_eq_true rfl) dX6_init_22 (fun σ5 n5 s5 => ?_)
  have hσ : σ5 b = .inr (6, [.inl 0, .inl 0, .inl (-1), .inr (b + 1), .inr (b + 2), .inl 0, .inl 0, .inl 0, .inl 0, .inr 0, .inr 0, .inr 0, .inr 0, .inl 0, .inr 0, .inr 0, .inr 0, .inr 0, .inr 0, .inl 0, .inl 0, .inr 0, .inr 0]) := n5
  have a1 : σ5 (b + 1) = .inl (false, 20, fun _ => 0) := (s5 (b + 1) (by omega)).trans a1
  have a2 : σ5 (b + 2) = .inl (false, 80, fun _ => 0) := (s5 (b + 2) (by omega)).trans a2
  have hF : gt_F b (b + 14) σ σ5 := fun k hk => (s5 k (by omega)).trans (hF k hk)
  refine ga_aload_n C dX6_init_25 rfl rfl hb0 ?_
  refine ga_bipush C dX6_init_26 ⟨by decide, by decide⟩ (by decide) ?_
  refine ga_newi (n := 20) C (by decide +kernel) (by decide) ⟨Nat.le_of_ble_eq_true rfl, Nat.le_of_ble_eq_true rfl⟩ dX6_init_28 (fun σ6 n6 s6 => ?_)
  have hσ : σ6 b = .inr (6, [.inl 0, .inl 0, .inl (-1), .inr (b + 1), .inr (b + 2), .inl 0, .inl 0, .inl 0, .inl 0, .inr 0, .inr 0, .inr 0, .inr 0, .inl 0, .inr 0, .inr 0, .inr 0, .inr 0, .inr 0, .inl 0, .inl 0, .inr 0, .inr 0]) := (s6 b (by omega)).trans hσ
  have a1 : σ6 (b + 1) = .inl (false, 20, fun _ => 0) := (s6 (b + 1) (by omega)).trans a1
  have a2 : σ6 (b + 2) = .inl (false, 80, fun _ => 0) := (s6 (b + 2) (by omega)).trans a2
  have a3 : σ6 (b + 3) = .inl (false, 20, fun _ => 0) := n6
  have hF : gt_F b (b + 14) σ σ6 := fun k hk => (s6 k (by omega)).trans (hF k hk)
  refine ga_putC (j := 9) C (by decide +kernel) tyX6 tyX6_ok nmX6 hσ rfl (by decide) (by decide +kernel) (Or.inr ⟨rfl, rfl, rfl⟩) (tyX6_ok 9 (by decide)) (fun ad => ⟨rfl, rfl⟩) (Nat.le_of_ble_eq_true rfl) dX6_init_30 (fun σ7 n7 s7 => ?_)
  have hσ : σ7 b = .inr (6, [.inl 0, .inl 0, .inl (-1), .inr (b + 1), .inr (b + 2), .inl 0, .inl 0, .inl 0, .inl 0, .inr (b + 3), .inr 0, .inr 0, .inr 0, .inl 0, .inr 0, .inr 0, .inr 0, .inr 0, .inr 0, .inl 0, .inl 0, .inr 0, .inr 0]) := n7
  have a1 : σ7 (b + 1) = .inl (false, 20, fun _ => 0) := (s7 (b + 1) (by omega)).trans a1
  have a2 : σ7 (b + 2) = .inl (false, 80, fun _ => 0) := (s7 (b + 2) (by omega)).trans a2
  have a3 : σ7 (b + 3) = .inl (false, 20, fun _ => 0) := (s7 (b + 3) (by omega)).trans a3
  have hF : gt_F b (b + 14) σ σ7 := fun k hk => (s7 k (by omega)).trans (hF k hk)
  refine ga_aload_n C dX6_init_33 rfl rfl hb0 ?_
  refine ga_bipush C dX6_init_34 ⟨by decide, by decide⟩ (by decide) ?_
  refine ga_newi (n := 80) C (by decide +kernel) (by decide) ⟨Nat.le_of_ble_eq_true rfl, Nat.le_of_ble_eq_true rfl⟩ dX6_init_36 (fun σ8 n8 s8 => ?_)
  have hσ : σ8 b = .inr (6, [.inl 0, .inl 0, .inl (-1), .inr (b + 1), .inr (b + 2), .inl 0, .inl 0, .inl 0, .inl 0, .inr (b + 3), .inr 0, .inr 0, .inr 0, .inl 0, .inr 0, .inr 0, .inr 0, .inr 0, .inr 0, .inl 0, .inl 0, .inr 0, .inr 0]) := (s8 b (by omega)).trans hσ
  have a1 : σ8 (b + 1) = .inl (false, 20, fun _ => 0) := (s8 (b + 1) (by omega)).trans a1
  have a2 : σ8 (b + 2) = .inl (false, 80, fun _ => 0) := (s8 (b + 2) (by omega)).trans a2
  have a3 : σ8 (b + 3) = .inl (false, 20, fun _ => 0) := (s8 (b + 3) (by omega)).trans a3
  have a4 : σ8 (b + 4) = .inl (false, 80, fun _ => 0) := n8
  have hF : gt_F b (b + 14) σ σ8 := fun k hk => (s8 k (by omega)).trans (hF k hk)
  refine ga_putC (j := 10) C (by decide +kernel) tyX6 tyX6_ok nmX6 hσ rfl (by decide) (by decide +kernel) (Or.inr ⟨rfl, rfl, rfl⟩) (tyX6_ok 10 (by decide)) (fun ad => ⟨rfl, rfl⟩) (Nat.le_of_ble_eq_true rfl) dX6_init_38 (fun σ9 n9 s9 => ?_)
  have hσ : σ9 b = .inr (6, [.inl 0, .inl 0, .inl (-1), .inr (b + 1), .inr (b + 2), .inl 0, .inl 0, .inl 0, .inl 0, .inr (b + 3), .inr (b + 4), .inr 0, .inr 0, .inl 0, .inr 0, .inr 0, .inr 0, .inr 0, .inr 0, .inl 0, .inl 0, .inr 0, .inr 0]) := n9
  have a1 : σ9 (b + 1) = .inl (false, 20, fun _ => 0) := (s9 (b + 1) (by omega)).trans a1
  have a2 : σ9 (b + 2) = .inl (false, 80, fun _ => 0) := (s9 (b + 2) (by omega)).trans a2
  have a3 : σ9 (b + 3) = .inl (false, 20, fun _ => 0) := (s9 (b + 3) (by omega)).trans a3
  have a4 : σ9 (b + 4) = .inl (false, 80, fun _ => 0) := (s9 (b + 4) (by omega)).trans a4
  have hF : gt_F b (b + 14) σ σ9 := fun k hk => (s9 k (by omega)).trans (hF k hk)
  refine ga_aload_n C dX6_init_41 rfl rfl hb0 ?_
  refine ga_bipush C dX6_init_42 ⟨by decide, by decide⟩ (by decide) ?_
  refine ga_newi (n := 20) C (by decide +kernel) (by decide) ⟨Nat.le_of_ble_eq_true rfl, Nat.le_of_ble_eq_true rfl⟩ dX6_init_44 (fun σ10 n10 s10 => ?_)
  have hσ : σ10 b = .inr (6, [.inl 0, .inl 0, .inl (-1), .inr (b + 1), .inr (b + 2), .inl 0, .inl 0, .inl 0, .inl 0, .inr (b + 3), .inr (b + 4), .inr 0, .inr 0, .inl 0, .inr 0, .inr 0, .inr 0, .inr 0, .inr 0, .inl 0, .inl 0, .inr 0, .inr 0]) := (s10 b (by omega)).trans hσ
  have a1 : σ10 (b + 1) = .inl (false, 20, fun _ => 0) := (s10 (b + 1) (by omega)).trans a1
  have a2 : σ10 (b + 2) = .inl (false, 80, fun _ => 0) := (s10 (b + 2) (by omega)).trans a2
  have a3 : σ10 (b + 3) = .inl (false, 20, fun _ => 0) := (s10 (b + 3) (by omega)).trans a3
  have a4 : σ10 (b + 4) = .inl (false, 80, fun _ => 0) := (s10 (b + 4) (by omega)).trans a4
  have a5 : σ10 (b + 5) = .inl (false, 20, fun _ => 0) := n10
  have hF : gt_F b (b + 14) σ σ10 := fun k hk => (s10 k (by omega)).trans (hF k hk)
  refine ga_putC (j := 11) C (by decide +kernel) tyX6 tyX6_ok nmX6 hσ rfl (by decide) (by decide +kernel) (Or.inr ⟨rfl, rfl, rfl⟩) (tyX6_ok 11 (by decide)) (fun ad => ⟨rfl, rfl⟩) (Nat.le_of_ble_eq_true rfl) dX6_init_46 (fun σ11 n11 s11 => ?_)
  have hσ : σ11 b = .inr (6, [.inl 0, .inl 0, .inl (-1), .inr (b + 1), .inr (b + 2), .inl 0, .inl 0, .inl 0, .inl 0, .inr (b + 3), .inr (b + 4), .inr (b + 5), .inr 0, .inl 0, .inr 0, .inr 0, .inr 0, .inr 0, .inr 0, .inl 0, .inl 0, .inr 0, .inr 0]) := n11
  have a1 : σ11 (b + 1) = .inl (false, 20, fun _ => 0) := (s11 (b + 1) (by omega)).trans a1
  have a2 : σ11 (b + 2) = .inl (false, 80, fun _ => 0) := (s11 (b + 2) (by omega)).trans a2
  have a3 : σ11 (b + 3) = .inl (false, 20, fun _ => 0) := (s11 (b + 3) (by omega)).trans a3
  have a4 : σ11 (b + 4) = .inl (false, 80, fun _ => 0) := (s11 (b + 4) (by omega)).trans a4
  have a5 : σ11 (b + 5) = .inl (false, 20, fun _ => 0) := (s11 (b + 5) (by omega)).trans a5
  have hF : gt_F b (b + 14) σ σ11 := fun k hk => (s11 k (by omega)).trans (hF k hk)
  refine ga_aload_n C dX6_init_49 rfl rfl hb0 ?_
  refine ga_bipush C dX6_init_50 ⟨by decide, by decide⟩ (by decide) ?_
  refine ga_newi (n := 80) C (by decide +kernel) (by decide) ⟨Nat.le_of_ble_eq_true rfl, Nat.le_of_ble_eq_true rfl⟩ dX6_init_52 (fun σ12 n12 s12 => ?_)
  have hσ : σ12 b = .inr (6, [.inl 0, .inl 0, .inl (-1), .inr (b + 1), .inr (b + 2), .inl 0, .inl 0, .inl 0, .inl 0, .inr (b + 3), .inr (b + 4), .inr (b + 5), .inr 0, .inl 0, .inr 0, .inr 0, .inr 0, .inr 0, .inr 0, .inl 0, .inl 0, .inr 0, .inr 0]) := (s12 b (by omega)).trans hσ
  have a1 : σ12 (b + 1) = .inl (false, 20, fun _ => 0) := (s12 (b + 1) (by omega)).trans a1
  have a2 : σ12 (b + 2) = .inl (false, 80, fun _ => 0) := (s12 (b + 2) (by omega)).trans a2
  have a3 : σ12 (b + 3) = .inl (false, 20, fun _ => 0) := (s12 (b + 3) (by omega)).trans a3
  have a4 : σ12 (b + 4) = .inl (false, 80, fun _ => 0) := (s12 (b + 4) (by omega)).trans a4
  have a5 : σ12 (b + 5) = .inl (false, 20, fun _ => 0) := (s12 (b + 5) (by omega)).trans a5
  have a6 : σ12 (b + 6) = .inl (false, 80, fun _ => 0) := n12
  have hF : gt_F b (b + 14) σ σ12 := fun k hk => (s12 k (by omega)).trans (hF k hk)
  refine ga_putC (j := 12) C (by decide +kernel) tyX6 tyX6_ok nmX6 hσ rfl (by decide) (by decide +kernel) (Or.inr ⟨rfl, rfl, rfl⟩) (tyX6_ok 12 (by decide)) (fun ad => ⟨rfl, rfl⟩) (Nat.le_of_ble_eq_true rfl) dX6_init_54 (fun σ13 n13 s13 => ?_)
  have hσ : σ13 b = .inr (6, [.inl 0, .inl 0, .inl (-1), .inr (b + 1), .inr (b + 2), .inl 0, .inl 0, .inl 0, .inl 0, .inr (b + 3), .inr (b + 4), .inr (b + 5), .inr (b + 6), .inl 0, .inr 0, .inr 0, .inr 0, .inr 0, .inr 0, .inl 0, .inl 0, .inr 0, .inr 0]) := n13
  have a1 : σ13 (b + 1) = .inl (false, 20, fun _ => 0) := (s13 (b + 1) (by omega)).trans a1
  have a2 : σ13 (b + 2) = .inl (false, 80, fun _ => 0) := (s13 (b + 2) (by omega)).trans a2
  have a3 : σ13 (b + 3) = .inl (false, 20, fun _ => 0) := (s13 (b + 3) (by omega)).trans a3
  have a4 : σ13 (b + 4) = .inl (false, 80, fun _ => 0) := (s13 (b + 4) (by omega)).trans a4
  have a5 : σ13 (b + 5) = .inl (false, 20, fun _ => 0) := (s13 (b + 5) (by omega)).trans a5
  have a6 : σ13 (b + 6) = .inl (false, 80, fun _ => 0) := (s13 (b + 6) (by omega)).trans a6
  have hF : gt_F b (b + 14) σ σ13 := fun k hk => (s13 k (by omega)).trans (hF k hk)
  refine ga_aload_n C dX6_init_57 rfl rfl hb0 ?_
  refine ga_bipush C dX6_init_58 ⟨by decide, by decide⟩ (by decide) ?_
  refine ga_newi (n := 80) C (by decide +kernel) (by decide) ⟨Nat.le_of_ble_eq_true rfl, Nat.le_of_ble_eq_true rfl⟩ dX6_init_60 (fun σ14 n14 s14 => ?_)
  have hσ : σ14 b = .inr (6, [.inl 0, .inl 0, .inl (-1), .inr (b + 1), .inr (b + 2), .inl 0, .inl 0, .inl 0, .inl 0, .inr (b + 3), .inr (b + 4), .inr (b + 5), .inr (b + 6), .inl 0, .inr 0, .inr 0, .inr 0, .inr 0, .inr 0, .inl 0, .inl 0, .inr 0, .inr 0]) := (s14 b (by omega)).trans hσ
  have a1 : σ14 (b + 1) = .inl (false, 20, fun _ => 0) := (s14 (b + 1) (by omega)).trans a1
  have a2 : σ14 (b + 2) = .inl (false, 80, fun _ => 0) := (s14 (b + 2) (by omega)).trans a2
  have a3 : σ14 (b + 3) = .inl (false, 20, fun _ => 0) := (s14 (b + 3) (by omega)).trans a3
  have a4 : σ14 (b + 4) = .inl (false, 80, fun _ => 0) := (s14 (b + 4) (by omega)).trans a4
  have a5 : σ14 (b + 5) = .inl (false, 20, fun _ => 0) := (s14 (b + 5) (by omega)).trans a5
  have a6 : σ14 (b + 6) = .inl (false, 80, fun _ => 0) := (s14 (b + 6) (by omega)).trans a6
  have a7 : σ14 (b + 7) = .inl (false, 80, fun _ => 0) := n14
  have hF : gt_F b (b + 14) σ σ14 := fun k hk => (s14 k (by omega)).trans (hF k hk)
  refine ga_putC (j := 14) C (by decide +kernel) tyX6 tyX6_ok nmX6 hσ rfl (by decide) (by decide +kernel) (Or.inr ⟨rfl, rfl, rfl⟩) (tyX6_ok 14 (by decide)) (fun ad => ⟨rfl, rfl⟩) (Nat.le_of_ble_eq_true rfl) dX6_init_62 (fun σ15 n15 s15 => ?_)
  have hσ : σ15 b = .inr (6, [.inl 0, .inl 0, .inl (-1), .inr (b + 1), .inr (b + 2), .inl 0, .inl 0, .inl 0, .inl 0, .inr (b + 3), .inr (b + 4), .inr (b + 5), .inr (b + 6), .inl 0, .inr (b + 7), .inr 0, .inr 0, .inr 0, .inr 0, .inl 0, .inl 0, .inr 0, .inr 0]) := n15
  have a1 : σ15 (b + 1) = .inl (false, 20, fun _ => 0) := (s15 (b + 1) (by omega)).trans a1
  have a2 : σ15 (b + 2) = .inl (false, 80, fun _ => 0) := (s15 (b + 2) (by omega)).trans a2
  have a3 : σ15 (b + 3) = .inl (false, 20, fun _ => 0) := (s15 (b + 3) (by omega)).trans a3
  have a4 : σ15 (b + 4) = .inl (false, 80, fun _ => 0) := (s15 (b + 4) (by omega)).trans a4
  have a5 : σ15 (b + 5) = .inl (false, 20, fun _ => 0) := (s15 (b + 5) (by omega)).trans a5
  have a6 : σ15 (b + 6) = .inl (false, 80, fun _ => 0) := (s15 (b + 6) (by omega)).trans a6
  have a7 : σ15 (b + 7) = .inl (false, 80, fun _ => 0) := (s15 (b + 7) (by omega)).trans a7
  have hF : gt_F b (b + 14) σ σ15 := fun k hk => (s15 k (by omega)).trans (hF k hk)
  refine ga_aload_n C dX6_init_65 rfl rfl hb0 ?_
  refine ga_bipush C dX6_init_66 ⟨by decide, by decide⟩ (by decide) ?_
  refine ga_newi (n := 80) C (by decide +kernel) (by decide) ⟨Nat.le_of_ble_eq_true rfl, Nat.le_of_ble_eq_true rfl⟩ dX6_init_68 (fun σ16 n16 s16 => ?_)
  have hσ : σ16 b = .inr (6, [.inl 0, .inl 0, .inl (-1), .inr (b + 1), .inr (b + 2), .inl 0, .inl 0, .inl 0, .inl 0, .inr (b + 3), .inr (b + 4), .inr (b + 5), .inr (b + 6), .inl 0, .inr (b + 7), .inr 0, .inr 0, .inr 0, .inr 0, .inl 0, .inl 0, .inr 0, .inr 0]) := (s16 b (by omega)).trans hσ
  have a1 : σ16 (b + 1) = .inl (false, 20, fun _ => 0) := (s16 (b + 1) (by omega)).trans a1
  have a2 : σ16 (b + 2) = .inl (false, 80, fun _ => 0) := (s16 (b + 2) (by omega)).trans a2
  have a3 : σ16 (b + 3) = .inl (false, 20, fun _ => 0) := (s16 (b + 3) (by omega)).trans a3
  have a4 : σ16 (b + 4) = .inl (false, 80, fun _ => 0) := (s16 (b + 4) (by omega)).trans a4
  have a5 : σ16 (b + 5) = .inl (false, 20, fun _ => 0) := (s16 (b + 5) (by omega)).trans a5
  have a6 : σ16 (b + 6) = .inl (false, 80, fun _ => 0) := (s16 (b + 6) (by omega)).trans a6
  have a7 : σ16 (b + 7) = .inl (false, 80, fun _ => 0) := (s16 (b + 7) (by omega)).trans a7
  have a8 : σ16 (b + 8) = .inl (false, 80, fun _ => 0) := n16
  have hF : gt_F b (b + 14) σ σ16 := fun k hk => (s16 k (by omega)).trans (hF k hk)
  refine ga_putC (j := 15) C (by decide +kernel) tyX6 tyX6_ok nmX6 hσ rfl (by decide) (by decide +kernel) (Or.inr ⟨rfl, rfl, rfl⟩) (tyX6_ok 15 (by decide)) (fun ad => ⟨rfl, rfl⟩) (Nat.le_of_ble_eq_true rfl) dX6_init_70 (fun σ17 n17 s17 => ?_)
  have hσ : σ17 b = .inr (6, [.inl 0, .inl 0, .inl (-1), .inr (b + 1), .inr (b + 2), .inl 0, .inl 0, .inl 0, .inl 0, .inr (b + 3), .inr (b + 4), .inr (b + 5), .inr (b + 6), .inl 0, .inr (b + 7), .inr (b + 8), .inr 0, .inr 0, .inr 0, .inl 0, .inl 0, .inr 0, .inr 0]) := n17
  have a1 : σ17 (b + 1) = .inl (false, 20, fun _ => 0) := (s17 (b + 1) (by omega)).trans a1
  have a2 : σ17 (b + 2) = .inl (false, 80, fun _ => 0) := (s17 (b + 2) (by omega)).trans a2
  have a3 : σ17 (b + 3) = .inl (false, 20, fun _ => 0) := (s17 (b + 3) (by omega)).trans a3
  have a4 : σ17 (b + 4) = .inl (false, 80, fun _ => 0) := (s17 (b + 4) (by omega)).trans a4
  have a5 : σ17 (b + 5) = .inl (false, 20, fun _ => 0) := (s17 (b + 5) (by omega)).trans a5
  have a6 : σ17 (b + 6) = .inl (false, 80, fun _ => 0) := (s17 (b + 6) (by omega)).trans a6
  have a7 : σ17 (b + 7) = .inl (false, 80, fun _ => 0) := (s17 (b + 7) (by omega)).trans a7
  have a8 : σ17 (b + 8) = .inl (false, 80, fun _ => 0) := (s17 (b + 8) (by omega)).trans a8
  have hF : gt_F b (b + 14) σ σ17 := fun k hk => (s17 k (by omega)).trans (hF k hk)
  refine ga_aload_n C dX6_init_73 rfl rfl hb0 ?_
  refine ga_bipush C dX6_init_74 ⟨by decide, by decide⟩ (by decide) ?_
  refine ga_newz (n := 20) C (by decide +kernel) (by decide) ⟨Nat.le_of_ble_eq_true rfl, Nat.le_of_ble_eq_true rfl⟩ dX6_init_76 (fun σ18 n18 s18 => ?_)
  have hσ : σ18 b = .inr (6, [.inl 0, .inl 0, .inl (-1), .inr (b + 1), .inr (b + 2), .inl 0, .inl 0, .inl 0, .inl 0, .inr (b + 3), .inr (b + 4), .inr (b + 5), .inr (b + 6), .inl 0, .inr (b + 7), .inr (b + 8), .inr 0, .inr 0, .inr 0, .inl 0, .inl 0, .inr 0, .inr 0]) := (s18 b (by omega)).trans hσ
  have a1 : σ18 (b + 1) = .inl (false, 20, fun _ => 0) := (s18 (b + 1) (by omega)).trans a1
  have a2 : σ18 (b + 2) = .inl (false, 80, fun _ => 0) := (s18 (b + 2) (by omega)).trans a2
  have a3 : σ18 (b + 3) = .inl (false, 20, fun _ => 0) := (s18 (b + 3) (by omega)).trans a3
  have a4 : σ18 (b + 4) = .inl (false, 80, fun _ => 0) := (s18 (b + 4) (by omega)).trans a4
  have a5 : σ18 (b + 5) = .inl (false, 20, fun _ => 0) := (s18 (b + 5) (by omega)).trans a5
  have a6 : σ18 (b + 6) = .inl (false, 80, fun _ => 0) := (s18 (b + 6) (by omega)).trans a6
  have a7 : σ18 (b + 7) = .inl (false, 80, fun _ => 0) := (s18 (b + 7) (by omega)).trans a7
  have a8 : σ18 (b + 8) = .inl (false, 80, fun _ => 0) := (s18 (b + 8) (by omega)).trans a8
  have a9 : σ18 (b + 9) = .inl (true, 20, fun _ => 0) := n18
  have hF : gt_F b (b + 14) σ σ18 := fun k hk => (s18 k (by omega)).trans (hF k hk)
  refine ga_putC (j := 16) C (by decide +kernel) tyX6 tyX6_ok nmX6 hσ rfl (by decide) (by decide +kernel) (Or.inr ⟨rfl, rfl, rfl⟩) (tyX6_ok 16 (by decide)) (fun ad => ⟨rfl, rfl⟩) (Nat.le_of_ble_eq_true rfl) dX6_init_78 (fun σ19 n19 s19 => ?_)
  have hσ : σ19 b = .inr (6, [.inl 0, .inl 0, .inl (-1), .inr (b + 1), .inr (b + 2), .inl 0, .inl 0, .inl 0, .inl 0, .inr (b + 3), .inr (b + 4), .inr (b + 5), .inr (b + 6), .inl 0, .inr (b + 7), .inr (b + 8), .inr (b + 9), .inr 0, .inr 0, .inl 0, .inl 0, .inr 0, .inr 0]) := n19
  have a1 : σ19 (b + 1) = .inl (false, 20, fun _ => 0) := (s19 (b + 1) (by omega)).trans a1
  have a2 : σ19 (b + 2) = .inl (false, 80, fun _ => 0) := (s19 (b + 2) (by omega)).trans a2
  have a3 : σ19 (b + 3) = .inl (false, 20, fun _ => 0) := (s19 (b + 3) (by omega)).trans a3
  have a4 : σ19 (b + 4) = .inl (false, 80, fun _ => 0) := (s19 (b + 4) (by omega)).trans a4
  have a5 : σ19 (b + 5) = .inl (false, 20, fun _ => 0) := (s19 (b + 5) (by omega)).trans a5
  have a6 : σ19 (b + 6) = .inl (false, 80, fun _ => 0) := (s19 (b + 6) (by omega)).trans a6
  have a7 : σ19 (b + 7) = .inl (false, 80, fun _ => 0) := (s19 (b + 7) (by omega)).trans a7
  have a8 : σ19 (b + 8) = .inl (false, 80, fun _ => 0) := (s19 (b + 8) (by omega)).trans a8
  have a9 : σ19 (b + 9) = .inl (true, 20, fun _ => 0) := (s19 (b + 9) (by omega)).trans a9
  have hF : gt_F b (b + 14) σ σ19 := fun k hk => (s19 k (by omega)).trans (hF k hk)
  refine ga_aload_n C dX6_init_81 rfl rfl hb0 ?_
  refine ga_bipush C dX6_init_82 ⟨by decide, by decide⟩ (by decide) ?_
  refine ga_newz (n := 20) C (by decide +kernel) (by decide) ⟨Nat.le_of_ble_eq_true rfl, Nat.le_of_ble_eq_true rfl⟩ dX6_init_84 (fun σ20 n20 s20 => ?_)
  have hσ : σ20 b = .inr (6, [.inl 0, .inl 0, .inl (-1), .inr (b + 1), .inr (b + 2), .inl 0, .inl 0, .inl 0, .inl 0, .inr (b + 3), .inr (b + 4), .inr (b + 5), .inr (b + 6), .inl 0, .inr (b + 7), .inr (b + 8), .inr (b + 9), .inr 0, .inr 0, .inl 0, .inl 0, .inr 0, .inr 0]) := (s20 b (by omega)).trans hσ
  have a1 : σ20 (b + 1) = .inl (false, 20, fun _ => 0) := (s20 (b + 1) (by omega)).trans a1
  have a2 : σ20 (b + 2) = .inl (false, 80, fun _ => 0) := (s20 (b + 2) (by omega)).trans a2
  have a3 : σ20 (b + 3) = .inl (false, 20, fun _ => 0) := (s20 (b + 3) (by omega)).trans a3
  have a4 : σ20 (b + 4) = .inl (false, 80, fun _ => 0) := (s20 (b + 4) (by omega)).trans a4
  have a5 : σ20 (b + 5) = .inl (false, 20, fun _ => 0) := (s20 (b + 5) (by omega)).trans a5
  have a6 : σ20 (b + 6) = .inl (false, 80, fun _ => 0) := (s20 (b + 6) (by omega)).trans a6
  have a7 : σ20 (b + 7) = .inl (false, 80, fun _ => 0) := (s20 (b + 7) (by omega)).trans a7
  have a8 : σ20 (b + 8) = .inl (false, 80, fun _ => 0) := (s20 (b + 8) (by omega)).trans a8
  have a9 : σ20 (b + 9) = .inl (true, 20, fun _ => 0) := (s20 (b + 9) (by omega)).trans a9
  have a10 : σ20 (b + 10) = .inl (true, 20, fun _ => 0) := n20
  have hF : gt_F b (b + 14) σ σ20 := fun k hk => (s20 k (by omega)).trans (hF k hk)
  refine ga_putC (j := 17) C (by decide +kernel) tyX6 tyX6_ok nmX6 hσ rfl (by decide) (by decide +kernel) (Or.inr ⟨rfl, rfl, rfl⟩) (tyX6_ok 17 (by decide)) (fun ad => ⟨rfl, rfl⟩) (Nat.le_of_ble_eq_true rfl) dX6_init_86 (fun σ21 n21 s21 => ?_)
  have hσ : σ21 b = .inr (6, [.inl 0, .inl 0, .inl (-1), .inr (b + 1), .inr (b + 2), .inl 0, .inl 0, .inl 0, .inl 0, .inr (b + 3), .inr (b + 4), .inr (b + 5), .inr (b + 6), .inl 0, .inr (b + 7), .inr (b + 8), .inr (b + 9), .inr (b + 10), .inr 0, .inl 0, .inl 0, .inr 0, .inr 0]) := n21
  have a1 : σ21 (b + 1) = .inl (false, 20, fun _ => 0) := (s21 (b + 1) (by omega)).trans a1
  have a2 : σ21 (b + 2) = .inl (false, 80, fun _ => 0) := (s21 (b + 2) (by omega)).trans a2
  have a3 : σ21 (b + 3) = .inl (false, 20, fun _ => 0) := (s21 (b + 3) (by omega)).trans a3
  have a4 : σ21 (b + 4) = .inl (false, 80, fun _ => 0) := (s21 (b + 4) (by omega)).trans a4
  have a5 : σ21 (b + 5) = .inl (false, 20, fun _ => 0) := (s21 (b + 5) (by omega)).trans a5
  have a6 : σ21 (b + 6) = .inl (false, 80, fun _ => 0) := (s21 (b + 6) (by omega)).trans a6
  have a7 : σ21 (b + 7) = .inl (false, 80, fun _ => 0) := (s21 (b + 7) (by omega)).trans a7
  have a8 : σ21 (b + 8) = .inl (false, 80, fun _ => 0) := (s21 (b + 8) (by omega)).trans a8
  have a9 : σ21 (b + 9) = .inl (true, 20, fun _ => 0) := (s21 (b + 9) (by omega)).trans a9
  have a10 : σ21 (b + 10) = .inl (true, 20, fun _ => 0) := (s21 (b + 10) (by omega)).trans a10
  have hF : gt_F b (b + 14) σ σ21 := fun k hk => (s21 k (by omega)).trans (hF k hk)
  refine ga_aload_n C dX6_init_89 rfl rfl hb0 ?_
  refine ga_bipush C dX6_init_90 ⟨by decide, by decide⟩ (by decide) ?_
  refine ga_newi (n := 20) C (by decide +kernel) (by decide) ⟨Nat.le_of_ble_eq_true rfl, Nat.le_of_ble_eq_true rfl⟩ dX6_init_92 (fun σ22 n22 s22 => ?_)
  have hσ : σ22 b = .inr (6, [.inl 0, .inl 0, .inl (-1), .inr (b + 1), .inr (b + 2), .inl 0, .inl 0, .inl 0, .inl 0, .inr (b + 3), .inr (b + 4), .inr (b + 5), .inr (b + 6), .inl 0, .inr (b + 7), .inr (b + 8), .inr (b + 9), .inr (b + 10), .inr 0, .inl 0, .inl 0, .inr 0, .inr 0]) := (s22 b (by omega)).trans hσ
  have a1 : σ22 (b + 1) = .inl (false, 20, fun _ => 0) := (s22 (b + 1) (by omega)).trans a1
  have a2 : σ22 (b + 2) = .inl (false, 80, fun _ => 0) := (s22 (b + 2) (by omega)).trans a2
  have a3 : σ22 (b + 3) = .inl (false, 20, fun _ => 0) := (s22 (b + 3) (by omega)).trans a3
  have a4 : σ22 (b + 4) = .inl (false, 80, fun _ => 0) := (s22 (b + 4) (by omega)).trans a4
  have a5 : σ22 (b + 5) = .inl (false, 20, fun _ => 0) := (s22 (b + 5) (by omega)).trans a5
  have a6 : σ22 (b + 6) = .inl (false, 80, fun _ => 0) := (s22 (b + 6) (by omega)).trans a6
  have a7 : σ22 (b + 7) = .inl (false, 80, fun _ => 0) := (s22 (b + 7) (by omega)).trans a7
  have a8 : σ22 (b + 8) = .inl (false, 80, fun _ => 0) := (s22 (b + 8) (by omega)).trans a8
  have a9 : σ22 (b + 9) = .inl (true, 20, fun _ => 0) := (s22 (b + 9) (by omega)).trans a9
  have a10 : σ22 (b + 10) = .inl (true, 20, fun _ => 0) := (s22 (b + 10) (by omega)).trans a10
  have a11 : σ22 (b + 11) = .inl (false, 20, fun _ => 0) := n22
  have hF : gt_F b (b + 14) σ σ22 := fun k hk => (s22 k (by omega)).trans (hF k hk)
  refine ga_putC (j := 18) C (by decide +kernel) tyX6 tyX6_ok nmX6 hσ rfl (by decide) (by decide +kernel) (Or.inr ⟨rfl, rfl, rfl⟩) (tyX6_ok 18 (by decide)) (fun ad => ⟨rfl, rfl⟩) (Nat.le_of_ble_eq_true rfl) dX6_init_94 (fun σ23 n23 s23 => ?_)
  have hσ : σ23 b = .inr (6, [.inl 0, .inl 0, .inl (-1), .inr (b + 1), .inr (b + 2), .inl 0, .inl 0, .inl 0, .inl 0, .inr (b + 3), .inr (b + 4), .inr (b + 5), .inr (b + 6), .inl 0, .inr (b + 7), .inr (b + 8), .inr (b + 9), .inr (b + 10), .inr (b + 11), .inl 0, .inl 0, .inr 0, .inr 0]) := n23
  have a1 : σ23 (b + 1) = .inl (false, 20, fun _ => 0) := (s23 (b + 1) (by omega)).trans a1
  have a2 : σ23 (b + 2) = .inl (false, 80, fun _ => 0) := (s23 (b + 2) (by omega)).trans a2
  have a3 : σ23 (b + 3) = .inl (false, 20, fun _ => 0) := (s23 (b + 3) (by omega)).trans a3
  have a4 : σ23 (b + 4) = .inl (false, 80, fun _ => 0) := (s23 (b + 4) (by omega)).trans a4
  have a5 : σ23 (b + 5) = .inl (false, 20, fun _ => 0) := (s23 (b + 5) (by omega)).trans a5
  have a6 : σ23 (b + 6) = .inl (false, 80, fun _ => 0) := (s23 (b + 6) (by omega)).trans a6
  have a7 : σ23 (b + 7) = .inl (false, 80, fun _ => 0) := (s23 (b + 7) (by omega)).trans a7
  have a8 : σ23 (b + 8) = .inl (false, 80, fun _ => 0) := (s23 (b + 8) (by omega)).trans a8
  have a9 : σ23 (b + 9) = .inl (true, 20, fun _ => 0) := (s23 (b + 9) (by omega)).trans a9
  have a10 : σ23 (b + 10) = .inl (true, 20, fun _ => 0) := (s23 (b + 10) (by omega)).trans a10
  have a11 : σ23 (b + 11) = .inl (false, 20, fun _ => 0) := (s23 (b + 11) (by omega)).trans a11
  have hF : gt_F b (b + 14) σ σ23 := fun k hk => (s23 k (by omega)).trans (hF k hk)
  refine ga_aload_n C dX6_init_97 rfl rfl hb0 ?_
  refine ga_bipush C dX6_init_98 ⟨by decide, by decide⟩ (by decide) ?_
  refine ga_newi (n := 80) C (by decide +kernel) (by decide) ⟨Nat.le_of_ble_eq_true rfl, Nat.le_of_ble_eq_true rfl⟩ dX6_init_100 (fun σ24 n24 s24 => ?_)
  have hσ : σ24 b = .inr (6, [.inl 0, .inl 0, .inl (-1), .inr (b + 1), .inr (b + 2), .inl 0, .inl 0, .inl 0, .inl 0, .inr (b + 3), .inr (b + 4), .inr (b + 5), .inr (b + 6), .inl 0, .inr (b + 7), .inr (b + 8), .inr (b + 9), .inr (b + 10), .inr (b + 11), .inl 0, .inl 0, .inr 0, .inr 0]) := (s24 b (by omega)).trans hσ
  have a1 : σ24 (b + 1) = .inl (false, 20, fun _ => 0) := (s24 (b + 1) (by omega)).trans a1
  have a2 : σ24 (b + 2) = .inl (false, 80, fun _ => 0) := (s24 (b + 2) (by omega)).trans a2
  have a3 : σ24 (b + 3) = .inl (false, 20, fun _ => 0) := (s24 (b + 3) (by omega)).trans a3
  have a4 : σ24 (b + 4) = .inl (false, 80, fun _ => 0) := (s24 (b + 4) (by omega)).trans a4
  have a5 : σ24 (b + 5) = .inl (false, 20, fun _ => 0) := (s24 (b + 5) (by omega)).trans a5
  have a6 : σ24 (b + 6) = .inl (false, 80, fun _ => 0) := (s24 (b + 6) (by omega)).trans a6
  have a7 : σ24 (b + 7) = .inl (false, 80, fun _ => 0) := (s24 (b + 7) (by omega)).trans a7
  have a8 : σ24 (b + 8) = .inl (false, 80, fun _ => 0) := (s24 (b + 8) (by omega)).trans a8
  have a9 : σ24 (b + 9) = .inl (true, 20, fun _ => 0) := (s24 (b + 9) (by omega)).trans a9
  have a10 : σ24 (b + 10) = .inl (true, 20, fun _ => 0) := (s24 (b + 10) (by omega)).trans a10
  have a11 : σ24 (b + 11) = .inl (false, 20, fun _ => 0) := (s24 (b + 11) (by omega)).trans a11
  have a12 : σ24 (b + 12) = .inl (false, 80, fun _ => 0) := n24
  have hF : gt_F b (b + 14) σ σ24 := fun k hk => (s24 k (by omega)).trans (hF k hk)
  refine ga_putC (j := 21) C (by decide +kernel) tyX6 tyX6_ok nmX6 hσ rfl (by decide) (by decide +kernel) (Or.inr ⟨rfl, rfl, rfl⟩) (tyX6_ok 21 (by decide)) (fun ad => ⟨rfl, rfl⟩) (Nat.le_of_ble_eq_true rfl) dX6_init_102 (fun σ25 n25 s25 => ?_)
  have hσ : σ25 b = .inr (6, [.inl 0, .inl 0, .inl (-1), .inr (b + 1), .inr (b + 2), .inl 0, .inl 0, .inl 0, .inl 0, .inr (b + 3), .inr (b + 4), .inr (b + 5), .inr (b + 6), .inl 0, .inr (b + 7), .inr (b + 8), .inr (b + 9), .inr (b + 10), .inr (b + 11), .inl 0, .inl 0, .inr (b + 12), .inr 0]) := n25
  have a1 : σ25 (b + 1) = .inl (false, 20, fun _ => 0) := (s25 (b + 1) (by omega)).trans a1
  have a2 : σ25 (b + 2) = .inl (false, 80, fun _ => 0) := (s25 (b + 2) (by omega)).trans a2
  have a3 : σ25 (b + 3) = .inl (false, 20, fun _ => 0) := (s25 (b + 3) (by omega)).trans a3
  have a4 : σ25 (b + 4) = .inl (false, 80, fun _ => 0) := (s25 (b + 4) (by omega)).trans a4
  have a5 : σ25 (b + 5) = .inl (false, 20, fun _ => 0) := (s25 (b + 5) (by omega)).trans a5
  have a6 : σ25 (b + 6) = .inl (false, 80, fun _ => 0) := (s25 (b + 6) (by omega)).trans a6
  have a7 : σ25 (b + 7) = .inl (false, 80, fun _ => 0) := (s25 (b + 7) (by omega)).trans a7
  have a8 : σ25 (b + 8) = .inl (false, 80, fun _ => 0) := (s25 (b + 8) (by omega)).trans a8
  have a9 : σ25 (b + 9) = .inl (true, 20, fun _ => 0) := (s25 (b + 9) (by omega)).trans a9
  have a10 : σ25 (b + 10) = .inl (true, 20, fun _ => 0) := (s25 (b + 10) (by omega)).trans a10
  have a11 : σ25 (b + 11) = .inl (false, 20, fun _ => 0) := (s25 (b + 11) (by omega)).trans a11
  have a12 : σ25 (b + 12) = .inl (false, 80, fun _ => 0) := (s25 (b + 12) (by omega)).trans a12
  have hF : gt_F b (b + 14) σ σ25 := fun k hk => (s25 k (by omega)).trans (hF k hk)
  refine ga_aload_n C dX6_init_105 rfl rfl hb0 ?_
  refine ga_bipush C dX6_init_106 ⟨by decide, by decide⟩ (by decide) ?_
  refine ga_newi (n := 80) C (by decide +kernel) (by decide) ⟨Nat.le_of_ble_eq_true rfl, Nat.le_of_ble_eq_true rfl⟩ dX6_init_108 (fun σ26 n26 s26 => ?_)
  have hσ : σ26 b = .inr (6, [.inl 0, .inl 0, .inl (-1), .inr (b + 1), .inr (b + 2), .inl 0, .inl 0, .inl 0, .inl 0, .inr (b + 3), .inr (b + 4), .inr (b + 5), .inr (b + 6), .inl 0, .inr (b + 7), .inr (b + 8), .inr (b + 9), .inr (b + 10), .inr (b + 11), .inl 0, .inl 0, .inr (b + 12), .inr 0]) := (s26 b (by omega)).trans hσ
  have a1 : σ26 (b + 1) = .inl (false, 20, fun _ => 0) := (s26 (b + 1) (by omega)).trans a1
  have a2 : σ26 (b + 2) = .inl (false, 80, fun _ => 0) := (s26 (b + 2) (by omega)).trans a2
  have a3 : σ26 (b + 3) = .inl (false, 20, fun _ => 0) := (s26 (b + 3) (by omega)).trans a3
  have a4 : σ26 (b + 4) = .inl (false, 80, fun _ => 0) := (s26 (b + 4) (by omega)).trans a4
  have a5 : σ26 (b + 5) = .inl (false, 20, fun _ => 0) := (s26 (b + 5) (by omega)).trans a5
  have a6 : σ26 (b + 6) = .inl (false, 80, fun _ => 0) := (s26 (b + 6) (by omega)).trans a6
  have a7 : σ26 (b + 7) = .inl (false, 80, fun _ => 0) := (s26 (b + 7) (by omega)).trans a7
  have a8 : σ26 (b + 8) = .inl (false, 80, fun _ => 0) := (s26 (b + 8) (by omega)).trans a8
  have a9 : σ26 (b + 9) = .inl (true, 20, fun _ => 0) := (s26 (b + 9) (by omega)).trans a9
  have a10 : σ26 (b + 10) = .inl (true, 20, fun _ => 0) := (s26 (b + 10) (by omega)).trans a10
  have a11 : σ26 (b + 11) = .inl (false, 20, fun _ => 0) := (s26 (b + 11) (by omega)).trans a11
  have a12 : σ26 (b + 12) = .inl (false, 80, fun _ => 0) := (s26 (b + 12) (by omega)).trans a12
  have a13 : σ26 (b + 13) = .inl (false, 80, fun _ => 0) := n26
  have hF : gt_F b (b + 14) σ σ26 := fun k hk => (s26 k (by omega)).trans (hF k hk)
  refine ga_putC (j := 22) C (by decide +kernel) tyX6 tyX6_ok nmX6 hσ rfl (by decide) (by decide +kernel) (Or.inr ⟨rfl, rfl, rfl⟩) (tyX6_ok 22 (by decide)) (fun ad => ⟨rfl, rfl⟩) (Nat.le_of_ble_eq_true rfl) dX6_init_110 (fun σ27 n27 s27 => ?_)
  have hσ : σ27 b = .inr (6, [.inl 0, .inl 0, .inl (-1), .inr (b + 1), .inr (b + 2), .inl 0, .inl 0, .inl 0, .inl 0, .inr (b + 3), .inr (b + 4), .inr (b + 5), .inr (b + 6), .inl 0, .inr (b + 7), .inr (b + 8), .inr (b + 9), .inr (b + 10), .inr (b + 11), .inl 0, .inl 0, .inr (b + 12), .inr (b + 13)]) := n27
  have a1 : σ27 (b + 1) = .inl (false, 20, fun _ => 0) := (s27 (b + 1) (by omega)).trans a1
  have a2 : σ27 (b + 2) = .inl (false, 80, fun _ => 0) := (s27 (b + 2) (by omega)).trans a2
  have a3 : σ27 (b + 3) = .inl (false, 20, fun _ => 0) := (s27 (b + 3) (by omega)).trans a3
  have a4 : σ27 (b + 4) = .inl (false, 80, fun _ => 0) := (s27 (b + 4) (by omega)).trans a4
  have a5 : σ27 (b + 5) = .inl (false, 20, fun _ => 0) := (s27 (b + 5) (by omega)).trans a5
  have a6 : σ27 (b + 6) = .inl (false, 80, fun _ => 0) := (s27 (b + 6) (by omega)).trans a6
  have a7 : σ27 (b + 7) = .inl (false, 80, fun _ => 0) := (s27 (b + 7) (by omega)).trans a7
  have a8 : σ27 (b + 8) = .inl (false, 80, fun _ => 0) := (s27 (b + 8) (by omega)).trans a8
  have a9 : σ27 (b + 9) = .inl (true, 20, fun _ => 0) := (s27 (b + 9) (by omega)).trans a9
  have a10 : σ27 (b + 10) = .inl (true, 20, fun _ => 0) := (s27 (b + 10) (by omega)).trans a10
  have a11 : σ27 (b + 11) = .inl (false, 20, fun _ => 0) := (s27 (b + 11) (by omega)).trans a11
  have a12 : σ27 (b + 12) = .inl (false, 80, fun _ => 0) := (s27 (b + 12) (by omega)).trans a12
  have a13 : σ27 (b + 13) = .inl (false, 80, fun _ => 0) := (s27 (b + 13) (by omega)).trans a13
  have hF : gt_F b (b + 14) σ σ27 := fun k hk => (s27 k (by omega)).trans (hF k hk)
  have hO : gt_O SX6 6 b gm_m2 σ27 := by
    refine ⟨hσ.trans (congrArg (fun z => (Sum.inr (6, z) : ga_E)) (gm_fs6 b).symm), fun j o n => ?_⟩
    rcases j with _ | _ | _ | _ | _ | _ | _ | _ | _ | _ | _ | _ | _ | _ | _ | _ | _ | _ | _ | _ | _ | _ | _ | j
    · exact ⟨fun h => (by cases (show some (0, 0, 0) = some (1, o, n) from h)), fun h => (by cases (show some (0, 0, 0) = some (2, o, n) from h))⟩
    · exact ⟨fun h => (by cases (show some (0, 0, 0) = some (1, o, n) from h)), fun h => (by cases (show some (0, 0, 0) = some (2, o, n) from h))⟩
    · exact ⟨fun h => (by cases (show some (0, 0, 0) = some (1, o, n) from h)), fun h => (by cases (show some (0, 0, 0) = some (2, o, n) from h))⟩
    · exact ⟨fun h => (by cases (show some (1, 1, 20) = some (1, o, n) from h); exact a1), fun h => (by cases (show some (1, 1, 20) = some (2, o, n) from h))⟩
    · exact ⟨fun h => (by cases (show some (1, 2, 80) = some (1, o, n) from h); exact a2), fun h => (by cases (show some (1, 2, 80) = some (2, o, n) from h))⟩
    · exact ⟨fun h => (by cases (show some (0, 0, 0) = some (1, o, n) from h)), fun h => (by cases (show some (0, 0, 0) = some (2, o, n) from h))⟩
    · exact ⟨fun h => (by cases (show some (0, 0, 0) = some (1, o, n) from h)), fun h => (by cases (show some (0, 0, 0) = some (2, o, n) from h))⟩
    · exact ⟨fun h => (by cases (show some (0, 0, 0) = some (1, o, n) from h)), fun h => (by cases (show some (0, 0, 0) = some (2, o, n) from h))⟩
    · exact ⟨fun h => (by cases (show some (0, 0, 0) = some (1, o, n) from h)), fun h => (by cases (show some (0, 0, 0) = some (2, o, n) from h))⟩
    · exact ⟨fun h => (by cases (show some (1, 3, 20) = some (1, o, n) from h); exact a3), fun h => (by cases (show some (1, 3, 20) = some (2, o, n) from h))⟩
    · exact ⟨fun h => (by cases (show some (1, 4, 80) = some (1, o, n) from h); exact a4), fun h => (by cases (show some (1, 4, 80) = some (2, o, n) from h))⟩
    · exact ⟨fun h => (by cases (show some (1, 5, 20) = some (1, o, n) from h); exact a5), fun h => (by cases (show some (1, 5, 20) = some (2, o, n) from h))⟩
    · exact ⟨fun h => (by cases (show some (1, 6, 80) = some (1, o, n) from h); exact a6), fun h => (by cases (show some (1, 6, 80) = some (2, o, n) from h))⟩
    · exact ⟨fun h => (by cases (show some (0, 0, 0) = some (1, o, n) from h)), fun h => (by cases (show some (0, 0, 0) = some (2, o, n) from h))⟩
    · exact ⟨fun h => (by cases (show some (1, 7, 80) = some (1, o, n) from h); exact a7), fun h => (by cases (show some (1, 7, 80) = some (2, o, n) from h))⟩
    · exact ⟨fun h => (by cases (show some (1, 8, 80) = some (1, o, n) from h); exact a8), fun h => (by cases (show some (1, 8, 80) = some (2, o, n) from h))⟩
    · exact ⟨fun h => (by cases (show some (2, 9, 20) = some (1, o, n) from h)), fun h => (by cases (show some (2, 9, 20) = some (2, o, n) from h); exact a9)⟩
    · exact ⟨fun h => (by cases (show some (2, 10, 20) = some (1, o, n) from h)), fun h => (by cases (show some (2, 10, 20) = some (2, o, n) from h); exact a10)⟩
    · exact ⟨fun h => (by cases (show some (1, 11, 20) = some (1, o, n) from h); exact a11), fun h => (by cases (show some (1, 11, 20) = some (2, o, n) from h))⟩
    · exact ⟨fun h => (by cases (show some (0, 0, 0) = some (1, o, n) from h)), fun h => (by cases (show some (0, 0, 0) = some (2, o, n) from h))⟩
    · exact ⟨fun h => (by cases (show some (0, 0, 0) = some (1, o, n) from h)), fun h => (by cases (show some (0, 0, 0) = some (2, o, n) from h))⟩
    · exact ⟨fun h => (by cases (show some (1, 12, 80) = some (1, o, n) from h); exact a12), fun h => (by cases (show some (1, 12, 80) = some (2, o, n) from h))⟩
    · exact ⟨fun h => (by cases (show some (1, 13, 80) = some (1, o, n) from h); exact a13), fun h => (by cases (show some (1, 13, 80) = some (2, o, n) from h))⟩
    · exact ⟨fun h => (by cases (show (none : Option (Nat × Nat × Nat)) = some (1, o, n) from h)), fun h => (by cases (show (none : Option (Nat × Nat × Nat)) = some (2, o, n) from h))⟩
  exact hret _ _ _ dX6_init_113 ⟨⟨hO, hF⟩, rfl⟩
