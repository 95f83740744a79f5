set_option maxHeartbeats 4000000 in
set_option maxRecDepth 20000 in
theorem eX0_init (l : Launch) (D : va_G) (cI cZ : ClassId) {b : Nat} (hb0 : b ≠ 0) {σ : ga_S} (hσ : σ b = .inr (0, [.inr 0, .inr 0, .inr 0, .inr 0, .inr 0, .inr 0, .inr 0, .inr 0, .inl 0])) : ga_Ev l (D, vwCl, cI, cZ) yX0_init wsX0_init (gm_rm 2 40 31 1695) gm_nw0 31 1695 b [.inr b] σ (fun σ' rv => (gx_W (b) gm_ch σ' ∧ gt_F b (b + 32) σ σ') ∧ rv = none) := by
  refine ga_ofV (by decide +kernel) rfl gt_hcl (Nat.le_of_ble_eq_true rfl) (fun X hX C hret => ?_)
  have hF : gt_F b (b + 32) σ σ := gt_F.rf
  refine ga_aload_n C dX0_init_0 rfl rfl hb0 ?_
  refine ga_objI C (by decide +kernel) (by decide +kernel) (by decide +kernel) hb0 (by decide) ⟨by decide, by decide⟩ dX0_init_1 ?_
  refine ga_aload_n C dX0_init_4 rfl rfl hb0 ?_
  refine ga_new (Cn := RX4) (T := TX4) (N := 3) (ci := 4) (fs := [.inr 0, .inr 0, .inl 0]) C (by decide +kernel) tyX4 tyX4_ok (by decide +kernel) (by decide +kernel) (by decide +kernel) rfl (by decide) (by decide +kernel) ⟨Nat.le_of_ble_eq_true rfl, Nat.le_of_ble_eq_true rfl⟩ dX0_init_5 (fun σ1 n1 s1 => ?_)
  have hσ : σ1 b = .inr (0, [.inr 0, .inr 0, .inr 0, .inr 0, .inr 0, .inr 0, .inr 0, .inr 0, .inl 0]) := (s1 b (by omega)).trans hσ
  have hF : gt_F b (b + 32) σ σ1 := fun k hk => (s1 k (by omega)).trans (hF k hk)
  refine ga_dup C dX0_init_8 ?_
  refine ga_callIN (host := "DiagramCode") (As := []) C (eX4_init X.2.1 D cI cZ (b := b + 1) (by omega) n1) gX0_init_X4_init_n11 (by decide +kernel) (by decide +kernel) (by decide +kernel) rfl rfl rfl rfl (by decide +kernel) ⟨Nat.le_of_ble_eq_true rfl, Nat.le_of_ble_eq_true rfl⟩ ⟨Nat.le_of_ble_eq_true rfl, Nat.le_of_ble_eq_true rfl⟩ (by simp) (by omega) (Nat.le_of_ble_eq_true rfl) rfl dX0_init_9 (fun σ2 r2 hp2 => ?_)
  obtain ⟨⟨w2, f2⟩, e2⟩ := hp2
  subst e2
  have hσ : σ2 b = .inr (0, [.inr 0, .inr 0, .inr 0, .inr 0, .inr 0, .inr 0, .inr 0, .inr 0, .inl 0]) := (f2 b (by omega)).trans hσ
  have hF : gt_F b (b + 32) σ σ2 := fun k hk => (f2 k (by omega)).trans (hF k hk)
  have w1 : gt_O SX4 4 (b + 1) gm_0 σ2 := w2
  refine ga_putC (j := 0) C (by decide +kernel) tyX0 tyX0_ok nmX0 hσ rfl (by decide) (by decide +kernel) (Or.inr ⟨rfl, rfl, rfl⟩) (tyX0_ok 0 (by decide)) (fun ad => ⟨rfl, rfl⟩) (Nat.le_of_ble_eq_true rfl) dX0_init_12 (fun σ3 n3 s3 => ?_)
  have hσ : σ3 b = .inr (0, [.inr (b + 1), .inr 0, .inr 0, .inr 0, .inr 0, .inr 0, .inr 0, .inr 0, .inl 0]) := n3
  have w1 : gt_O SX4 4 (b + 1) gm_0 σ3 := w1.keep okX4 (fun k q1 q2 => s3 (k) (by omega)) (by decide)
  have hF : gt_F b (b + 32) σ σ3 := fun k hk => (s3 k (by omega)).trans (hF k hk)
  refine ga_aload_n C dX0_init_15 rfl rfl hb0 ?_
  refine ga_new (Cn := RX1) (T := TX1) (N := 6) (ci := 1) (fs := [.inr 0, .inr 0, .inr 0, .inr 0, .inr 0, .inl 0]) C (by decide +kernel) tyX1 tyX1_ok (by decide +kernel) (by decide +kernel) (by decide +kernel) rfl (by decide) (by decide +kernel) ⟨Nat.le_of_ble_eq_true rfl, Nat.le_of_ble_eq_true rfl⟩ dX0_init_16 (fun σ4 n4 s4 => ?_)
  have hσ : σ4 b = .inr (0, [.inr (b + 1), .inr 0, .inr 0, .inr 0, .inr 0, .inr 0, .inr 0, .inr 0, .inl 0]) := (s4 b (by omega)).trans hσ
  have w1 : gt_O SX4 4 (b + 1) gm_0 σ4 := w1.keep okX4 (fun k q1 q2 => s4 (k) (by omega)) (by decide)
  have hF : gt_F b (b + 32) σ σ4 := fun k hk => (s4 k (by omega)).trans (hF k hk)
  refine ga_dup C dX0_init_19 ?_
  refine ga_callIN (host := "DiagramCode") (As := []) C (eX1_init X.2.1 D cI cZ (b := b + 4) (by omega) n4) gX0_init_X1_init_n20 (by decide +kernel) (by decide +kernel) (by decide +kernel) rfl rfl rfl rfl (by decide +kernel) ⟨Nat.le_of_ble_eq_true rfl, Nat.le_of_ble_eq_true rfl⟩ ⟨Nat.le_of_ble_eq_true rfl, Nat.le_of_ble_eq_true rfl⟩ (by simp) (by omega) (Nat.le_of_ble_eq_true rfl) rfl dX0_init_20 (fun σ5 r5 hp5 => ?_)
  obtain ⟨⟨w5, f5⟩, e5⟩ := hp5
  subst e5
  have hσ : σ5 b = .inr (0, [.inr (b + 1), .inr 0, .inr 0, .inr 0, .inr 0, .inr 0, .inr 0, .inr 0, .inl 0]) := (f5 b (by omega)).trans hσ
  have w1 : gt_O SX4 4 (b + 1) gm_0 σ5 := w1.keep okX4 (fun k q1 q2 => f5 (k) (by omega)) (by decide)
  have hF : gt_F b (b + 32) σ σ5 := fun k hk => (f5 k (by omega)).trans (hF k hk)
  have w4 : gt_O SX1 1 (b + 4) gm_0 σ5 := w5
  refine ga_putC (j := 1) C (by decide +kernel) tyX0 tyX0_ok nmX0 hσ rfl (by decide) (by decide +kernel) (Or.inr ⟨rfl, rfl, rfl⟩) (tyX0_ok 1 (by decide)) (fun ad => ⟨rfl, rfl⟩) (Nat.le_of_ble_eq_true rfl) dX0_init_23 (fun σ6 n6 s6 => ?_)
  have hσ : σ6 b = .inr (0, [.inr (b + 1), .inr (b + 4), .inr 0, .inr 0, .inr 0, .inr 0, .inr 0, .inr 0, .inl 0]) := n6
  have w1 : gt_O SX4 4 (b + 1) gm_0 σ6 := w1.keep okX4 (fun k q1 q2 => s6 (k) (by omega)) (by decide)
  have w4 : gt_O SX1 1 (b + 4) gm_0 σ6 := w4.keep okX1 (fun k q1 q2 => s6 (k) (by omega)) (by decide)
  have hF : gt_F b (b + 32) σ σ6 := fun k hk => (s6 k (by omega)).trans (hF k hk)
  refine ga_aload_n C dX0_init_26 rfl rfl hb0 ?_
  refine ga_new (Cn := RX2) (T := TX2) (N := 4) (ci := 2) (fs := [.inr 0, .inr 0, .inl 0, .inl 0]) C (by decide +kernel) tyX2 tyX2_ok (by decide +kernel) (by decide +kernel) (by decide +kernel) rfl (by decide) (by decide +kernel) ⟨Nat.le_of_ble_eq_true rfl, Nat.le_of_ble_eq_true rfl⟩ dX0_init_27 (fun σ7 n7 s7 => ?_)
  have hσ : σ7 b = .inr (0, [.inr (b + 1), .inr (b + 4), .inr 0, .inr 0, .inr 0, .inr 0, .inr 0, .inr 0, .inl 0]) := (s7 b (by omega)).trans hσ
  have w1 : gt_O SX4 4 (b + 1) gm_0 σ7 := w1.keep okX4 (fun k q1 q2 => s7 (k) (by omega)) (by decide)
  have w4 : gt_O SX1 1 (b + 4) gm_0 σ7 := w4.keep okX1 (fun k q1 q2 => s7 (k) (by omega)) (by decide)
  have hF : gt_F b (b + 32) σ σ7 := fun k hk => (s7 k (by omega)).trans (hF k hk)
  refine ga_dup C dX0_init_30 ?_
  refine ga_callIN (host := "DiagramCode") (As := []) C (eX2_init X.2.1 D cI cZ (b := b + 10) (by omega) n7) gX0_init_X2_init_n27 (by decide +kernel) (by decide +kernel) (by decide +kernel) rfl rfl rfl rfl (by decide +kernel) ⟨Nat.le_of_ble_eq_true rfl, Nat.le_of_ble_eq_true rfl⟩ ⟨Nat.le_of_ble_eq_true rfl, Nat.le_of_ble_eq_true rfl⟩ (by simp) (by omega) (Nat.le_of_ble_eq_true rfl) rfl dX0_init_31 (fun σ8 r8 hp8 => ?_)
  obtain ⟨⟨w8, f8⟩, e8⟩ := hp8
  subst e8
  have hσ : σ8 b = .inr (0, [.inr (b + 1), .inr (b + 4), .inr 0, .inr 0, .inr 0, .inr 0, .inr 0, .inr 0, .inl 0]) := (f8 b (by omega)).trans hσ
  have w1 : gt_O SX4 4 (b + 1) gm_0 σ8 := w1.keep okX4 (fun k q1 q2 => f8 (k) (by omega)) (by decide)
  have w4 : gt_O SX1 1 (b + 4) gm_0 σ8 := w4.keep okX1 (fun k q1 q2 => f8 (k) (by omega)) (by decide)
  have hF : gt_F b (b + 32) σ σ8 := fun k hk => (f8 k (by omega)).trans (hF k hk)
  have w10 : gt_O SX2 2 (b + 10) gm_0 σ8 := w8
  refine ga_putC (j := 2) C (by decide +kernel) tyX0 tyX0_ok nmX0 hσ rfl (by decide) (by decide +kernel) (Or.inr ⟨rfl, rfl, rfl⟩) (tyX0_ok 2 (by decide)) (fun ad => ⟨rfl, rfl⟩) (Nat.le_of_ble_eq_true rfl) dX0_init_34 (fun σ9 n9 s9 => ?_)
  have hσ : σ9 b = .inr (0, [.inr (b + 1), .inr (b + 4), .inr (b + 10), .inr 0, .inr 0, .inr 0, .inr 0, .inr 0, .inl 0]) := n9
  have w1 : gt_O SX4 4 (b + 1) gm_0 σ9 := w1.keep okX4 (fun k q1 q2 => s9 (k) (by omega)) (by decide)
  have w4 : gt_O SX1 1 (b + 4) gm_0 σ9 := w4.keep okX1 (fun k q1 q2 => s9 (k) (by omega)) (by decide)
  have w10 : gt_O SX2 2 (b + 10) gm_0 σ9 := w10.keep okX2 (fun k q1 q2 => s9 (k) (by omega)) (by decide)
  have hF : gt_F b (b + 32) σ σ9 := fun k hk => (s9 k (by omega)).trans (hF k hk)
  refine ga_aload_n C dX0_init_37 rfl rfl hb0 ?_
  refine ga_new (Cn := RX2) (T := TX2) (N := 4) (ci := 2) (fs := [.inr 0, .inr 0, .inl 0, .inl 0]) C (by decide +kernel) tyX2 tyX2_ok (by decide +kernel) (by decide +kernel) (by decide +kernel) rfl (by decide) (by decide +kernel) ⟨Nat.le_of_ble_eq_true rfl, Nat.le_of_ble_eq_true rfl⟩ dX0_init_38 (fun σ10 n10 s10 => ?_)
  have hσ : σ10 b = .inr (0, [.inr (b + 1), .inr (b + 4), .inr (b + 10), .inr 0, .inr 0, .inr 0, .inr 0, .inr 0, .inl 0]) := (s10 b (by omega)).trans hσ
  have w1 : gt_O SX4 4 (b + 1) gm_0 σ10 := w1.keep okX4 (fun k q1 q2 => s10 (k) (by omega)) (by decide)
  have w4 : gt_O SX1 1 (b + 4) gm_0 σ10 := w4.keep okX1 (fun k q1 q2 => s10 (k) (by omega)) (by decide)
  have w10 : gt_O SX2 2 (b + 10) gm_0 σ10 := w10.keep okX2 (fun k q1 q2 => s10 (k) (by omega)) (by decide)
  have hF : gt_F b (b + 32) σ σ10 := fun k hk => (s10 k (by omega)).trans (hF k hk)
  refine ga_dup C dX0_init_41 ?_
  refine ga_callIN (host := "DiagramCode") (As := []) C (eX2_init X.2.1 D cI cZ (b := b + 13) (by omega) n10) gX0_init_X2_init_n27 (by decide +kernel) (by decide +kernel) (by decide +kernel) rfl rfl rfl rfl (by decide +kernel) ⟨Nat.le_of_ble_eq_true rfl, Nat.le_of_ble_eq_true rfl⟩ ⟨Nat.le_of_ble_eq_true rfl, Nat.le_of_ble_eq_true rfl⟩ (by simp) (by omega) (Nat.le_of_ble_eq_true rfl) rfl dX0_init_42 (fun σ11 r11 hp11 => ?_)
  obtain ⟨⟨w11, f11⟩, e11⟩ := hp11
  subst e11
  have hσ : σ11 b = .inr (0, [.inr (b + 1), .inr (b + 4), .inr (b + 10), .inr 0, .inr 0, .inr 0, .inr 0, .inr 0, .inl 0]) := (f11 b (by omega)).trans hσ
  have w1 : gt_O SX4 4 (b + 1) gm_0 σ11 := w1.keep okX4 (fun k q1 q2 => f11 (k) (by omega)) (by decide)
  have w4 : gt_O SX1 1 (b + 4) gm_0 σ11 := w4.keep okX1 (fun k q1 q2 => f11 (k) (by omega)) (by decide)
  have w10 : gt_O SX2 2 (b + 10) gm_0 σ11 := w10.keep okX2 (fun k q1 q2 => f11 (k) (by omega)) (by decide)
  have hF : gt_F b (b + 32) σ σ11 := fun k hk => (f11 k (by omega)).trans (hF k hk)
  have w13 : gt_O SX2 2 (b + 13) gm_0 σ11 := w11
  refine ga_putC (j := 3) C (by decide +kernel) tyX0 tyX0_ok nmX0 hσ rfl (by decide) (by decide +kernel) (Or.inr ⟨rfl, rfl, rfl⟩) (tyX0_ok 3 (by decide)) (fun ad => ⟨rfl, rfl⟩) (Nat.le_of_ble_eq_true rfl) dX0_init_45 (fun σ12 n12 s12 => ?_)
  have hσ : σ12 b = .inr (0, [.inr (b + 1), .inr (b + 4), .inr (b + 10), .inr (b + 13), .inr 0, .inr 0, .inr 0, .inr 0, .inl 0]) := n12
  have w1 : gt_O SX4 4 (b + 1) gm_0 σ12 := w1.keep okX4 (fun k q1 q2 => s12 (k) (by omega)) (by decide)
  have w4 : gt_O SX1 1 (b + 4) gm_0 σ12 := w4.keep okX1 (fun k q1 q2 => s12 (k) (by omega)) (by decide)
  have w10 : gt_O SX2 2 (b + 10) gm_0 σ12 := w10.keep okX2 (fun k q1 q2 => s12 (k) (by omega)) (by decide)
  have w13 : gt_O SX2 2 (b + 13) gm_0 σ12 := w13.keep okX2 (fun k q1 q2 => s12 (k) (by omega)) (by decide)
  have hF : gt_F b (b + 32) σ σ12 := fun k hk => (s12 k (by omega)).trans (hF k hk)
  refine ga_aload_n C dX0_init_48 rfl rfl hb0 ?_
  refine ga_new (Cn := RX3) (T := TX3) (N := 6) (ci := 3) (fs := [.inr 0, .inr 0, .inr 0, .inr 0, .inl 0, .inl 0]) C (by decide +kernel) tyX3 tyX3_ok (by decide +kernel) (by decide +kernel) (by decide +kernel) rfl (by decide) (by decide +kernel) ⟨Nat.le_of_ble_eq_true rfl, Nat.le_of_ble_eq_true rfl⟩ dX0_init_49 (fun σ13 n13 s13 => ?_)
  have hσ : σ13 b = .inr (0, [.inr (b + 1), .inr (b + 4), .inr (b + 10), .inr (b + 13), .inr 0, .inr 0, .inr 0, .inr 0, .inl 0]) := (s13 b (by omega)).trans hσ
  have w1 : gt_O SX4 4 (b + 1) gm_0 σ13 := w1.keep okX4 (fun k q1 q2 => s13 (k) (by omega)) (by decide)
  have w4 : gt_O SX1 1 (b + 4) gm_0 σ13 := w4.keep okX1 (fun k q1 q2 => s13 (k) (by omega)) (by decide)
  have w10 : gt_O SX2 2 (b + 10) gm_0 σ13 := w10.keep okX2 (fun k q1 q2 => s13 (k) (by omega)) (by decide)
  have w13 : gt_O SX2 2 (b + 13) gm_0 σ13 := w13.keep okX2 (fun k q1 q2 => s13 (k) (by omega)) (by decide)
  have hF : gt_F b (b + 32) σ σ13 := fun k hk => (s13 k (by omega)).trans (hF k hk)
  refine ga_dup C dX0_init_52 ?_
  refine ga_callIN (host := "DiagramCode") (As := []) C (eX3_init X.2.1 D cI cZ (b := b + 16) (by omega) n13) gX0_init_X3_init_n37 (by decide +kernel) (by decide +kernel) (by decide +kernel) rfl rfl rfl rfl (by decide +kernel) ⟨Nat.le_of_ble_eq_true rfl, Nat.le_of_ble_eq_true rfl⟩ ⟨Nat.le_of_ble_eq_true rfl, Nat.le_of_ble_eq_true rfl⟩ (by simp) (by omega) (Nat.le_of_ble_eq_true rfl) rfl dX0_init_53 (fun σ14 r14 hp14 => ?_)
  obtain ⟨⟨w14, f14⟩, e14⟩ := hp14
  subst e14
  have hσ : σ14 b = .inr (0, [.inr (b + 1), .inr (b + 4), .inr (b + 10), .inr (b + 13), .inr 0, .inr 0, .inr 0, .inr 0, .inl 0]) := (f14 b (by omega)).trans hσ
  have w1 : gt_O SX4 4 (b + 1) gm_0 σ14 := w1.keep okX4 (fun k q1 q2 => f14 (k) (by omega)) (by decide)
  have w4 : gt_O SX1 1 (b + 4) gm_0 σ14 := w4.keep okX1 (fun k q1 q2 => f14 (k) (by omega)) (by decide)
  have w10 : gt_O SX2 2 (b + 10) gm_0 σ14 := w10.keep okX2 (fun k q1 q2 => f14 (k) (by omega)) (by decide)
  have w13 : gt_O SX2 2 (b + 13) gm_0 σ14 := w13.keep okX2 (fun k q1 q2 => f14 (k) (by omega)) (by decide)
  have hF : gt_F b (b + 32) σ σ14 := fun k hk => (f14 k (by omega)).trans (hF k hk)
  have w16 : gt_O SX3 3 (b + 16) gm_0 σ14 := w14
  refine ga_putC (j := 4) C (by decide +kernel) tyX0 tyX0_ok nmX0 hσ rfl (by decide) (by decide +kernel) (Or.inr ⟨rfl, rfl, rfl⟩) (tyX0_ok 4 (by decide)) (fun ad => ⟨rfl, rfl⟩) (Nat.le_of_ble_eq_true rfl) dX0_init_56 (fun σ15 n15 s15 => ?_)
  have hσ : σ15 b = .inr (0, [.inr (b + 1), .inr (b + 4), .inr (b + 10), .inr (b + 13), .inr (b + 16), .inr 0, .inr 0, .inr 0, .inl 0]) := n15
  have w1 : gt_O SX4 4 (b + 1) gm_0 σ15 := w1.keep okX4 (fun k q1 q2 => s15 (k) (by omega)) (by decide)
  have w4 : gt_O SX1 1 (b + 4) gm_0 σ15 := w4.keep okX1 (fun k q1 q2 => s15 (k) (by omega)) (by decide)
  have w10 : gt_O SX2 2 (b + 10) gm_0 σ15 := w10.keep okX2 (fun k q1 q2 => s15 (k) (by omega)) (by decide)
  have w13 : gt_O SX2 2 (b + 13) gm_0 σ15 := w13.keep okX2 (fun k q1 q2 => s15 (k) (by omega)) (by decide)
  have w16 : gt_O SX3 3 (b + 16) gm_0 σ15 := w16.keep okX3 (fun k q1 q2 => s15 (k) (by omega)) (by decide)
  have hF : gt_F b (b + 32) σ σ15 := fun k hk => (s15 k (by omega)).trans (hF k hk)
  refine ga_aload_n C dX0_init_59 rfl rfl hb0 ?_
  refine ga_new (Cn := RX3) (T := TX3) (N := 6) (ci := 3) (fs := [.inr 0, .inr 0, .inr 0, .inr 0, .inl 0, .inl 0]) C (by decide +kernel) tyX3 tyX3_ok (by decide +kernel) (by decide +kernel) (by decide +kernel) rfl (by decide) (by decide +kernel) ⟨Nat.le_of_ble_eq_true rfl, Nat.le_of_ble_eq_true rfl⟩ dX0_init_60 (fun σ16 n16 s16 => ?_)
  have hσ : σ16 b = .inr (0, [.inr (b + 1), .inr (b + 4), .inr (b + 10), .inr (b + 13), .inr (b + 16), .inr 0, .inr 0, .inr 0, .inl 0]) := (s16 b (by omega)).trans hσ
  have w1 : gt_O SX4 4 (b + 1) gm_0 σ16 := w1.keep okX4 (fun k q1 q2 => s16 (k) (by omega)) (by decide)
  have w4 : gt_O SX1 1 (b + 4) gm_0 σ16 := w4.keep okX1 (fun k q1 q2 => s16 (k) (by omega)) (by decide)
  have w10 : gt_O SX2 2 (b + 10) gm_0 σ16 := w10.keep okX2 (fun k q1 q2 => s16 (k) (by omega)) (by decide)
  have w13 : gt_O SX2 2 (b + 13) gm_0 σ16 := w13.keep okX2 (fun k q1 q2 => s16 (k) (by omega)) (by decide)
  have w16 : gt_O SX3 3 (b + 16) gm_0 σ16 := w16.keep okX3 (fun k q1 q2 => s16 (k) (by omega)) (by decide)
  have hF : gt_F b (b + 32) σ σ16 := fun k hk => (s16 k (by omega)).trans (hF k hk)
  refine ga_dup C dX0_init_63 ?_
  refine ga_callIN (host := "DiagramCode") (As := []) C (eX3_init X.2.1 D cI cZ (b := b + 21) (by omega) n16) gX0_init_X3_init_n37 (by decide +kernel) (by decide +kernel) (by decide +kernel) rfl rfl rfl rfl (by decide +kernel) ⟨Nat.le_of_ble_eq_true rfl, Nat.le_of_ble_eq_true rfl⟩ ⟨Nat.le_of_ble_eq_true rfl, Nat.le_of_ble_eq_true rfl⟩ (by simp) (by omega) (Nat.le_of_ble_eq_true rfl) rfl dX0_init_64 (fun σ17 r17 hp17 => ?_)
  obtain ⟨⟨w17, f17⟩, e17⟩ := hp17
  subst e17
  have hσ : σ17 b = .inr (0, [.inr (b + 1), .inr (b + 4), .inr (b + 10), .inr (b + 13), .inr (b + 16), .inr 0, .inr 0, .inr 0, .inl 0]) := (f17 b (by omega)).trans hσ
  have w1 : gt_O SX4 4 (b + 1) gm_0 σ17 := w1.keep okX4 (fun k q1 q2 => f17 (k) (by omega)) (by decide)
  have w4 : gt_O SX1 1 (b + 4) gm_0 σ17 := w4.keep okX1 (fun k q1 q2 => f17 (k) (by omega)) (by decide)
  have w10 : gt_O SX2 2 (b + 10) gm_0 σ17 := w10.keep okX2 (fun k q1 q2 => f17 (k) (by omega)) (by decide)
  have w13 : gt_O SX2 2 (b + 13) gm_0 σ17 := w13.keep okX2 (fun k q1 q2 => f17 (k) (by omega)) (by decide)
  have w16 : gt_O SX3 3 (b + 16) gm_0 σ17 := w16.keep okX3 (fun k q1 q2 => f17 (k) (by omega)) (by decide)
  have hF : gt_F b (b + 32) σ σ17 := fun k hk => (f17 k (by omega)).trans (hF k hk)
  have w21 : gt_O SX3 3 (b + 21) gm_0 σ17 := w17
  refine ga_putC (j := 5) C (by decide +kernel) tyX0 tyX0_ok nmX0 hσ rfl (by decide) (by decide +kernel) (Or.inr ⟨rfl, rfl, rfl⟩) (tyX0_ok 5 (by decide)) (fun ad => ⟨rfl, rfl⟩) (Nat.le_of_ble_eq_true rfl) dX0_init_67 (fun σ18 n18 s18 => ?_)
  have hσ : σ18 b = .inr (0, [.inr (b + 1), .inr (b + 4), .inr (b + 10), .inr (b + 13), .inr (b + 16), .inr (b + 21), .inr 0, .inr 0, .inl 0]) := n18
  have w1 : gt_O SX4 4 (b + 1) gm_0 σ18 := w1.keep okX4 (fun k q1 q2 => s18 (k) (by omega)) (by decide)
  have w4 : gt_O SX1 1 (b + 4) gm_0 σ18 := w4.keep okX1 (fun k q1 q2 => s18 (k) (by omega)) (by decide)
  have w10 : gt_O SX2 2 (b + 10) gm_0 σ18 := w10.keep okX2 (fun k q1 q2 => s18 (k) (by omega)) (by decide)
  have w13 : gt_O SX2 2 (b + 13) gm_0 σ18 := w13.keep okX2 (fun k q1 q2 => s18 (k) (by omega)) (by decide)
  have w16 : gt_O SX3 3 (b + 16) gm_0 σ18 := w16.keep okX3 (fun k q1 q2 => s18 (k) (by omega)) (by decide)
  have w21 : gt_O SX3 3 (b + 21) gm_0 σ18 := w21.keep okX3 (fun k q1 q2 => s18 (k) (by omega)) (by decide)
  have hF : gt_F b (b + 32) σ σ18 := fun k hk => (s18 k (by omega)).trans (hF k hk)
  refine ga_aload_n C dX0_init_70 rfl rfl hb0 ?_
  refine ga_new (Cn := RX3) (T := TX3) (N := 6) (ci := 3) (fs := [.inr 0, .inr 0, .inr 0, .inr 0, .inl 0, .inl 0]) C (by decide +kernel) tyX3 tyX3_ok (by decide +kernel) (by decide +kernel) (by decide +kernel) rfl (by decide) (by decide +kernel) ⟨Nat.le_of_ble_eq_true rfl, Nat.le_of_ble_eq_true rfl⟩ dX0_init_71 (fun σ19 n19 s19 => ?_)
  have hσ : σ19 b = .inr (0, [.inr (b + 1), .inr (b + 4), .inr (b + 10), .inr (b + 13), .inr (b + 16), .inr (b + 21), .inr 0, .inr 0, .inl 0]) := (s19 b (by omega)).trans hσ
  have w1 : gt_O SX4 4 (b + 1) gm_0 σ19 := w1.keep okX4 (fun k q1 q2 => s19 (k) (by omega)) (by decide)
  have w4 : gt_O SX1 1 (b + 4) gm_0 σ19 := w4.keep okX1 (fun k q1 q2 => s19 (k) (by omega)) (by decide)
  have w10 : gt_O SX2 2 (b + 10) gm_0 σ19 := w10.keep okX2 (fun k q1 q2 => s19 (k) (by omega)) (by decide)
  have w13 : gt_O SX2 2 (b + 13) gm_0 σ19 := w13.keep okX2 (fun k q1 q2 => s19 (k) (by omega)) (by decide)
  have w16 : gt_O SX3 3 (b + 16) gm_0 σ19 := w16.keep okX3 (fun k q1 q2 => s19 (k) (by omega)) (by decide)
  have w21 : gt_O SX3 3 (b + 21) gm_0 σ19 := w21.keep okX3 (fun k q1 q2 => s19 (k) (by omega)) (by decide)
  have hF : gt_F b (b + 32) σ σ19 := fun k hk => (s19 k (by omega)).trans (hF k hk)
  refine ga_dup C dX0_init_74 ?_
  refine ga_callIN (host := "DiagramCode") (As := []) C (eX3_init X.2.1 D cI cZ (b := b + 26) (by omega) n19) gX0_init_X3_init_n37 (by decide +kernel) (by decide +kernel) (by decide +kernel) rfl rfl rfl rfl (by decide +kernel) ⟨Nat.le_of_ble_eq_true rfl, Nat.le_of_ble_eq_true rfl⟩ ⟨Nat.le_of_ble_eq_true rfl, Nat.le_of_ble_eq_true rfl⟩ (by simp) (by omega) (Nat.le_of_ble_eq_true rfl) rfl dX0_init_75 (fun σ20 r20 hp20 => ?_)
  obtain ⟨⟨w20, f20⟩, e20⟩ := hp20
  subst e20
  have hσ : σ20 b = .inr (0, [.inr (b + 1), .inr (b + 4), .inr (b + 10), .inr (b + 13), .inr (b + 16), .inr (b + 21), .inr 0, .inr 0, .inl 0]) := (f20 b (by omega)).trans hσ
  have w1 : gt_O SX4 4 (b + 1) gm_0 σ20 := w1.keep okX4 (fun k q1 q2 => f20 (k) (by omega)) (by decide)
  have w4 : gt_O SX1 1 (b + 4) gm_0 σ20 := w4.keep okX1 (fun k q1 q2 => f20 (k) (by omega)) (by decide)
  have w10 : gt_O SX2 2 (b + 10) gm_0 σ20 := w10.keep okX2 (fun k q1 q2 => f20 (k) (by omega)) (by decide)
  have w13 : gt_O SX2 2 (b + 13) gm_0 σ20 := w13.keep okX2 (fun k q1 q2 => f20 (k) (by omega)) (by decide)
  have w16 : gt_O SX3 3 (b + 16) gm_0 σ20 := w16.keep okX3 (fun k q1 q2 => f20 (k) (by omega)) (by decide)
  have w21 : gt_O SX3 3 (b + 21) gm_0 σ20 := w21.keep okX3 (fun k q1 q2 => f20 (k) (by omega)) (by decide)
  have hF : gt_F b (b + 32) σ σ20 := fun k hk => (f20 k (by omega)).trans (hF k hk)
  have w26 : gt_O SX3 3 (b + 26) gm_0 σ20 := w20
  refine ga_putC (j := 6) C (by decide +kernel) tyX0 tyX0_ok nmX0 hσ rfl (by decide) (by decide +kernel) (Or.inr ⟨rfl, rfl, rfl⟩) (tyX0_ok 6 (by decide)) (fun ad => ⟨rfl, rfl⟩) (Nat.le_of_ble_eq_true rfl) dX0_init_78 (fun σ21 n21 s21 => ?_)
  have hσ : σ21 b = .inr (0, [.inr (b + 1), .inr (b + 4), .inr (b + 10), .inr (b + 13), .inr (b + 16), .inr (b + 21), .inr (b + 26), .inr 0, .inl 0]) := n21
  have w1 : gt_O SX4 4 (b + 1) gm_0 σ21 := w1.keep okX4 (fun k q1 q2 => s21 (k) (by omega)) (by decide)
  have w4 : gt_O SX1 1 (b + 4) gm_0 σ21 := w4.keep okX1 (fun k q1 q2 => s21 (k) (by omega)) (by decide)
  have w10 : gt_O SX2 2 (b + 10) gm_0 σ21 := w10.keep okX2 (fun k q1 q2 => s21 (k) (by omega)) (by decide)
  have w13 : gt_O SX2 2 (b + 13) gm_0 σ21 := w13.keep okX2 (fun k q1 q2 => s21 (k) (by omega)) (by decide)
  have w16 : gt_O SX3 3 (b + 16) gm_0 σ21 := w16.keep okX3 (fun k q1 q2 => s21 (k) (by omega)) (by decide)
  have w21 : gt_O SX3 3 (b + 21) gm_0 σ21 := w21.keep okX3 (fun k q1 q2 => s21 (k) (by omega)) (by decide)
  have w26 : gt_O SX3 3 (b + 26) gm_0 σ21 := w26.keep okX3 (fun k q1 q2 => s21 (k) (by omega)) (by decide)
  have hF : gt_F b (b + 32) σ σ21 := fun k hk => (s21 k (by omega)).trans (hF k hk)
  refine ga_aload_n C dX0_init_81 rfl rfl hb0 ?_
  refine ga_bipush C dX0_init_82 ⟨by decide, by decide⟩ (by decide) ?_
  refine ga_newi (n := 40) C (by decide +kernel) (by decide) ⟨Nat.le_of_ble_eq_true rfl, Nat.le_of_ble_eq_true rfl⟩ dX0_init_84 (fun σ22 n22 s22 => ?_)
  have hσ : σ22 b = .inr (0, [.inr (b + 1), .inr (b + 4), .inr (b + 10), .inr (b + 13), .inr (b + 16), .inr (b + 21), .inr (b + 26), .inr 0, .inl 0]) := (s22 b (by omega)).trans hσ
  have w1 : gt_O SX4 4 (b + 1) gm_0 σ22 := w1.keep okX4 (fun k q1 q2 => s22 (k) (by omega)) (by decide)
  have w4 : gt_O SX1 1 (b + 4) gm_0 σ22 := w4.keep okX1 (fun k q1 q2 => s22 (k) (by omega)) (by decide)
  have w10 : gt_O SX2 2 (b + 10) gm_0 σ22 := w10.keep okX2 (fun k q1 q2 => s22 (k) (by omega)) (by decide)
  have w13 : gt_O SX2 2 (b + 13) gm_0 σ22 := w13.keep okX2 (fun k q1 q2 => s22 (k) (by omega)) (by decide)
  have w16 : gt_O SX3 3 (b + 16) gm_0 σ22 := w16.keep okX3 (fun k q1 q2 => s22 (k) (by omega)) (by decide)
  have w21 : gt_O SX3 3 (b + 21) gm_0 σ22 := w21.keep okX3 (fun k q1 q2 => s22 (k) (by omega)) (by decide)
  have w26 : gt_O SX3 3 (b + 26) gm_0 σ22 := w26.keep okX3 (fun k q1 q2 => s22 (k) (by omega)) (by decide)
  have a31 : σ22 (b + 31) = .inl (false, 40, fun _ => 0) := n22
  have hF : gt_F b (b + 32) σ σ22 := fun k hk => (s22 k (by omega)).trans (hF k hk)
  refine ga_putC (j := 7) C (by decide +kernel) tyX0 tyX0_ok nmX0 hσ rfl (by decide) (by decide +kernel) (Or.inr ⟨rfl, rfl, rfl⟩) (tyX0_ok 7 (by decide)) (fun ad => ⟨rfl, rfl⟩) (Nat.le_of_ble_eq_true rfl) dX0_init_86 (fun σ23 n23 s23 => ?_)
  have hσ : σ23 b = .inr (0, [.inr (b + 1), .inr (b + 4), .inr (b + 10), .inr (b + 13), .inr (b + 16), .inr (b + 21), .inr (b + 26), .inr (b + 31), .inl 0]) := n23
  have w1 : gt_O SX4 4 (b + 1) gm_0 σ23 := w1.keep okX4 (fun k q1 q2 => s23 (k) (by omega)) (by decide)
  have w4 : gt_O SX1 1 (b + 4) gm_0 σ23 := w4.keep okX1 (fun k q1 q2 => s23 (k) (by omega)) (by decide)
  have w10 : gt_O SX2 2 (b + 10) gm_0 σ23 := w10.keep okX2 (fun k q1 q2 => s23 (k) (by omega)) (by decide)
  have w13 : gt_O SX2 2 (b + 13) gm_0 σ23 := w13.keep okX2 (fun k q1 q2 => s23 (k) (by omega)) (by decide)
  have w16 : gt_O SX3 3 (b + 16) gm_0 σ23 := w16.keep okX3 (fun k q1 q2 => s23 (k) (by omega)) (by decide)
  have w21 : gt_O SX3 3 (b + 21) gm_0 σ23 := w21.keep okX3 (fun k q1 q2 => s23 (k) (by omega)) (by decide)
  have w26 : gt_O SX3 3 (b + 26) gm_0 σ23 := w26.keep okX3 (fun k q1 q2 => s23 (k) (by omega)) (by decide)
  have a31 : σ23 (b + 31) = .inl (false, 40, fun _ => 0) := (s23 (b + 31) (by omega)).trans a31
  have hF : gt_F b (b + 32) σ σ23 := fun k hk => (s23 k (by omega)).trans (hF k hk)
  refine ga_aload_n C dX0_init_89 rfl rfl hb0 ?_
  refine ga_iconst C dX0_init_90 ⟨by decide, by decide⟩ ?_
  refine ga_putC (j := 8) C (by decide +kernel) tyX0 tyX0_ok nmX0 hσ rfl (by decide) (by decide +kernel) (Or.inl rfl) (tyX0_ok 8 (by decide)) (fun ad => ⟨rfl, rfl⟩) (Nat.le_of_ble_eq_true rfl) dX0_init_91 (fun σ24 n24 s24 => ?_)
  have hσ : σ24 b = .inr (0, [.inr (b + 1), .inr (b + 4), .inr (b + 10), .inr (b + 13), .inr (b + 16), .inr (b + 21), .inr (b + 26), .inr (b + 31), .inl (-1)]) := n24
  have w1 : gt_O SX4 4 (b + 1) gm_0 σ24 := w1.keep okX4 (fun k q1 q2 => s24 (k) (by omega)) (by decide)
  have w4 : gt_O SX1 1 (b + 4) gm_0 σ24 := w4.keep okX1 (fun k q1 q2 => s24 (k) (by omega)) (by decide)
  have w10 : gt_O SX2 2 (b + 10) gm_0 σ24 := w10.keep okX2 (fun k q1 q2 => s24 (k) (by omega)) (by decide)
  have w13 : gt_O SX2 2 (b + 13) gm_0 σ24 := w13.keep okX2 (fun k q1 q2 => s24 (k) (by omega)) (by decide)
  have w16 : gt_O SX3 3 (b + 16) gm_0 σ24 := w16.keep okX3 (fun k q1 q2 => s24 (k) (by omega)) (by decide)
  have w21 : gt_O SX3 3 (b + 21) gm_0 σ24 := w21.keep okX3 (fun k q1 q2 => s24 (k) (by omega)) (by decide)
  have w26 : gt_O SX3 3 (b + 26) gm_0 σ24 := w26.keep okX3 (fun k q1 q2 => s24 (k) (by omega)) (by decide)
  have a31 : σ24 (b + 31) = .inl (false, 40, fun _ => 0) := (s24 (b + 31) (by omega)).trans a31
  have hF : gt_F b (b + 32) σ σ24 := fun k hk => (s24 k (by omega)).trans (hF k hk)
  have hO : gt_O SX0 0 b gm_w8 σ24 := by
    refine ⟨hσ, fun j o n => ?_⟩
    rcases j with _ | _ | _ | _ | _ | _ | _ | _ | _ | j
    · exact ⟨fun h => (by cases (show some (3, 1, 0) = some (1, o, n) from h)), fun h => (by cases (show some (3, 1, 0) = some (2, o, n) from h))⟩
    · exact ⟨fun h => (by cases (show some (3, 4, 0) = some (1, o, n) from h)), fun h => (by cases (show some (3, 4, 0) = some (2, o, n) from h))⟩
    · exact ⟨fun h => (by cases (show some (3, 10, 0) = some (1, o, n) from h)), fun h => (by cases (show some (3, 10, 0) = some (2, o, n) from h))⟩
    · exact ⟨fun h => (by cases (show some (3, 13, 0) = some (1, o, n) from h)), fun h => (by cases (show some (3, 13, 0) = some (2, o, n) from h))⟩
    · exact ⟨fun h => (by cases (show some (3, 16, 0) = some (1, o, n) from h)), fun h => (by cases (show some (3, 16, 0) = some (2, o, n) from h))⟩
    · exact ⟨fun h => (by cases (show some (3, 21, 0) = some (1, o, n) from h)), fun h => (by cases (show some (3, 21, 0) = some (2, o, n) from h))⟩
    · exact ⟨fun h => (by cases (show some (3, 26, 0) = some (1, o, n) from h)), fun h => (by cases (show some (3, 26, 0) = some (2, o, n) from h))⟩
    · exact ⟨fun h => (by cases (show some (1, 31, 40) = some (1, o, n) from h); exact a31), fun h => (by cases (show some (1, 31, 40) = some (2, o, n) from h))⟩
    · exact ⟨fun h => (by cases (show some (0, 0, 0) = some (1, o, n) from h)), fun h => (by cases (show some (0, 0, 0) = some (2, o, n) from h))⟩
    · exact ⟨fun h => (by cases (show (none : Option (Nat × Nat × Nat)) = some (1, o, n) from h)), fun h => (by cases (show (none : Option (Nat × Nat × Nat)) = some (2, o, n) from h))⟩
  exact hret _ _ _ dX0_init_94 ⟨⟨⟨w1, w4, w10, w13, w16, w21, w26, hO⟩, hF⟩, rfl⟩
