set_option maxHeartbeats 4000000 in
set_option maxRecDepth 20000 in
theorem eX5_init (l : Launch) (D : va_G) (cI cZ : ClassId) {b : Nat} (hb0 : b ≠ 0) {σ : ga_S} (hσ : σ b = .inr (5, [.inr 0, .inr 0, .inl 0, .inl 0])) : ga_Ev l (D, vwCl, cI, cZ) yX5_init wsX5_init (gm_rm 3 60 64 3408) gm_nw5 64 3408 b [.inr b] σ (fun σ' rv => (gx_D (b) 1 33 gm_dc σ' ∧ gt_F b (b + 65) σ σ') ∧ rv = none) := by
  refine ga_ofV (by decide +kernel) rfl gt_hcl (Nat.le_of_ble_eq_true rfl) (fun X hX C hret => ?_)
  have hF : gt_F b (b + 65) σ σ := gt_F.rf
  refine ga_aload_n C dX5_init_0 rfl rfl hb0 ?_
  refine ga_objI C (by decide +kernel) (by decide +kernel) (by decide +kernel) hb0 (by decide) ⟨by decide, by decide⟩ dX5_init_1 ?_
  refine ga_aload_n C dX5_init_4 rfl rfl hb0 ?_
  refine ga_new (Cn := RX0) (T := TX0) (N := 9) (ci := 0) (fs := [.inr 0, .inr 0, .inr 0, .inr 0, .inr 0, .inr 0, .inr 0, .inr 0, .inl 0]) C (by decide +kernel) tyX0 tyX0_ok (by decide +kernel) (by decide +kernel) (by decide +kernel) rfl (by decide) (by decide +kernel) ⟨Nat.le_of_ble_eq_true rfl, Nat.le_of_ble_eq_true rfl⟩ dX5_init_5 (fun σ1 n1 s1 => ?_)
  have hσ : σ1 b = .inr (5, [.inr 0, .inr 0, .inl 0, .inl 0]) := (s1 b (by omega)).trans hσ
  have hF : gt_F b (b + 65) σ σ1 := fun k hk => (s1 k (by omega)).trans (hF k hk)
  refine ga_dup C dX5_init_8 ?_
  refine ga_callIN (host := "DiagramCode") (As := []) C (eX0_init X.2.1 D cI cZ (b := b + 1) (by omega) n1) gX5_init_X0_init_n11 (by decide +kernel) (by decide +kernel) (by decide +kernel) rfl rfl rfl rfl (by decide +kernel) ⟨Nat.le_of_ble_eq_true rfl, Nat.le_of_ble_eq_true rfl⟩ ⟨Nat.le_of_ble_eq_true rfl, Nat.le_of_ble_eq_true rfl⟩ (by decide +kernel) (by omega) (Nat.le_of_ble_eq_true rfl) rfl dX5_init_9 (fun σ2 r2 hp2 => ?_)
  obtain ⟨⟨w2, f2⟩, e2⟩ := hp2
  subst e2
  have hσ : σ2 b = .inr (5, [.inr 0, .inr 0, .inl 0, .inl 0]) := (f2 b (by omega)).trans hσ
  have hF : gt_F b (b + 65) σ σ2 := fun k hk => (f2 k (by omega)).trans (hF k hk)
  have w1 : gx_W (b + 1) gm_ch σ2 := w2
  refine ga_putC (j := 0) C (by decide +kernel) tyX5 tyX5_ok nmX5 hσ rfl (by decide) (by decide +kernel) (Or.inl rfl) (tyX5_ok 0 (by decide)) (fun ad => ⟨rfl, rfl⟩) (Nat.le_of_ble_eq_true rfl) dX5_init_12 (fun σ3 n3 s3 => ?_)
  have hσ : σ3 b = .inr (5, [.inr (b + 1), .inr 0, .inl 0, .inl 0]) := n3
  have w1 : gx_W (b + 1) gm_ch σ3 := gm_Wk w1 (fun k q1 q2 => s3 (k) (by omega))
  have hF : gt_F b (b + 65) σ σ3 := fun k hk => (s3 k (by omega)).trans (hF k hk)
  refine ga_aload_n C dX5_init_15 rfl rfl hb0 ?_
  refine ga_new (Cn := RX0) (T := TX0) (N := 9) (ci := 0) (fs := [.inr 0, .inr 0, .inr 0, .inr 0, .inr 0, .inr 0, .inr 0, .inr 0, .inl 0]) C (by decide +kernel) tyX0 tyX0_ok (by decide +kernel) (by decide +kernel) (by decide +kernel) rfl (by decide) (by decide +kernel) ⟨Nat.le_of_ble_eq_true rfl, Nat.le_of_ble_eq_true rfl⟩ dX5_init_16 (fun σ4 n4 s4 => ?_)
  have hσ : σ4 b = .inr (5, [.inr (b + 1), .inr 0, .inl 0, .inl 0]) := (s4 b (by omega)).trans hσ
  have w1 : gx_W (b + 1) gm_ch σ4 := gm_Wk w1 (fun k q1 q2 => s4 (k) (by omega))
  have hF : gt_F b (b + 65) σ σ4 := fun k hk => (s4 k (by omega)).trans (hF k hk)
  refine ga_dup C dX5_init_19 ?_
  refine ga_callIN (host := "DiagramCode") (As := []) C (eX0_init X.2.1 D cI cZ (b := b + 33) (by omega) n4) gX5_init_X0_init_n11 (by decide +kernel) (by decide +kernel) (by decide +kernel) rfl rfl rfl rfl (by decide +kernel) ⟨Nat.le_of_ble_eq_true rfl, Nat.le_of_ble_eq_true rfl⟩ ⟨Nat.le_of_ble_eq_true rfl, Nat.le_of_ble_eq_true rfl⟩ (by decide +kernel) (by omega) (Nat.le_of_ble_eq_true rfl) rfl dX5_init_20 (fun σ5 r5 hp5 => ?_)
  obtain ⟨⟨w5, f5⟩, e5⟩ := hp5
  subst e5
  have hσ : σ5 b = .inr (5, [.inr (b + 1), .inr 0, .inl 0, .inl 0]) := (f5 b (by omega)).trans hσ
  have w1 : gx_W (b + 1) gm_ch σ5 := gm_Wk w1 (fun k q1 q2 => f5 (k) (by omega))
  have hF : gt_F b (b + 65) σ σ5 := fun k hk => (f5 k (by omega)).trans (hF k hk)
  have w33 : gx_W (b + 33) gm_ch σ5 := w5
  refine ga_putC (j := 1) C (by decide +kernel) tyX5 tyX5_ok nmX5 hσ rfl (by decide) (by decide +kernel) (Or.inl rfl) (tyX5_ok 1 (by decide)) (fun ad => ⟨rfl, rfl⟩) (Nat.le_of_ble_eq_true rfl) dX5_init_23 (fun σ6 n6 s6 => ?_)
  have hσ : σ6 b = .inr (5, [.inr (b + 1), .inr (b + 33), .inl 0, .inl 0]) := n6
  have w1 : gx_W (b + 1) gm_ch σ6 := gm_Wk w1 (fun k q1 q2 => s6 (k) (by omega))
  have w33 : gx_W (b + 33) gm_ch σ6 := gm_Wk w33 (fun k q1 q2 => s6 (k) (by omega))
  have hF : gt_F b (b + 65) σ σ6 := fun k hk => (s6 k (by omega)).trans (hF k hk)
  refine ga_aload_n C dX5_init_26 rfl rfl hb0 ?_
  refine ga_iconst C dX5_init_27 ⟨by decide, by decide⟩ ?_
  refine ga_putC (j := 2) C (by decide +kernel) tyX5 tyX5_ok nmX5 hσ rfl (by decide) (by decide +kernel) (Or.inl rfl) (tyX5_ok 2 (by decide)) (fun ad => ⟨rfl, rfl⟩) (Nat.le_of_ble_eq_true rfl) dX5_init_28 (fun σ7 n7 s7 => ?_)
  have hσ : σ7 b = .inr (5, [.inr (b + 1), .inr (b + 33), .inl 0, .inl 0]) := n7
  have w1 : gx_W (b + 1) gm_ch σ7 := gm_Wk w1 (fun k q1 q2 => s7 (k) (by omega))
  have w33 : gx_W (b + 33) gm_ch σ7 := gm_Wk w33 (fun k q1 q2 => s7 (k) (by omega))
  have hF : gt_F b (b + 65) σ σ7 := fun k hk => (s7 k (by omega)).trans (hF k hk)
  refine ga_aload_n C dX5_init_31 rfl rfl hb0 ?_
  refine ga_iconst C dX5_init_32 ⟨by decide, by decide⟩ ?_
  refine ga_putC (j := 3) C (by decide +kernel) tyX5 tyX5_ok nmX5 hσ rfl (by decide) (by decide +kernel) (Or.inl rfl) (tyX5_ok 3 (by decide)) (fun ad => ⟨rfl, rfl⟩) (Nat.le_of_ble_eq_true rfl) dX5_init_33 (fun σ8 n8 s8 => ?_)
  have hσ : σ8 b = .inr (5, [.inr (b + 1), .inr (b + 33), .inl 0, .inl (-1)]) := n8
  have w1 : gx_W (b + 1) gm_ch σ8 := gm_Wk w1 (fun k q1 q2 => s8 (k) (by omega))
  have w33 : gx_W (b + 33) gm_ch σ8 := gm_Wk w33 (fun k q1 q2 => s8 (k) (by omega))
  have hF : gt_F b (b + 65) σ σ8 := fun k hk => (s8 k (by omega)).trans (hF k hk)
  have hO : gt_O (SX5 1 33) 5 b gm_w3 σ8 := by
    refine ⟨hσ, fun j o n => ?_⟩
    rcases j with _ | _ | _ | _ | j
    · exact ⟨fun h => (by cases (show some (3, 1, 0) = some (1, o, n) from h)), fun h => (by cases (show some (3, 1, 0) = some (2, o, n) from h))⟩
    · exact ⟨fun h => (by cases (show some (3, 33, 0) = some (1, o, n) from h)), fun h => (by cases (show some (3, 33, 0) = some (2, o, n) from h))⟩
    · exact ⟨fun h => (by cases (show some (0, 0, 0) = some (1, o, n) from h)), fun h => (by cases (show some (0, 0, 0) = some (2, o, n) from h))⟩
    · exact ⟨fun h => (by cases (show some (0, 0, 0) = some (1, o, n) from h)), fun h => (by cases (show some (0, 0, 0) = some (2, o, n) from h))⟩
    · exact ⟨fun h => (by cases (show (none : Option (Nat × Nat × Nat)) = some (1, o, n) from h)), fun h => (by cases (show (none : Option (Nat × Nat × Nat)) = some (2, o, n) from h))⟩
  exact hret _ _ _ dX5_init_36 ⟨⟨⟨hO, w1, w33⟩, hF⟩, rfl⟩
