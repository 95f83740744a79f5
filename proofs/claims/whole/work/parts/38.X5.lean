-- X5_smooth: smooth(I)Z
def fX5_smooth (T : gx_Dc) (l1 : Int) : Option (gx_Dc × Int) :=
  (fX4_has T.2.1.1 l1).bind (fun (q8 : Int) => (if q8 = 0 then (if ((0 : Int) = 0 ∨ (0 : Int) = 1) then some (((T.1.1, T.1.2.1, T.1.2.2.1, T.1.2.2.2.1, T.1.2.2.2.2.1, T.1.2.2.2.2.2.1, T.1.2.2.2.2.2.2.1, T.1.2.2.2.2.2.2.2), (T.2.1.1, T.2.1.2.1, T.2.1.2.2.1, T.2.1.2.2.2.1, T.2.1.2.2.2.2.1, T.2.1.2.2.2.2.2.1, T.2.1.2.2.2.2.2.2.1, T.2.1.2.2.2.2.2.2.2), T.2.2), (0 : Int)) else none) else (fX4_smoothAway T.2.1.1 l1).bind (fun (q29 : gt_T × Int) => (if (-2147483648 ≤ (T.2.2.1 2) + q29.2 ∧ (T.2.2.1 2) + q29.2 < 2147483648) then (fX0_survey (q29.1, T.2.1.2.1, T.2.1.2.2.1, T.2.1.2.2.2.1, T.2.1.2.2.2.2.1, T.2.1.2.2.2.2.2.1, T.2.1.2.2.2.2.2.2.1, T.2.1.2.2.2.2.2.2.2)).bind (fun (q40 : gx_Ch × Int) => (if ((1 : Int) = 0 ∨ (1 : Int) = 1) then some (((T.1.1, T.1.2.1, T.1.2.2.1, T.1.2.2.2.1, T.1.2.2.2.2.1, T.1.2.2.2.2.2.1, T.1.2.2.2.2.2.2.1, T.1.2.2.2.2.2.2.2), (q40.1.1, q40.1.2.1, q40.1.2.2.1, q40.1.2.2.2.1, q40.1.2.2.2.2.1, q40.1.2.2.2.2.2.1, q40.1.2.2.2.2.2.2.1, q40.1.2.2.2.2.2.2.2), ((va_up T.2.2.1 2 ((T.2.2.1 2) + q29.2)), T.2.2.2)), (1 : Int)) else none)) else none))))
theorem iX5_smooth_X0 : ∀ w ∈ u_ws RX0 TX0 9, w ∈ wsX5_smooth := by decide +kernel
theorem iX5_smooth_X5 : ∀ w ∈ u_ws RX5 TX5 4, w ∈ wsX5_smooth := by decide +kernel
theorem kX5_smooth_30 : Cond.fieldLink yX5_smooth.cls 30 (TX0 0).1 (TX0 0).2.1 (TX0 0).2.2.1 ∈ wsX5_smooth := by decide +kernel
theorem kX5_smooth_16 : Cond.fieldLink yX5_smooth.cls 16 (TX5 1).1 (TX5 1).2.1 (TX5 1).2.2.1 ∈ wsX5_smooth := by decide +kernel
theorem kX5_smooth_19 : Cond.fieldLink yX5_smooth.cls 19 (TX5 2).1 (TX5 2).2.1 (TX5 2).2.2.1 ∈ wsX5_smooth := by decide +kernel
set_option maxHeartbeats 4000000 in
theorem gX5_smooth_0 {X : ga_X} {D : va_G} {cI cZ : ClassId} {K : Nat} {r : Nat} {σ0 : ga_S} {o1 o2 : Nat} {res : gx_Dc × Int} (C : ga_C X cX5_smooth yX5_smooth wsX5_smooth [] (gt_rm 6 127) (D, vwCl, cI, cZ) 2) (hRet : ∀ (pc : Nat) (lv : Nat → Option ga_V) (σ' : ga_S) (z : Int), decode cX5_smooth pc = .ok (.ireturn, 1) → (z = 0 ∨ z = 1) → z = res.2 → (gx_D r o1 o2 res.1 σ' ∧ gt_F r (r + 65) σ0 σ') → ga_G X 0 0 K pc lv [.inl z] σ') (hr0 : r ≠ 0) (ho : (o1 = 1 ∧ o2 = 33) ∨ (o1 = 33 ∧ o2 = 1)) {T : gx_Dc} {σ : ga_S} {l1 : Int} {lv : Nat → Option ga_V} (hW : gx_D r o1 o2 T σ) (hF : gt_F r (r + 65) σ0 σ) (hl0 : lv 0 = some (.inr r)) (hl1 : lv 1 = some (.inl l1)) (h : fX5_smooth T l1 = some res) : ga_G X 0 0 K 0 lv [] σ := by
  unfold fX5_smooth at h
  refine ga_aload_n C dX5_smooth_0 rfl hl0 hr0 ?_
  refine gt_geta C (iX5_smooth_X5) hW.1 1 rfl rfl (by decide) kX5_smooth_16 dX5_smooth_1 ?_
  refine gt_geta C (iX5_smooth_X0) hW.2.2.2.2.2.2.2.2.2 0 rfl rfl (by decide) kX5_smooth_30 dX5_smooth_4 ?_
  refine ga_iload_n C dX5_smooth_7 rfl hl1 ?_
  obtain ⟨q8, hq, h⟩ := Option.bind_eq_some_iff.mp h
  refine gt_cVi (n := 1) (st := []) C (eX4_has X.2.1 D cI cZ K (Nat.succ_ne_zero _) hW.2.2.1 hq) gX5_smooth_X4_has rfl (by decide +kernel) rfl ⟨Nat.le_of_ble_eq_true rfl, Nat.le_of_ble_eq_true rfl⟩ hW.2.2.1.1 rfl rfl (Nat.le_of_ble_eq_true rfl) rfl dX5_smooth_8 (fun σ' hp => ?_)
  subst hp
  refine ga_if_ne (tgt := 16) C dX5_smooth_11 (by decide) (fun c1 => ?_) (fun c1 => ?_)
  · have h := gt_in h c1
    refine ga_aload_n C dX5_smooth_16 rfl hl0 hr0 ?_
    refine ga_dup C dX5_smooth_17 ?_
    refine gt_geti C (iX5_smooth_X5) hW.1 2 rfl rfl (by decide) kX5_smooth_19 dX5_smooth_18 ?_
    refine ga_aload_n C dX5_smooth_21 rfl hl0 hr0 ?_
    refine gt_geta C (iX5_smooth_X5) hW.1 1 rfl rfl (by decide) kX5_smooth_16 dX5_smooth_22 ?_
    refine gt_geta C (iX5_smooth_X0) hW.2.2.2.2.2.2.2.2.2 0 rfl rfl (by decide) kX5_smooth_30 dX5_smooth_25 ?_
    refine ga_iload_n C dX5_smooth_28 rfl hl1 ?_
    obtain ⟨q29, hq, h⟩ := Option.bind_eq_some_iff.mp h
    refine gt_cVi (n := 1) (st := [.inl (T.2.2.1 2), .inr r]) C (eX4_smoothAway X.2.1 D cI cZ K (Nat.succ_ne_zero _) hW.2.2.1 hq) gX5_smooth_X4_smoothAway rfl (by decide +kernel) rfl ⟨Nat.le_of_ble_eq_true rfl, Nat.le_of_ble_eq_true rfl⟩ hW.2.2.1.1 rfl rfl (Nat.le_of_ble_eq_true rfl) rfl dX5_smooth_29 (fun σ' hp => ?_)
    obtain ⟨hw, hf⟩ := hp
    have hW := gx_DH ho hW (gx_W0 hW.2.2 hw hf) (gt_F.rf.tr hf (by omega) (by omega))
    have hF := hF.tr hf (by omega) (by omega)
    clear hf
    obtain ⟨hg, h⟩ := gt_gd h
    have g32_0 := hg
    refine ga_iadd C dX5_smooth_32 g32_0 ?_
    refine gx_putd C ho (iX5_smooth_X5) hW hF 2 (by decide) kX5_smooth_19 dX5_smooth_33 (fun σ hW hF => ?_)
    refine ga_aload_n C dX5_smooth_36 rfl hl0 hr0 ?_
    refine gt_geta C (iX5_smooth_X5) hW.1 1 rfl rfl (by decide) kX5_smooth_16 dX5_smooth_37 ?_
    obtain ⟨q40, hq, h⟩ := Option.bind_eq_some_iff.mp h
    refine gt_cVi (n := 0) (st := []) C (eX0_survey X.2.1 D cI cZ K (by omega) hW.2.2 hq) gX5_smooth_X0_survey rfl (by decide +kernel) rfl ⟨Nat.le_of_ble_eq_true rfl, Nat.le_of_ble_eq_true rfl⟩ hW.2.2.2.2.2.2.2.2.2.1 rfl rfl (Nat.le_of_ble_eq_true rfl) rfl dX5_smooth_40 (fun σ' hp => ?_)
    obtain ⟨hw, hf⟩ := hp
    have hW := gx_DH ho hW hw hf
    have hF := hF.tr hf (by omega) (by omega)
    clear hf
    obtain ⟨hg, h⟩ := gt_gd h
    have g45_0 := hg
    refine ga_pop C dX5_smooth_43 ?_
    refine ga_iconst C dX5_smooth_44 ⟨by decide, by decide⟩ ?_
    cases h
    exact hRet _ _ _ _ dX5_smooth_45 g45_0 rfl ⟨hW, hF⟩
  · have h := gt_ip h c1
    obtain ⟨hg, h⟩ := gt_gd h
    have g15_0 := hg
    refine ga_iconst C dX5_smooth_14 ⟨by decide, by decide⟩ ?_
    cases h
    exact hRet _ _ _ _ dX5_smooth_15 g15_0 rfl ⟨hW, hF⟩
set_option maxHeartbeats 4000000 in
theorem eX5_smooth (l : Launch) (D : va_G) (cI cZ : ClassId) (K : Nat) {r : Nat} (hr0 : r ≠ 0) {o1 o2 : Nat} (ho : (o1 = 1 ∧ o2 = 33) ∨ (o1 = 33 ∧ o2 = 1)) {σ : ga_S} {T : gx_Dc} (hW : gx_D r o1 o2 T σ) {l1 : Int} {res : gx_Dc × Int} (h : fX5_smooth T l1 = some res) : ga_Ev l (D, vwCl, cI, cZ) yX5_smooth wsX5_smooth (gt_rm 6 127) [] 0 0 K [.inr r, .inl l1] σ (fun σ' rv => (gx_D r o1 o2 res.1 σ' ∧ gt_F r (r + 65) σ σ') ∧ rv = some (.inl res.2)) := by
  refine ga_ofZ (by decide +kernel) rfl gt_hcl (Nat.le_of_ble_eq_true rfl) (fun X hX C hret => ?_)
  exact gX5_smooth_0 C (fun pc lv σ' z d h01 hz hp => hret pc lv σ' z d h01 ⟨hp, by rw [hz]⟩) hr0 ho hW gt_F.rf rfl rfl h
