-- X4_smoothAway: smoothAway(I)I
def fX4_smoothAway (T : gt_T) (l1 : Int) : Option (gt_T × Int) :=
  (fX4_has T l1).bind (fun (q2 : Int) => (if q2 = 0 then some (T, (0 : Int)) else (fX4_lowerIn l1).bind (fun (q16 : Int) => (fX4_label T q16).bind (fun (q19 : Int) => (fX4_upperOut T l1).bind (fun (q25 : Int) => (fX4_label T q25).bind (fun (q28 : Int) => (fX4_joinEdges T q19 q28).bind (fun (q31 : gt_T × Int) => (if (-2147483648 ≤ (0 : Int) + q31.2 ∧ (0 : Int) + q31.2 < 2147483648) then (fX4_upperIn q31.1 l1).bind (fun (q41 : Int) => (fX4_label q31.1 q41).bind (fun (q44 : Int) => (fX4_lowerOut l1).bind (fun (q49 : Int) => (fX4_label q31.1 q49).bind (fun (q52 : Int) => (fX4_joinEdges q31.1 q44 q52).bind (fun (q55 : gt_T × Int) => (if (-2147483648 ≤ ((0 : Int) + q31.2) + q55.2 ∧ ((0 : Int) + q31.2) + q55.2 < 2147483648) then (fX4_dropCrossing q55.1 l1).bind (fun (q62 : gt_T) => some (q62, ((0 : Int) + q31.2) + q55.2)) else none)))))) else none))))))))
set_option maxHeartbeats 4000000 in
theorem gX4_smoothAway_0 {X : ga_X} {D : va_G} {cI cZ : ClassId} {K : Nat} {r : Nat} {σ0 : ga_S} {res : gt_T × Int} (C : ga_C X cX4_smoothAway yX4_smoothAway wsX4_smoothAway [] (gt_rm 3 63) (D, vwCl, cI, cZ) 3) (hRet : ∀ (pc : Nat) (lv : Nat → Option ga_V) (σ' : ga_S) (z : Int), decode cX4_smoothAway pc = .ok (.ireturn, 1) → z = res.2 → (gt_O SX4 4 r res.1 σ' ∧ gt_F r (r + 3) σ0 σ') → ga_G X 0 0 K pc lv [.inl z] σ') (hr0 : r ≠ 0) {T : gt_T} {σ : ga_S} {l1 : Int} {lv : Nat → Option ga_V} (hW : gt_O SX4 4 r T σ) (hF : gt_F r (r + 3) σ0 σ) (hl0 : lv 0 = some (.inr r)) (hl1 : lv 1 = some (.inl l1)) (h : fX4_smoothAway T l1 = some res) : ga_G X 0 0 K 0 lv [] σ := by
  unfold fX4_smoothAway at h
  refine ga_aload_n C dX4_smoothAway_0 rfl hl0 hr0 ?_
  refine ga_iload_n C dX4_smoothAway_1 rfl hl1 ?_
  obtain ⟨q2, hq, h⟩ := Option.bind_eq_some_iff.mp h
  refine gt_cVi (n := 1) (st := []) C (eX4_has X.2.1 D cI cZ K hr0 hW hq) gX4_smoothAway_X4_has rfl (by decide +kernel) rfl ⟨Nat.le_of_ble_eq_true rfl, Nat.le_of_ble_eq_true rfl⟩ hW.1 rfl rfl (Nat.le_of_ble_eq_true rfl) rfl dX4_smoothAway_2 (fun σ' hp => ?_)
  subst hp
  refine ga_if_ne (tgt := 10) C dX4_smoothAway_5 (by decide) (fun c1 => ?_) (fun c1 => ?_)
  · have h := gt_in h c1
    refine ga_iconst C dX4_smoothAway_10 ⟨by decide, by decide⟩ ?_
    refine ga_istore_n C dX4_smoothAway_11 rfl (by decide) ?_
    refine ga_iload_n C dX4_smoothAway_12 rfl gt_us ?_
    refine ga_aload_n C dX4_smoothAway_13 rfl (gt_un (by decide) hl0) hr0 ?_
    refine ga_aload_n C dX4_smoothAway_14 rfl (gt_un (by decide) hl0) hr0 ?_
    refine ga_iload_n C dX4_smoothAway_15 rfl (gt_un (by decide) hl1) ?_
    obtain ⟨q16, hq, h⟩ := Option.bind_eq_some_iff.mp h
    refine gt_cSi (n := 1) (st := [.inr r, .inr r, .inl (0 : Int)]) C (eX4_lowerIn X.2.1 D cI cZ K hq) gX4_smoothAway_X4_lowerIn rfl (by decide +kernel) rfl ⟨Nat.le_of_ble_eq_true rfl, Nat.le_of_ble_eq_true rfl⟩ (Nat.le_of_ble_eq_true rfl) rfl dX4_smoothAway_16 (fun σ' hp => ?_)
    subst hp
    obtain ⟨q19, hq, h⟩ := Option.bind_eq_some_iff.mp h
    refine gt_cVi (n := 1) (st := [.inr r, .inl (0 : Int)]) C (eX4_label X.2.1 D cI cZ K hr0 hW hq) gX4_smoothAway_X4_label rfl (by decide +kernel) rfl ⟨Nat.le_of_ble_eq_true rfl, Nat.le_of_ble_eq_true rfl⟩ hW.1 rfl rfl (Nat.le_of_ble_eq_true rfl) rfl dX4_smoothAway_19 (fun σ' hp => ?_)
    subst hp
    refine ga_aload_n C dX4_smoothAway_22 rfl (gt_un (by decide) hl0) hr0 ?_
    refine ga_aload_n C dX4_smoothAway_23 rfl (gt_un (by decide) hl0) hr0 ?_
    refine ga_iload_n C dX4_smoothAway_24 rfl (gt_un (by decide) hl1) ?_
    obtain ⟨q25, hq, h⟩ := Option.bind_eq_some_iff.mp h
    refine gt_cVi (n := 1) (st := [.inr r, .inl q19, .inr r, .inl (0 : Int)]) C (eX4_upperOut X.2.1 D cI cZ K hr0 hW hq) gX4_smoothAway_X4_upperOut rfl (by decide +kernel) rfl ⟨Nat.le_of_ble_eq_true rfl, Nat.le_of_ble_eq_true rfl⟩ hW.1 rfl rfl (Nat.le_of_ble_eq_true rfl) rfl dX4_smoothAway_25 (fun σ' hp => ?_)
    subst hp
    obtain ⟨q28, hq, h⟩ := Option.bind_eq_some_iff.mp h
    refine gt_cVi (n := 1) (st := [.inl q19, .inr r, .inl (0 : Int)]) C (eX4_label X.2.1 D cI cZ K hr0 hW hq) gX4_smoothAway_X4_label rfl (by decide +kernel) rfl ⟨Nat.le_of_ble_eq_true rfl, Nat.le_of_ble_eq_true rfl⟩ hW.1 rfl rfl (Nat.le_of_ble_eq_true rfl) rfl dX4_smoothAway_28 (fun σ' hp => ?_)
    subst hp
    obtain ⟨q31, hq, h⟩ := Option.bind_eq_some_iff.mp h
    refine gt_cVi (n := 2) (st := [.inl (0 : Int)]) C (eX4_joinEdges X.2.1 D cI cZ K hr0 hW hq) gX4_smoothAway_X4_joinEdges rfl (by decide +kernel) rfl ⟨Nat.le_of_ble_eq_true rfl, Nat.le_of_ble_eq_true rfl⟩ hW.1 rfl rfl (Nat.le_of_ble_eq_true rfl) rfl dX4_smoothAway_31 (fun σ' hp => ?_)
    obtain ⟨hw, hf⟩ := hp
    have hF := hF.tr hf (Nat.le_refl _) (Nat.le_refl _)
    have hW := hw
    clear hf
    obtain ⟨hg, h⟩ := gt_gd h
    have g34_0 := hg
    refine ga_iadd C dX4_smoothAway_34 g34_0 ?_
    refine ga_istore_n C dX4_smoothAway_35 rfl (by decide) ?_
    refine ga_iload_n C dX4_smoothAway_36 rfl gt_us ?_
    refine ga_aload_n C dX4_smoothAway_37 rfl (gt_un (by decide) (gt_un (by decide) hl0)) hr0 ?_
    refine ga_aload_n C dX4_smoothAway_38 rfl (gt_un (by decide) (gt_un (by decide) hl0)) hr0 ?_
    refine ga_aload_n C dX4_smoothAway_39 rfl (gt_un (by decide) (gt_un (by decide) hl0)) hr0 ?_
    refine ga_iload_n C dX4_smoothAway_40 rfl (gt_un (by decide) (gt_un (by decide) hl1)) ?_
    obtain ⟨q41, hq, h⟩ := Option.bind_eq_some_iff.mp h
    refine gt_cVi (n := 1) (st := [.inr r, .inr r, .inl ((0 : Int) + q31.2)]) C (eX4_upperIn X.2.1 D cI cZ K hr0 hW hq) gX4_smoothAway_X4_upperIn rfl (by decide +kernel) rfl ⟨Nat.le_of_ble_eq_true rfl, Nat.le_of_ble_eq_true rfl⟩ hW.1 rfl rfl (Nat.le_of_ble_eq_true rfl) rfl dX4_smoothAway_41 (fun σ' hp => ?_)
    subst hp
    obtain ⟨q44, hq, h⟩ := Option.bind_eq_some_iff.mp h
    refine gt_cVi (n := 1) (st := [.inr r, .inl ((0 : Int) + q31.2)]) C (eX4_label X.2.1 D cI cZ K hr0 hW hq) gX4_smoothAway_X4_label rfl (by decide +kernel) rfl ⟨Nat.le_of_ble_eq_true rfl, Nat.le_of_ble_eq_true rfl⟩ hW.1 rfl rfl (Nat.le_of_ble_eq_true rfl) rfl dX4_smoothAway_44 (fun σ' hp => ?_)
    subst hp
    refine ga_aload_n C dX4_smoothAway_47 rfl (gt_un (by decide) (gt_un (by decide) hl0)) hr0 ?_
    refine ga_iload_n C dX4_smoothAway_48 rfl (gt_un (by decide) (gt_un (by decide) hl1)) ?_
    obtain ⟨q49, hq, h⟩ := Option.bind_eq_some_iff.mp h
    refine gt_cSi (n := 1) (st := [.inr r, .inl q44, .inr r, .inl ((0 : Int) + q31.2)]) C (eX4_lowerOut X.2.1 D cI cZ K hq) gX4_smoothAway_X4_lowerOut rfl (by decide +kernel) rfl ⟨Nat.le_of_ble_eq_true rfl, Nat.le_of_ble_eq_true rfl⟩ (Nat.le_of_ble_eq_true rfl) rfl dX4_smoothAway_49 (fun σ' hp => ?_)
    subst hp
    obtain ⟨q52, hq, h⟩ := Option.bind_eq_some_iff.mp h
    refine gt_cVi (n := 1) (st := [.inl q44, .inr r, .inl ((0 : Int) + q31.2)]) C (eX4_label X.2.1 D cI cZ K hr0 hW hq) gX4_smoothAway_X4_label rfl (by decide +kernel) rfl ⟨Nat.le_of_ble_eq_true rfl, Nat.le_of_ble_eq_true rfl⟩ hW.1 rfl rfl (Nat.le_of_ble_eq_true rfl) rfl dX4_smoothAway_52 (fun σ' hp => ?_)
    subst hp
    obtain ⟨q55, hq, h⟩ := Option.bind_eq_some_iff.mp h
    refine gt_cVi (n := 2) (st := [.inl ((0 : Int) + q31.2)]) C (eX4_joinEdges X.2.1 D cI cZ K hr0 hW hq) gX4_smoothAway_X4_joinEdges rfl (by decide +kernel) rfl ⟨Nat.le_of_ble_eq_true rfl, Nat.le_of_ble_eq_true rfl⟩ hW.1 rfl rfl (Nat.le_of_ble_eq_true rfl) rfl dX4_smoothAway_55 (fun σ' hp => ?_)
    obtain ⟨hw, hf⟩ := hp
    have hF := hF.tr hf (Nat.le_refl _) (Nat.le_refl _)
    have hW := hw
    clear hf
    obtain ⟨hg, h⟩ := gt_gd h
    have g58_0 := hg
    refine ga_iadd C dX4_smoothAway_58 g58_0 ?_
    refine ga_istore_n C dX4_smoothAway_59 rfl (by decide) ?_
    refine ga_aload_n C dX4_smoothAway_60 rfl (gt_un (by decide) (gt_un (by decide) (gt_un (by decide) hl0))) hr0 ?_
    refine ga_iload_n C dX4_smoothAway_61 rfl (gt_un (by decide) (gt_un (by decide) (gt_un (by decide) hl1))) ?_
    obtain ⟨q62, hq, h⟩ := Option.bind_eq_some_iff.mp h
    refine gt_cVv (n := 1) (st := []) C (eX4_dropCrossing X.2.1 D cI cZ K hr0 hW hq) gX4_smoothAway_X4_dropCrossing rfl (by decide +kernel) rfl ⟨Nat.le_of_ble_eq_true rfl, Nat.le_of_ble_eq_true rfl⟩ hW.1 rfl rfl (Nat.le_of_ble_eq_true rfl) rfl dX4_smoothAway_62 (fun σ' hp => ?_)
    obtain ⟨hw, hf⟩ := hp
    have hF := hF.tr hf (Nat.le_refl _) (Nat.le_refl _)
    have hW := hw
    clear hf
    refine ga_iload_n C dX4_smoothAway_65 rfl gt_us ?_
    cases h
    exact hRet _ _ _ _ dX4_smoothAway_66 rfl ⟨hW, hF⟩
  · have h := gt_ip h c1
    refine ga_iconst C dX4_smoothAway_8 ⟨by decide, by decide⟩ ?_
    cases h
    exact hRet _ _ _ _ dX4_smoothAway_9 rfl ⟨hW, hF⟩
set_option maxHeartbeats 4000000 in
theorem eX4_smoothAway (l : Launch) (D : va_G) (cI cZ : ClassId) (K : Nat) {r : Nat} (hr0 : r ≠ 0) {σ : ga_S} {T : gt_T} (hW : gt_O SX4 4 r T σ) {l1 : Int} {res : gt_T × Int} (h : fX4_smoothAway T l1 = some res) : ga_Ev l (D, vwCl, cI, cZ) yX4_smoothAway wsX4_smoothAway (gt_rm 3 63) [] 0 0 K [.inr r, .inl l1] σ (fun σ' rv => (gt_O SX4 4 r res.1 σ' ∧ gt_F r (r + 3) σ σ') ∧ rv = some (.inl res.2)) := by
  refine ga_ofI (by decide +kernel) rfl gt_hcl (Nat.le_of_ble_eq_true rfl) (fun X hX C hret => ?_)
  exact gX4_smoothAway_0 C (fun pc lv σ' z d hz hp => hret pc lv σ' z d ⟨hp, by rw [hz]⟩) hr0 hW gt_F.rf rfl rfl h
