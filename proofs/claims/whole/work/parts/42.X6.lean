-- X6_look: look(II)I
def fX6_look_22 (T : gt_T) : Option (gt_T × Int) :=
  some (T, (-1000 : Int))
def fX6_look_93 (T : gt_T) (s0 : Int) : Option (gt_T × Int) :=
  some (T, s0)
def fX6_look_88 (T : gt_T) (s0 s1 : Int) : Option (gt_T × Int) :=
  (if (-2147483648 ≤ s0 + s1 ∧ s0 + s1 < 2147483648) ∧ (0 ≤ (s0 + s1) ∧ (s0 + s1) < 80) then (fX6_componentOf T (T.2 10 (s0 + s1).toNat)).bind (fun (q90 : gt_T × Int) => fX6_look_93 q90.1 q90.2) else none)
def fX6_look (T : gt_T) (l1 l2 : Int) : Option (gt_T × Int) :=
  (if l1 < 0 then fX6_look_22 T else (if (T.1 5) ≤ l1 then fX6_look_22 T else (if l2 < 0 then fX6_look_22 T else (if l2 ≤ (7 : Int) then (if (4 : Int) ≤ l2 then (if l2 = (4 : Int) then (if (0 ≤ l1 ∧ l1 < 20) then fX6_look_93 T (T.2 9 l1.toNat) else none) else (if l2 = (5 : Int) then (fX6_pieceOf T l1).bind (fun (q63 : gt_T × Int) => fX6_look_93 q63.1 q63.2) else (if (-2147483648 ≤ (4 : Int) * l1 ∧ (4 : Int) * l1 < 2147483648) then (if l2 = (6 : Int) then fX6_look_88 T ((4 : Int) * l1) (0 : Int) else fX6_look_88 T ((4 : Int) * l1) (1 : Int)) else none))) else (if (-2147483648 ≤ (4 : Int) * l1 ∧ (4 : Int) * l1 < 2147483648) ∧ (-2147483648 ≤ ((4 : Int) * l1) + l2 ∧ ((4 : Int) * l1) + l2 < 2147483648) ∧ (0 ≤ (((4 : Int) * l1) + l2) ∧ (((4 : Int) * l1) + l2) < 80) then some (T, T.2 10 (((4 : Int) * l1) + l2).toNat) else none)) else fX6_look_22 T))))
theorem iX6_look_X6 : ∀ w ∈ u_ws RX6 TX6 23, w ∈ wsX6_look := by decide +kernel
theorem kX6_look_20 : Cond.fieldLink yX6_look.cls 20 (TX6 9).1 (TX6 9).2.1 (TX6 9).2.2.1 ∈ wsX6_look := by decide +kernel
theorem kX6_look_23 : Cond.fieldLink yX6_look.cls 23 (TX6 10).1 (TX6 10).2.1 (TX6 10).2.2.1 ∈ wsX6_look := by decide +kernel
theorem kX6_look_57 : Cond.fieldLink yX6_look.cls 57 (TX6 5).1 (TX6 5).2.1 (TX6 5).2.2.1 ∈ wsX6_look := by decide +kernel
set_option maxHeartbeats 4000000 in
theorem gX6_look_22 {X : ga_X} {D : va_G} {cI cZ : ClassId} {K : Nat} {r : Nat} {σ0 : ga_S} {res : gt_T × Int} (C : ga_C X cX6_look yX6_look wsX6_look [] (gt_rm 5 111) (D, vwCl, cI, cZ) 3) (hRet : ∀ (pc : Nat) (lv : Nat → Option ga_V) (σ' : ga_S) (z : Int), decode cX6_look pc = .ok (.ireturn, 1) → z = res.2 → (gt_O SX6 6 r res.1 σ' ∧ gt_F r (r + 14) σ0 σ') → ga_G X 0 0 K pc lv [.inl z] σ') (hr0 : r ≠ 0) {T : gt_T} {σ : ga_S} {lv : Nat → Option ga_V} (hW : gt_O SX6 6 r T σ) (hF : gt_F r (r + 14) σ0 σ) (h : fX6_look_22 T = some res) : ga_G X 0 0 K 22 lv [] σ := by
  unfold fX6_look_22 at h
  refine ga_sipush C dX6_look_22 ⟨by decide, by decide⟩ (by decide) ?_
  cases h
  exact hRet _ _ _ _ dX6_look_25 rfl ⟨hW, hF⟩
set_option maxHeartbeats 4000000 in
theorem gX6_look_93 {X : ga_X} {D : va_G} {cI cZ : ClassId} {K : Nat} {r : Nat} {σ0 : ga_S} {res : gt_T × Int} (C : ga_C X cX6_look yX6_look wsX6_look [] (gt_rm 5 111) (D, vwCl, cI, cZ) 3) (hRet : ∀ (pc : Nat) (lv : Nat → Option ga_V) (σ' : ga_S) (z : Int), decode cX6_look pc = .ok (.ireturn, 1) → z = res.2 → (gt_O SX6 6 r res.1 σ' ∧ gt_F r (r + 14) σ0 σ') → ga_G X 0 0 K pc lv [.inl z] σ') (hr0 : r ≠ 0) {T : gt_T} {σ : ga_S} {s0 : Int} {lv : Nat → Option ga_V} (hW : gt_O SX6 6 r T σ) (hF : gt_F r (r + 14) σ0 σ) (h : fX6_look_93 T s0 = some res) : ga_G X 0 0 K 93 lv [.inl s0] σ := by
  unfold fX6_look_93 at h
  cases h
  exact hRet _ _ _ _ dX6_look_93 rfl ⟨hW, hF⟩
set_option maxHeartbeats 4000000 in
theorem gX6_look_88 {X : ga_X} {D : va_G} {cI cZ : ClassId} {K : Nat} {r : Nat} {σ0 : ga_S} {res : gt_T × Int} (C : ga_C X cX6_look yX6_look wsX6_look [] (gt_rm 5 111) (D, vwCl, cI, cZ) 3) (hRet : ∀ (pc : Nat) (lv : Nat → Option ga_V) (σ' : ga_S) (z : Int), decode cX6_look pc = .ok (.ireturn, 1) → z = res.2 → (gt_O SX6 6 r res.1 σ' ∧ gt_F r (r + 14) σ0 σ') → ga_G X 0 0 K pc lv [.inl z] σ') (hr0 : r ≠ 0) {T : gt_T} {σ : ga_S} {s0 s1 : Int} {lv : Nat → Option ga_V} (hW : gt_O SX6 6 r T σ) (hF : gt_F r (r + 14) σ0 σ) (h : fX6_look_88 T s0 s1 = some res) : ga_G X 0 0 K 88 lv [.inl s1, .inl s0, .inr (r + 4), .inr r] σ := by
  unfold fX6_look_88 at h
  obtain ⟨hg, h⟩ := gt_gd h
  obtain ⟨g88_0, g89_1⟩ := hg
  refine ga_iadd C dX6_look_88 g88_0 ?_
  refine gt_iald C hW 10 rfl g89_1.1 g89_1.2 dX6_look_89 ?_
  obtain ⟨q90, hq, h⟩ := Option.bind_eq_some_iff.mp h
  refine gt_cVi (n := 1) (st := []) C (eX6_componentOf X.2.1 D cI cZ K hr0 hW hq) gX6_look_X6_componentOf rfl (by decide +kernel) rfl ⟨Nat.le_of_ble_eq_true rfl, Nat.le_of_ble_eq_true rfl⟩ hW.1 rfl rfl (Nat.le_of_ble_eq_true rfl) rfl dX6_look_90 (fun σ' hp => ?_)
  obtain ⟨hw, hf⟩ := hp
  have hF := hF.tr hf (Nat.le_refl _) (Nat.le_refl _)
  have hW := hw
  clear hf
  exact gX6_look_93 C hRet hr0 hW hF h
set_option maxHeartbeats 4000000 in
theorem gX6_look_0 {X : ga_X} {D : va_G} {cI cZ : ClassId} {K : Nat} {r : Nat} {σ0 : ga_S} {res : gt_T × Int} (C : ga_C X cX6_look yX6_look wsX6_look [] (gt_rm 5 111) (D, vwCl, cI, cZ) 3) (hRet : ∀ (pc : Nat) (lv : Nat → Option ga_V) (σ' : ga_S) (z : Int), decode cX6_look pc = .ok (.ireturn, 1) → z = res.2 → (gt_O SX6 6 r res.1 σ' ∧ gt_F r (r + 14) σ0 σ') → ga_G X 0 0 K pc lv [.inl z] σ') (hr0 : r ≠ 0) {T : gt_T} {σ : ga_S} {l1 l2 : Int} {lv : Nat → Option ga_V} (hW : gt_O SX6 6 r T σ) (hF : gt_F r (r + 14) σ0 σ) (hl0 : lv 0 = some (.inr r)) (hl1 : lv 1 = some (.inl l1)) (hl2 : lv 2 = some (.inl l2)) (h : fX6_look T l1 l2 = some res) : ga_G X 0 0 K 0 lv [] σ := by
  unfold fX6_look at h
  refine ga_iload_n C dX6_look_0 rfl hl1 ?_
  refine ga_if_lt (tgt := 22) C dX6_look_1 (by decide) (fun c1 => ?_) (fun c1 => ?_)
  · have h := gt_ip h c1
    exact gX6_look_22 C hRet hr0 hW hF h
  · have h := gt_in h c1
    refine ga_iload_n C dX6_look_4 rfl hl1 ?_
    refine ga_aload_n C dX6_look_5 rfl hl0 hr0 ?_
    refine gt_geti C (iX6_look_X6) hW 5 rfl rfl (by decide) kX6_look_57 dX6_look_6 ?_
    refine ga_icmp_ge (tgt := 22) C dX6_look_9 (by decide) (fun c1 => ?_) (fun c1 => ?_)
    · have h := gt_ip h c1
      exact gX6_look_22 C hRet hr0 hW hF h
    · have h := gt_in h c1
      refine ga_iload_n C dX6_look_12 rfl hl2 ?_
      refine ga_if_lt (tgt := 22) C dX6_look_13 (by decide) (fun c1 => ?_) (fun c1 => ?_)
      · have h := gt_ip h c1
        exact gX6_look_22 C hRet hr0 hW hF h
      · have h := gt_in h c1
        refine ga_iload_n C dX6_look_16 rfl hl2 ?_
        refine ga_bipush C dX6_look_17 ⟨by decide, by decide⟩ (by decide) ?_
        refine ga_icmp_le (tgt := 26) C dX6_look_19 (by decide) (fun c1 => ?_) (fun c1 => ?_)
        · have h := gt_ip h c1
          refine ga_iload_n C dX6_look_26 rfl hl2 ?_
          refine ga_iconst C dX6_look_27 ⟨by decide, by decide⟩ ?_
          refine ga_icmp_ge (tgt := 42) C dX6_look_28 (by decide) (fun c1 => ?_) (fun c1 => ?_)
          · have h := gt_ip h c1
            refine ga_iload_n C dX6_look_42 rfl hl2 ?_
            refine ga_iconst C dX6_look_43 ⟨by decide, by decide⟩ ?_
            refine ga_icmp_ne (tgt := 56) C dX6_look_44 (by decide) (fun c1 => ?_) (fun c1 => ?_)
            · have h := gt_in h c1
              refine ga_iload_n C dX6_look_56 rfl hl2 ?_
              refine ga_iconst C dX6_look_57 ⟨by decide, by decide⟩ ?_
              refine ga_icmp_ne (tgt := 69) C dX6_look_58 (by decide) (fun c1 => ?_) (fun c1 => ?_)
              · have h := gt_in h c1
                obtain ⟨hg, h⟩ := gt_gd h
                have g76_0 := hg
                refine ga_aload_n C dX6_look_69 rfl hl0 hr0 ?_
                refine ga_aload_n C dX6_look_70 rfl hl0 hr0 ?_
                refine gt_geta C (iX6_look_X6) hW 10 rfl rfl (by decide) kX6_look_23 dX6_look_71 ?_
                refine ga_iconst C dX6_look_74 ⟨by decide, by decide⟩ ?_
                refine ga_iload_n C dX6_look_75 rfl hl1 ?_
                refine ga_imul C dX6_look_76 g76_0 ?_
                refine ga_iload_n C dX6_look_77 rfl hl2 ?_
                refine ga_bipush C dX6_look_78 ⟨by decide, by decide⟩ (by decide) ?_
                refine ga_icmp_ne (tgt := 87) C dX6_look_80 (by decide) (fun c1 => ?_) (fun c1 => ?_)
                · have h := gt_in h c1
                  refine ga_iconst C dX6_look_87 ⟨by decide, by decide⟩ ?_
                  exact gX6_look_88 C hRet hr0 hW hF h
                · have h := gt_ip h c1
                  refine ga_iconst C dX6_look_83 ⟨by decide, by decide⟩ ?_
                  refine ga_goto (tgt := 88) C dX6_look_84 (by decide) ?_
                  exact gX6_look_88 C hRet hr0 hW hF h
              · have h := gt_ip h c1
                refine ga_aload_n C dX6_look_61 rfl hl0 hr0 ?_
                refine ga_iload_n C dX6_look_62 rfl hl1 ?_
                obtain ⟨q63, hq, h⟩ := Option.bind_eq_some_iff.mp h
                refine gt_cVi (n := 1) (st := []) C (eX6_pieceOf X.2.1 D cI cZ K hr0 hW hq) gX6_look_X6_pieceOf rfl (by decide +kernel) rfl ⟨Nat.le_of_ble_eq_true rfl, Nat.le_of_ble_eq_true rfl⟩ hW.1 rfl rfl (Nat.le_of_ble_eq_true rfl) rfl dX6_look_63 (fun σ' hp => ?_)
                obtain ⟨hw, hf⟩ := hp
                have hF := hF.tr hf (Nat.le_refl _) (Nat.le_refl _)
                have hW := hw
                clear hf
                refine ga_goto (tgt := 93) C dX6_look_66 (by decide) ?_
                exact gX6_look_93 C hRet hr0 hW hF h
            · have h := gt_ip h c1
              obtain ⟨hg, h⟩ := gt_gd h
              have g52_0 := hg
              refine ga_aload_n C dX6_look_47 rfl hl0 hr0 ?_
              refine gt_geta C (iX6_look_X6) hW 9 rfl rfl (by decide) kX6_look_20 dX6_look_48 ?_
              refine ga_iload_n C dX6_look_51 rfl hl1 ?_
              refine gt_iald C hW 9 rfl g52_0.1 g52_0.2 dX6_look_52 ?_
              refine ga_goto (tgt := 93) C dX6_look_53 (by decide) ?_
              exact gX6_look_93 C hRet hr0 hW hF h
          · have h := gt_in h c1
            obtain ⟨hg, h⟩ := gt_gd h
            obtain ⟨g37_0, g39_1, g40_2⟩ := hg
            refine ga_aload_n C dX6_look_31 rfl hl0 hr0 ?_
            refine gt_geta C (iX6_look_X6) hW 10 rfl rfl (by decide) kX6_look_23 dX6_look_32 ?_
            refine ga_iconst C dX6_look_35 ⟨by decide, by decide⟩ ?_
            refine ga_iload_n C dX6_look_36 rfl hl1 ?_
            refine ga_imul C dX6_look_37 g37_0 ?_
            refine ga_iload_n C dX6_look_38 rfl hl2 ?_
            refine ga_iadd C dX6_look_39 g39_1 ?_
            refine gt_iald C hW 10 rfl g40_2.1 g40_2.2 dX6_look_40 ?_
            cases h
            exact hRet _ _ _ _ dX6_look_41 rfl ⟨hW, hF⟩
        · have h := gt_in h c1
          exact gX6_look_22 C hRet hr0 hW hF h
set_option maxHeartbeats 4000000 in
theorem eX6_look (l : Launch) (D : va_G) (cI cZ : ClassId) (K : Nat) {r : Nat} (hr0 : r ≠ 0) {σ : ga_S} {T : gt_T} (hW : gt_O SX6 6 r T σ) {l1 l2 : Int} {res : gt_T × Int} (h : fX6_look T l1 l2 = some res) : ga_Ev l (D, vwCl, cI, cZ) yX6_look wsX6_look (gt_rm 5 111) [] 0 0 K [.inr r, .inl l1, .inl l2] σ (fun σ' rv => (gt_O SX6 6 r res.1 σ' ∧ gt_F r (r + 14) σ σ') ∧ rv = some (.inl res.2)) := by
  refine ga_ofI (by decide +kernel) rfl gt_hcl (Nat.le_of_ble_eq_true rfl) (fun X hX C hret => ?_)
  exact gX6_look_0 C (fun pc lv σ' z d hz hp => hret pc lv σ' z d ⟨hp, by rw [hz]⟩) hr0 hW gt_F.rf rfl rfl rfl h
-- X6_faceAt: faceAt(II)I
def fX6_faceAt (T : gt_T) (l1 l2 : Int) : Option (gt_T × Int) :=
  (fX6_findFaces T).bind (fun (q1 : gt_T) => (fX6_rowOf q1 l1).bind (fun (q11 : Int) => (if (-2147483648 ≤ (2 : Int) * q11 ∧ (2 : Int) * q11 < 2147483648) ∧ (-2147483648 ≤ ((2 : Int) * q11) + l2 ∧ ((2 : Int) * q11) + l2 < 2147483648) ∧ (0 ≤ (((2 : Int) * q11) + l2) ∧ (((2 : Int) * q11) + l2) < 80) then some (q1, q1.2 22 (((2 : Int) * q11) + l2).toNat) else none)))
theorem iX6_faceAt_X6 : ∀ w ∈ u_ws RX6 TX6 23, w ∈ wsX6_faceAt := by decide +kernel
theorem kX6_faceAt_51 : Cond.fieldLink yX6_faceAt.cls 51 (TX6 22).1 (TX6 22).2.1 (TX6 22).2.2.1 ∈ wsX6_faceAt := by decide +kernel
set_option maxHeartbeats 4000000 in
theorem gX6_faceAt_0 {X : ga_X} {D : va_G} {cI cZ : ClassId} {K : Nat} {r : Nat} {σ0 : ga_S} {res : gt_T × Int} (C : ga_C X cX6_faceAt yX6_faceAt wsX6_faceAt [] (gt_rm 4 92) (D, vwCl, cI, cZ) 3) (hRet : ∀ (pc : Nat) (lv : Nat → Option ga_V) (σ' : ga_S) (z : Int), decode cX6_faceAt pc = .ok (.ireturn, 1) → z = res.2 → (gt_O SX6 6 r res.1 σ' ∧ gt_F r (r + 14) σ0 σ') → ga_G X 0 0 K pc lv [.inl z] σ') (hr0 : r ≠ 0) {T : gt_T} {σ : ga_S} {l1 l2 : Int} {lv : Nat → Option ga_V} (hW : gt_O SX6 6 r T σ) (hF : gt_F r (r + 14) σ0 σ) (hl0 : lv 0 = some (.inr r)) (hl1 : lv 1 = some (.inl l1)) (hl2 : lv 2 = some (.inl l2)) (h : fX6_faceAt T l1 l2 = some res) : ga_G X 0 0 K 0 lv [] σ := by
  unfold fX6_faceAt at h
  refine ga_aload_n C dX6_faceAt_0 rfl hl0 hr0 ?_
  obtain ⟨q1, hq, h⟩ := Option.bind_eq_some_iff.mp h
  refine gt_cVv (n := 0) (st := []) C (eX6_findFaces X.2.1 D cI cZ K hr0 hW hq) gX6_faceAt_X6_findFaces rfl (by decide +kernel) rfl ⟨Nat.le_of_ble_eq_true rfl, Nat.le_of_ble_eq_true rfl⟩ hW.1 rfl rfl (Nat.le_of_ble_eq_true rfl) rfl dX6_faceAt_1 (fun σ' hp => ?_)
  obtain ⟨hw, hf⟩ := hp
  have hF := hF.tr hf (Nat.le_refl _) (Nat.le_refl _)
  have hW := hw
  clear hf
  refine ga_aload_n C dX6_faceAt_4 rfl hl0 hr0 ?_
  refine gt_geta C (iX6_faceAt_X6) hW 22 rfl rfl (by decide) kX6_faceAt_51 dX6_faceAt_5 ?_
  refine ga_iconst C dX6_faceAt_8 ⟨by decide, by decide⟩ ?_
  refine ga_aload_n C dX6_faceAt_9 rfl hl0 hr0 ?_
  refine ga_iload_n C dX6_faceAt_10 rfl hl1 ?_
  obtain ⟨q11, hq, h⟩ := Option.bind_eq_some_iff.mp h
  refine gt_cVi (n := 1) (st := [.inl (2 : Int), .inr (r + 13)]) C (eX6_rowOf X.2.1 D cI cZ K hr0 hW hq) gX6_faceAt_X6_rowOf rfl (by decide +kernel) rfl ⟨Nat.le_of_ble_eq_true rfl, Nat.le_of_ble_eq_true rfl⟩ hW.1 rfl rfl (Nat.le_of_ble_eq_true rfl) rfl dX6_faceAt_11 (fun σ' hp => ?_)
  subst hp
  obtain ⟨hg, h⟩ := gt_gd h
  obtain ⟨g14_0, g16_1, g17_2⟩ := hg
  refine ga_imul C dX6_faceAt_14 g14_0 ?_
  refine ga_iload_n C dX6_faceAt_15 rfl hl2 ?_
  refine ga_iadd C dX6_faceAt_16 g16_1 ?_
  refine gt_iald C hW 22 rfl g17_2.1 g17_2.2 dX6_faceAt_17 ?_
  cases h
  exact hRet _ _ _ _ dX6_faceAt_18 rfl ⟨hW, hF⟩
set_option maxHeartbeats 4000000 in
theorem eX6_faceAt (l : Launch) (D : va_G) (cI cZ : ClassId) (K : Nat) {r : Nat} (hr0 : r ≠ 0) {σ : ga_S} {T : gt_T} (hW : gt_O SX6 6 r T σ) {l1 l2 : Int} {res : gt_T × Int} (h : fX6_faceAt T l1 l2 = some res) : ga_Ev l (D, vwCl, cI, cZ) yX6_faceAt wsX6_faceAt (gt_rm 4 92) [] 0 0 K [.inr r, .inl l1, .inl l2] σ (fun σ' rv => (gt_O SX6 6 r res.1 σ' ∧ gt_F r (r + 14) σ σ') ∧ rv = some (.inl res.2)) := by
  refine ga_ofI (by decide +kernel) rfl gt_hcl (Nat.le_of_ble_eq_true rfl) (fun X hX C hret => ?_)
  exact gX6_faceAt_0 C (fun pc lv σ' z d hz hp => hret pc lv σ' z d ⟨hp, by rw [hz]⟩) hr0 hW gt_F.rf rfl rfl rfl h
-- X6_edge: edge(II)I
def fX6_edge_29 (T : gt_T) : Option (gt_T × Int) :=
  some (T, (-1 : Int))
def fX6_edge_14 (T : gt_T) (l1 l2 s0 : Int) : Option (gt_T × Int) :=
  (if s0 < 0 then fX6_edge_29 T else (if l2 < 0 then fX6_edge_29 T else (if l2 ≤ (8 : Int) then (fX6_placeOf T l1 (0 : Int)).bind (fun (q34 : Int) => (if l2 = 0 then some (T, Int.tdiv s0 (4 : Int)) else (if l2 = 1 then (if 0 ≤ s0 then some (T, s0 % (4 : Int)) else none) else (if l2 = 2 then some (T, Int.tdiv q34 (4 : Int)) else (if l2 = 3 then (if 0 ≤ q34 then some (T, q34 % (4 : Int)) else none) else (if l2 = 4 then (fX6_next T l1).bind (fun (q108 : Int) => some (T, q108)) else (if l2 = 5 then (fX6_componentOf T l1).bind (fun (q114 : gt_T × Int) => some (q114.1, q114.2)) else (if l2 = 6 then (fX6_faceAt T l1 (0 : Int)).bind (fun (q121 : gt_T × Int) => some (q121.1, q121.2)) else (if l2 = 7 then (fX6_faceAt T l1 (1 : Int)).bind (fun (q128 : gt_T × Int) => some (q128.1, q128.2)) else (fX6_arcOf T l1).bind (fun (q134 : Int) => some (T, q134))))))))))) else fX6_edge_29 T)))
def fX6_edge (T : gt_T) (l1 l2 : Int) : Option (gt_T × Int) :=
  (if l1 ≤ 0 then fX6_edge_14 T l1 l2 (-1 : Int) else (fX6_placeOf T l1 (1 : Int)).bind (fun (q7 : Int) => fX6_edge_14 T l1 l2 q7))
set_option maxHeartbeats 4000000 in
theorem gX6_edge_29 {X : ga_X} {D : va_G} {cI cZ : ClassId} {K : Nat} {r : Nat} {σ0 : ga_S} {res : gt_T × Int} (C : ga_C X cX6_edge yX6_edge wsX6_edge [] (gt_rm 5 114) (D, vwCl, cI, cZ) 5) (hRet : ∀ (pc : Nat) (lv : Nat → Option ga_V) (σ' : ga_S) (z : Int), decode cX6_edge pc = .ok (.ireturn, 1) → z = res.2 → (gt_O SX6 6 r res.1 σ' ∧ gt_F r (r + 14) σ0 σ') → ga_G X 0 0 K pc lv [.inl z] σ') (hr0 : r ≠ 0) {T : gt_T} {σ : ga_S} {lv : Nat → Option ga_V} (hW : gt_O SX6 6 r T σ) (hF : gt_F r (r + 14) σ0 σ) (h : fX6_edge_29 T = some res) : ga_G X 0 0 K 29 lv [] σ := by
  unfold fX6_edge_29 at h
  refine ga_iconst C dX6_edge_29 ⟨by decide, by decide⟩ ?_
  cases h
  exact hRet _ _ _ _ dX6_edge_30 rfl ⟨hW, hF⟩
set_option maxHeartbeats 4000000 in
theorem gX6_edge_14 {X : ga_X} {D : va_G} {cI cZ : ClassId} {K : Nat} {r : Nat} {σ0 : ga_S} {res : gt_T × Int} (C : ga_C X cX6_edge yX6_edge wsX6_edge [] (gt_rm 5 114) (D, vwCl, cI, cZ) 5) (hRet : ∀ (pc : Nat) (lv : Nat → Option ga_V) (σ' : ga_S) (z : Int), decode cX6_edge pc = .ok (.ireturn, 1) → z = res.2 → (gt_O SX6 6 r res.1 σ' ∧ gt_F r (r + 14) σ0 σ') → ga_G X 0 0 K pc lv [.inl z] σ') (hr0 : r ≠ 0) {T : gt_T} {σ : ga_S} {l1 l2 s0 : Int} {lv : Nat → Option ga_V} (hW : gt_O SX6 6 r T σ) (hF : gt_F r (r + 14) σ0 σ) (hl0 : lv 0 = some (.inr r)) (hl1 : lv 1 = some (.inl l1)) (hl2 : lv 2 = some (.inl l2)) (h : fX6_edge_14 T l1 l2 s0 = some res) : ga_G X 0 0 K 14 lv [.inl s0] σ := by
  unfold fX6_edge_14 at h
  refine ga_istore_n C dX6_edge_14 rfl (by decide) ?_
  refine ga_iload_n C dX6_edge_15 rfl gt_us ?_
  refine ga_if_lt (tgt := 29) C dX6_edge_16 (by decide) (fun c1 => ?_) (fun c1 => ?_)
  · have h := gt_ip h c1
    exact gX6_edge_29 C hRet hr0 hW hF h
  · have h := gt_in h c1
    refine ga_iload_n C dX6_edge_19 rfl (gt_un (by decide) hl2) ?_
    refine ga_if_lt (tgt := 29) C dX6_edge_20 (by decide) (fun c1 => ?_) (fun c1 => ?_)
    · have h := gt_ip h c1
      exact gX6_edge_29 C hRet hr0 hW hF h
    · have h := gt_in h c1
      refine ga_iload_n C dX6_edge_23 rfl (gt_un (by decide) hl2) ?_
      refine ga_bipush C dX6_edge_24 ⟨by decide, by decide⟩ (by decide) ?_
      refine ga_icmp_le (tgt := 31) C dX6_edge_26 (by decide) (fun c1 => ?_) (fun c1 => ?_)
      · have h := gt_ip h c1
        refine ga_aload_n C dX6_edge_31 rfl (gt_un (by decide) hl0) hr0 ?_
        refine ga_iload_n C dX6_edge_32 rfl (gt_un (by decide) hl1) ?_
        refine ga_iconst C dX6_edge_33 ⟨by decide, by decide⟩ ?_
        obtain ⟨q34, hq, h⟩ := Option.bind_eq_some_iff.mp h
        refine gt_cVi (n := 2) (st := []) C (eX6_placeOf X.2.1 D cI cZ K hr0 hW hq) gX6_edge_X6_placeOf rfl (by decide +kernel) rfl ⟨Nat.le_of_ble_eq_true rfl, Nat.le_of_ble_eq_true rfl⟩ hW.1 rfl rfl (Nat.le_of_ble_eq_true rfl) rfl dX6_edge_34 (fun σ' hp => ?_)
        subst hp
        refine ga_istore C dX6_edge_37 (by decide) ?_
        refine ga_iload_n C dX6_edge_39 rfl (gt_un (by decide) (gt_un (by decide) hl2)) ?_
        by_cases c1 : l2 = 0
        · have h := gt_ip h c1
          refine ga_tabIn (tgt := 88) C dX6_edge_40 (by rw [c1]; decide) (by rw [c1]; decide) (by rw [c1]; rfl) (by decide) ?_
          refine ga_iload_n C dX6_edge_88 rfl (gt_un (by decide) gt_us) ?_
          refine ga_iconst C dX6_edge_89 ⟨by decide, by decide⟩ ?_
          refine ga_idiv C dX6_edge_90 (by decide) ?_
          cases h
          exact hRet _ _ _ _ dX6_edge_91 rfl ⟨hW, hF⟩
        · have h := gt_in h c1
          have c100 := c1
          by_cases c1 : l2 = 1
          · have h := gt_ip h c1
            refine ga_tabIn (tgt := 92) C dX6_edge_40 (by rw [c1]; decide) (by rw [c1]; decide) (by rw [c1]; rfl) (by decide) ?_
            obtain ⟨hg, h⟩ := gt_gd h
            have g94_0 := hg
            refine ga_iload_n C dX6_edge_92 rfl (gt_un (by decide) gt_us) ?_
            refine ga_iconst C dX6_edge_93 ⟨by decide, by decide⟩ ?_
            refine ga_irem C dX6_edge_94 (by decide) g94_0 ?_
            cases h
            exact hRet _ _ _ _ dX6_edge_95 rfl ⟨hW, hF⟩
          · have h := gt_in h c1
            have c101 := c1
            by_cases c1 : l2 = 2
            · have h := gt_ip h c1
              refine ga_tabIn (tgt := 96) C dX6_edge_40 (by rw [c1]; decide) (by rw [c1]; decide) (by rw [c1]; rfl) (by decide) ?_
              refine ga_iload C dX6_edge_96 gt_us ?_
              refine ga_iconst C dX6_edge_98 ⟨by decide, by decide⟩ ?_
              refine ga_idiv C dX6_edge_99 (by decide) ?_
              cases h
              exact hRet _ _ _ _ dX6_edge_100 rfl ⟨hW, hF⟩
            · have h := gt_in h c1
              have c102 := c1
              by_cases c1 : l2 = 3
              · have h := gt_ip h c1
                refine ga_tabIn (tgt := 101) C dX6_edge_40 (by rw [c1]; decide) (by rw [c1]; decide) (by rw [c1]; rfl) (by decide) ?_
                obtain ⟨hg, h⟩ := gt_gd h
                have g104_0 := hg
                refine ga_iload C dX6_edge_101 gt_us ?_
                refine ga_iconst C dX6_edge_103 ⟨by decide, by decide⟩ ?_
                refine ga_irem C dX6_edge_104 (by decide) g104_0 ?_
                cases h
                exact hRet _ _ _ _ dX6_edge_105 rfl ⟨hW, hF⟩
              · have h := gt_in h c1
                have c103 := c1
                by_cases c1 : l2 = 4
                · have h := gt_ip h c1
                  refine ga_tabIn (tgt := 106) C dX6_edge_40 (by rw [c1]; decide) (by rw [c1]; decide) (by rw [c1]; rfl) (by decide) ?_
                  refine ga_aload_n C dX6_edge_106 rfl (gt_un (by decide) (gt_un (by decide) hl0)) hr0 ?_
                  refine ga_iload_n C dX6_edge_107 rfl (gt_un (by decide) (gt_un (by decide) hl1)) ?_
                  obtain ⟨q108, hq, h⟩ := Option.bind_eq_some_iff.mp h
                  refine gt_cVi (n := 1) (st := []) C (eX6_next X.2.1 D cI cZ K hr0 hW hq) gX6_edge_X6_next rfl (by decide +kernel) rfl ⟨Nat.le_of_ble_eq_true rfl, Nat.le_of_ble_eq_true rfl⟩ hW.1 rfl rfl (Nat.le_of_ble_eq_true rfl) rfl dX6_edge_108 (fun σ' hp => ?_)
                  subst hp
                  cases h
                  exact hRet _ _ _ _ dX6_edge_111 rfl ⟨hW, hF⟩
                · have h := gt_in h c1
                  have c104 := c1
                  by_cases c1 : l2 = 5
                  · have h := gt_ip h c1
                    refine ga_tabIn (tgt := 112) C dX6_edge_40 (by rw [c1]; decide) (by rw [c1]; decide) (by rw [c1]; rfl) (by decide) ?_
                    refine ga_aload_n C dX6_edge_112 rfl (gt_un (by decide) (gt_un (by decide) hl0)) hr0 ?_
                    refine ga_iload_n C dX6_edge_113 rfl (gt_un (by decide) (gt_un (by decide) hl1)) ?_
                    obtain ⟨q114, hq, h⟩ := Option.bind_eq_some_iff.mp h
                    refine gt_cVi (n := 1) (st := []) C (eX6_componentOf X.2.1 D cI cZ K hr0 hW hq) gX6_edge_X6_componentOf rfl (by decide +kernel) rfl ⟨Nat.le_of_ble_eq_true rfl, Nat.le_of_ble_eq_true rfl⟩ hW.1 rfl rfl (Nat.le_of_ble_eq_true rfl) rfl dX6_edge_114 (fun σ' hp => ?_)
                    obtain ⟨hw, hf⟩ := hp
                    have hF := hF.tr hf (Nat.le_refl _) (Nat.le_refl _)
                    have hW := hw
                    clear hf
                    cases h
                    exact hRet _ _ _ _ dX6_edge_117 rfl ⟨hW, hF⟩
                  · have h := gt_in h c1
                    have c105 := c1
                    by_cases c1 : l2 = 6
                    · have h := gt_ip h c1
                      refine ga_tabIn (tgt := 118) C dX6_edge_40 (by rw [c1]; decide) (by rw [c1]; decide) (by rw [c1]; rfl) (by decide) ?_
                      refine ga_aload_n C dX6_edge_118 rfl (gt_un (by decide) (gt_un (by decide) hl0)) hr0 ?_
                      refine ga_iload_n C dX6_edge_119 rfl (gt_un (by decide) (gt_un (by decide) hl1)) ?_
                      refine ga_iconst C dX6_edge_120 ⟨by decide, by decide⟩ ?_
                      obtain ⟨q121, hq, h⟩ := Option.bind_eq_some_iff.mp h
                      refine gt_cVi (n := 2) (st := []) C (eX6_faceAt X.2.1 D cI cZ K hr0 hW hq) gX6_edge_X6_faceAt rfl (by decide +kernel) rfl ⟨Nat.le_of_ble_eq_true rfl, Nat.le_of_ble_eq_true rfl⟩ hW.1 rfl rfl (Nat.le_of_ble_eq_true rfl) rfl dX6_edge_121 (fun σ' hp => ?_)
                      obtain ⟨hw, hf⟩ := hp
                      have hF := hF.tr hf (Nat.le_refl _) (Nat.le_refl _)
                      have hW := hw
                      clear hf
                      cases h
                      exact hRet _ _ _ _ dX6_edge_124 rfl ⟨hW, hF⟩
                    · have h := gt_in h c1
                      have c106 := c1
                      by_cases c1 : l2 = 7
                      · have h := gt_ip h c1
                        refine ga_tabIn (tgt := 125) C dX6_edge_40 (by rw [c1]; decide) (by rw [c1]; decide) (by rw [c1]; rfl) (by decide) ?_
                        refine ga_aload_n C dX6_edge_125 rfl (gt_un (by decide) (gt_un (by decide) hl0)) hr0 ?_
                        refine ga_iload_n C dX6_edge_126 rfl (gt_un (by decide) (gt_un (by decide) hl1)) ?_
                        refine ga_iconst C dX6_edge_127 ⟨by decide, by decide⟩ ?_
                        obtain ⟨q128, hq, h⟩ := Option.bind_eq_some_iff.mp h
                        refine gt_cVi (n := 2) (st := []) C (eX6_faceAt X.2.1 D cI cZ K hr0 hW hq) gX6_edge_X6_faceAt rfl (by decide +kernel) rfl ⟨Nat.le_of_ble_eq_true rfl, Nat.le_of_ble_eq_true rfl⟩ hW.1 rfl rfl (Nat.le_of_ble_eq_true rfl) rfl dX6_edge_128 (fun σ' hp => ?_)
                        obtain ⟨hw, hf⟩ := hp
                        have hF := hF.tr hf (Nat.le_refl _) (Nat.le_refl _)
                        have hW := hw
                        clear hf
                        cases h
                        exact hRet _ _ _ _ dX6_edge_131 rfl ⟨hW, hF⟩
                      · have h := gt_in h c1
                        have c107 := c1
                        refine ga_tabOut (tgt := 132) C dX6_edge_40 (by omega) (by decide) ?_
                        refine ga_aload_n C dX6_edge_132 rfl (gt_un (by decide) (gt_un (by decide) hl0)) hr0 ?_
                        refine ga_iload_n C dX6_edge_133 rfl (gt_un (by decide) (gt_un (by decide) hl1)) ?_
                        obtain ⟨q134, hq, h⟩ := Option.bind_eq_some_iff.mp h
                        refine gt_cVi (n := 1) (st := []) C (eX6_arcOf X.2.1 D cI cZ K hr0 hW hq) gX6_edge_X6_arcOf rfl (by decide +kernel) rfl ⟨Nat.le_of_ble_eq_true rfl, Nat.le_of_ble_eq_true rfl⟩ hW.1 rfl rfl (Nat.le_of_ble_eq_true rfl) rfl dX6_edge_134 (fun σ' hp => ?_)
                        subst hp
                        cases h
                        exact hRet _ _ _ _ dX6_edge_137 rfl ⟨hW, hF⟩
      · have h := gt_in h c1
        exact gX6_edge_29 C hRet hr0 hW hF h
set_option maxHeartbeats 4000000 in
theorem gX6_edge_0 {X : ga_X} {D : va_G} {cI cZ : ClassId} {K : Nat} {r : Nat} {σ0 : ga_S} {res : gt_T × Int} (C : ga_C X cX6_edge yX6_edge wsX6_edge [] (gt_rm 5 114) (D, vwCl, cI, cZ) 5) (hRet : ∀ (pc : Nat) (lv : Nat → Option ga_V) (σ' : ga_S) (z : Int), decode cX6_edge pc = .ok (.ireturn, 1) → z = res.2 → (gt_O SX6 6 r res.1 σ' ∧ gt_F r (r + 14) σ0 σ') → ga_G X 0 0 K pc lv [.inl z] σ') (hr0 : r ≠ 0) {T : gt_T} {σ : ga_S} {l1 l2 : Int} {lv : Nat → Option ga_V} (hW : gt_O SX6 6 r T σ) (hF : gt_F r (r + 14) σ0 σ) (hl0 : lv 0 = some (.inr r)) (hl1 : lv 1 = some (.inl l1)) (hl2 : lv 2 = some (.inl l2)) (h : fX6_edge T l1 l2 = some res) : ga_G X 0 0 K 0 lv [] σ := by
  unfold fX6_edge at h
  refine ga_iload_n C dX6_edge_0 rfl hl1 ?_
  refine ga_if_le (tgt := 13) C dX6_edge_1 (by decide) (fun c1 => ?_) (fun c1 => ?_)
  · have h := gt_ip h c1
    refine ga_iconst C dX6_edge_13 ⟨by decide, by decide⟩ ?_
    exact gX6_edge_14 C hRet hr0 hW hF hl0 hl1 hl2 h
  · have h := gt_in h c1
    refine ga_aload_n C dX6_edge_4 rfl hl0 hr0 ?_
    refine ga_iload_n C dX6_edge_5 rfl hl1 ?_
    refine ga_iconst C dX6_edge_6 ⟨by decide, by decide⟩ ?_
    obtain ⟨q7, hq, h⟩ := Option.bind_eq_some_iff.mp h
    refine gt_cVi (n := 2) (st := []) C (eX6_placeOf X.2.1 D cI cZ K hr0 hW hq) gX6_edge_X6_placeOf rfl (by decide +kernel) rfl ⟨Nat.le_of_ble_eq_true rfl, Nat.le_of_ble_eq_true rfl⟩ hW.1 rfl rfl (Nat.le_of_ble_eq_true rfl) rfl dX6_edge_7 (fun σ' hp => ?_)
    subst hp
    refine ga_goto (tgt := 14) C dX6_edge_10 (by decide) ?_
    exact gX6_edge_14 C hRet hr0 hW hF hl0 hl1 hl2 h
set_option maxHeartbeats 4000000 in
theorem eX6_edge (l : Launch) (D : va_G) (cI cZ : ClassId) (K : Nat) {r : Nat} (hr0 : r ≠ 0) {σ : ga_S} {T : gt_T} (hW : gt_O SX6 6 r T σ) {l1 l2 : Int} {res : gt_T × Int} (h : fX6_edge T l1 l2 = some res) : ga_Ev l (D, vwCl, cI, cZ) yX6_edge wsX6_edge (gt_rm 5 114) [] 0 0 K [.inr r, .inl l1, .inl l2] σ (fun σ' rv => (gt_O SX6 6 r res.1 σ' ∧ gt_F r (r + 14) σ σ') ∧ rv = some (.inl res.2)) := by
  refine ga_ofI (by decide +kernel) rfl gt_hcl (Nat.le_of_ble_eq_true rfl) (fun X hX C hret => ?_)
  exact gX6_edge_0 C (fun pc lv σ' z d hz hp => hret pc lv σ' z d ⟨hp, by rw [hz]⟩) hr0 hW gt_F.rf rfl rfl rfl h
-- X6_together: together(II)I
def fX6_together_74 (T : gt_T) (k5 : Int × Int × Int × Int → Option (Int)) (l1 l2 l4 s0 s1 : Int) : Option (Int) :=
  (if (-2147483648 ≤ s0 + s1 ∧ s0 + s1 < 2147483648) ∧ (-2147483648 ≤ l4 + (1 : Int) ∧ l4 + (1 : Int) < 2147483648) then k5 (l1, l2, s0 + s1, l4 + (1 : Int)) else none)
def fX6_together_73 (T : gt_T) (k5 : Int × Int × Int × Int → Option (Int)) (l1 l2 l4 s0 : Int) : Option (Int) :=
  fX6_together_74 T k5 l1 l2 l4 s0 (0 : Int)
def fX6_together_63 (T : gt_T) (k5 : Int × Int × Int × Int → Option (Int)) (l1 l2 l4 s0 : Int) : Option (Int) :=
  (if (0 ≤ l4 ∧ l4 < 20) then fX6_together_74 T k5 l1 l2 l4 s0 (T.2 9 l4.toNat) else none)
def fX6_together_51 (T : gt_T) (k5 : Int × Int × Int × Int → Option (Int)) (l1 l2 l4 l5 l6 s0 : Int) : Option (Int) :=
  (if l5 = l2 then (if l6 = l1 then fX6_together_63 T k5 l1 l2 l4 s0 else fX6_together_73 T k5 l1 l2 l4 s0) else fX6_together_73 T k5 l1 l2 l4 s0)
def fX6_together_5 (T : gt_T) (k5 : Int × Int × Int × Int → Option (Int)) (a : Int × Int × Int × Int) : Option (Int) :=
  (if (T.1 5) ≤ a.2.2.2 then some a.2.2.1 else (if (-2147483648 ≤ (4 : Int) * a.2.2.2 ∧ (4 : Int) * a.2.2.2 < 2147483648) ∧ (0 ≤ ((4 : Int) * a.2.2.2) ∧ ((4 : Int) * a.2.2.2) < 80) ∧ (-2147483648 ≤ ((4 : Int) * a.2.2.2) + (1 : Int) ∧ ((4 : Int) * a.2.2.2) + (1 : Int) < 2147483648) ∧ (0 ≤ (((4 : Int) * a.2.2.2) + (1 : Int)) ∧ (((4 : Int) * a.2.2.2) + (1 : Int)) < 80) then (if (T.2 21 ((4 : Int) * a.2.2.2).toNat) = a.1 then (if (T.2 21 (((4 : Int) * a.2.2.2) + (1 : Int)).toNat) = a.2.1 then fX6_together_63 T k5 a.1 a.2.1 a.2.2.2 a.2.2.1 else fX6_together_51 T k5 a.1 a.2.1 a.2.2.2 (T.2 21 ((4 : Int) * a.2.2.2).toNat) (T.2 21 (((4 : Int) * a.2.2.2) + (1 : Int)).toNat) a.2.2.1) else fX6_together_51 T k5 a.1 a.2.1 a.2.2.2 (T.2 21 ((4 : Int) * a.2.2.2).toNat) (T.2 21 (((4 : Int) * a.2.2.2) + (1 : Int)).toNat) a.2.2.1) else none))
def fX6_together (T : gt_T) (l1 l2 : Int) : Option (Int) :=
  gt_loop (fX6_together_5 T) gt_fuel (l1, l2, (0 : Int), (0 : Int))
theorem iX6_together_X6 : ∀ w ∈ u_ws RX6 TX6 23, w ∈ wsX6_together := by decide +kernel
theorem kX6_together_20 : Cond.fieldLink yX6_together.cls 20 (TX6 9).1 (TX6 9).2.1 (TX6 9).2.2.1 ∈ wsX6_together := by decide +kernel
theorem kX6_together_48 : Cond.fieldLink yX6_together.cls 48 (TX6 21).1 (TX6 21).2.1 (TX6 21).2.2.1 ∈ wsX6_together := by decide +kernel
theorem kX6_together_57 : Cond.fieldLink yX6_together.cls 57 (TX6 5).1 (TX6 5).2.1 (TX6 5).2.2.1 ∈ wsX6_together := by decide +kernel
set_option maxHeartbeats 4000000 in
theorem gX6_together_74 {X : ga_X} {D : va_G} {cI cZ : ClassId} {K : Nat} {r : Nat} {res : Int} {T : gt_T} {σ : ga_S} {k5 : Int × Int × Int × Int → Option (Int)} (C : ga_C X cX6_together yX6_together wsX6_together [] (gt_rm 0 0) (D, vwCl, cI, cZ) 7) (hRet : ∀ (pc : Nat) (lv : Nat → Option ga_V) (σ' : ga_S) (z : Int), decode cX6_together pc = .ok (.ireturn, 1) → z = res → (σ' = σ) → ga_G X 0 0 K pc lv [.inl z] σ') (hr0 : r ≠ 0) (hk5 : ∀ (a : Int × Int × Int × Int) (lv : Nat → Option ga_V), gt_O SX6 6 r T σ → lv 0 = some (.inr r) → lv 1 = some (.inl a.1) → lv 2 = some (.inl a.2.1) → lv 3 = some (.inl a.2.2.1) → lv 4 = some (.inl a.2.2.2) → k5 a = some res → ga_G X 0 0 K 5 lv [] σ) {l1 l2 l4 s0 s1 : Int} {lv : Nat → Option ga_V} (hW : gt_O SX6 6 r T σ) (hl0 : lv 0 = some (.inr r)) (hl1 : lv 1 = some (.inl l1)) (hl2 : lv 2 = some (.inl l2)) (hl4 : lv 4 = some (.inl l4)) (h : fX6_together_74 T k5 l1 l2 l4 s0 s1 = some res) : ga_G X 0 0 K 74 lv [.inl s1, .inl s0] σ := by
  unfold fX6_together_74 at h
  obtain ⟨hg, h⟩ := gt_gd h
  obtain ⟨g74_0, g76_1⟩ := hg
  refine ga_iadd C dX6_together_74 g74_0 ?_
  refine ga_istore_n C dX6_together_75 rfl (by decide) ?_
  refine ga_iinc C dX6_together_76 (gt_un (by decide) hl4) g76_1 ?_
  refine ga_goto (tgt := 5) C dX6_together_79 (by decide) ?_
  exact hk5 (l1, l2, s0 + s1, l4 + (1 : Int)) _ hW (gt_un (by decide) (gt_un (by decide) hl0)) (gt_un (by decide) (gt_un (by decide) hl1)) (gt_un (by decide) (gt_un (by decide) hl2)) (gt_un (by decide) gt_us) gt_us h
set_option maxHeartbeats 4000000 in
theorem gX6_together_73 {X : ga_X} {D : va_G} {cI cZ : ClassId} {K : Nat} {r : Nat} {res : Int} {T : gt_T} {σ : ga_S} {k5 : Int × Int × Int × Int → Option (Int)} (C : ga_C X cX6_together yX6_together wsX6_together [] (gt_rm 0 0) (D, vwCl, cI, cZ) 7) (hRet : ∀ (pc : Nat) (lv : Nat → Option ga_V) (σ' : ga_S) (z : Int), decode cX6_together pc = .ok (.ireturn, 1) → z = res → (σ' = σ) → ga_G X 0 0 K pc lv [.inl z] σ') (hr0 : r ≠ 0) (hk5 : ∀ (a : Int × Int × Int × Int) (lv : Nat → Option ga_V), gt_O SX6 6 r T σ → lv 0 = some (.inr r) → lv 1 = some (.inl a.1) → lv 2 = some (.inl a.2.1) → lv 3 = some (.inl a.2.2.1) → lv 4 = some (.inl a.2.2.2) → k5 a = some res → ga_G X 0 0 K 5 lv [] σ) {l1 l2 l4 s0 : Int} {lv : Nat → Option ga_V} (hW : gt_O SX6 6 r T σ) (hl0 : lv 0 = some (.inr r)) (hl1 : lv 1 = some (.inl l1)) (hl2 : lv 2 = some (.inl l2)) (hl4 : lv 4 = some (.inl l4)) (h : fX6_together_73 T k5 l1 l2 l4 s0 = some res) : ga_G X 0 0 K 73 lv [.inl s0] σ := by
  unfold fX6_together_73 at h
  refine ga_iconst C dX6_together_73 ⟨by decide, by decide⟩ ?_
  exact gX6_together_74 C hRet hr0 hk5 hW hl0 hl1 hl2 hl4 h
set_option maxHeartbeats 4000000 in
theorem gX6_together_63 {X : ga_X} {D : va_G} {cI cZ : ClassId} {K : Nat} {r : Nat} {res : Int} {T : gt_T} {σ : ga_S} {k5 : Int × Int × Int × Int → Option (Int)} (C : ga_C X cX6_together yX6_together wsX6_together [] (gt_rm 0 0) (D, vwCl, cI, cZ) 7) (hRet : ∀ (pc : Nat) (lv : Nat → Option ga_V) (σ' : ga_S) (z : Int), decode cX6_together pc = .ok (.ireturn, 1) → z = res → (σ' = σ) → ga_G X 0 0 K pc lv [.inl z] σ') (hr0 : r ≠ 0) (hk5 : ∀ (a : Int × Int × Int × Int) (lv : Nat → Option ga_V), gt_O SX6 6 r T σ → lv 0 = some (.inr r) → lv 1 = some (.inl a.1) → lv 2 = some (.inl a.2.1) → lv 3 = some (.inl a.2.2.1) → lv 4 = some (.inl a.2.2.2) → k5 a = some res → ga_G X 0 0 K 5 lv [] σ) {l1 l2 l4 s0 : Int} {lv : Nat → Option ga_V} (hW : gt_O SX6 6 r T σ) (hl0 : lv 0 = some (.inr r)) (hl1 : lv 1 = some (.inl l1)) (hl2 : lv 2 = some (.inl l2)) (hl4 : lv 4 = some (.inl l4)) (h : fX6_together_63 T k5 l1 l2 l4 s0 = some res) : ga_G X 0 0 K 63 lv [.inl s0] σ := by
  unfold fX6_together_63 at h
  obtain ⟨hg, h⟩ := gt_gd h
  have g69_0 := hg
  refine ga_aload_n C dX6_together_63 rfl hl0 hr0 ?_
  refine gt_geta C (iX6_together_X6) hW 9 rfl rfl (by decide) kX6_together_20 dX6_together_64 ?_
  refine ga_iload C dX6_together_67 hl4 ?_
  refine gt_iald C hW 9 rfl g69_0.1 g69_0.2 dX6_together_69 ?_
  refine ga_goto (tgt := 74) C dX6_together_70 (by decide) ?_
  exact gX6_together_74 C hRet hr0 hk5 hW hl0 hl1 hl2 hl4 h
set_option maxHeartbeats 4000000 in
theorem gX6_together_51 {X : ga_X} {D : va_G} {cI cZ : ClassId} {K : Nat} {r : Nat} {res : Int} {T : gt_T} {σ : ga_S} {k5 : Int × Int × Int × Int → Option (Int)} (C : ga_C X cX6_together yX6_together wsX6_together [] (gt_rm 0 0) (D, vwCl, cI, cZ) 7) (hRet : ∀ (pc : Nat) (lv : Nat → Option ga_V) (σ' : ga_S) (z : Int), decode cX6_together pc = .ok (.ireturn, 1) → z = res → (σ' = σ) → ga_G X 0 0 K pc lv [.inl z] σ') (hr0 : r ≠ 0) (hk5 : ∀ (a : Int × Int × Int × Int) (lv : Nat → Option ga_V), gt_O SX6 6 r T σ → lv 0 = some (.inr r) → lv 1 = some (.inl a.1) → lv 2 = some (.inl a.2.1) → lv 3 = some (.inl a.2.2.1) → lv 4 = some (.inl a.2.2.2) → k5 a = some res → ga_G X 0 0 K 5 lv [] σ) {l1 l2 l4 l5 l6 s0 : Int} {lv : Nat → Option ga_V} (hW : gt_O SX6 6 r T σ) (hl0 : lv 0 = some (.inr r)) (hl1 : lv 1 = some (.inl l1)) (hl2 : lv 2 = some (.inl l2)) (hl4 : lv 4 = some (.inl l4)) (hl5 : lv 5 = some (.inl l5)) (hl6 : lv 6 = some (.inl l6)) (h : fX6_together_51 T k5 l1 l2 l4 l5 l6 s0 = some res) : ga_G X 0 0 K 51 lv [.inl s0] σ := by
  unfold fX6_together_51 at h
  refine ga_iload C dX6_together_51 hl5 ?_
  refine ga_iload_n C dX6_together_53 rfl hl2 ?_
  refine ga_icmp_ne (tgt := 73) C dX6_together_54 (by decide) (fun c1 => ?_) (fun c1 => ?_)
  · have h := gt_in h c1
    exact gX6_together_73 C hRet hr0 hk5 hW hl0 hl1 hl2 hl4 h
  · have h := gt_ip h c1
    refine ga_iload C dX6_together_57 hl6 ?_
    refine ga_iload_n C dX6_together_59 rfl hl1 ?_
    refine ga_icmp_ne (tgt := 73) C dX6_together_60 (by decide) (fun c1 => ?_) (fun c1 => ?_)
    · have h := gt_in h c1
      exact gX6_together_73 C hRet hr0 hk5 hW hl0 hl1 hl2 hl4 h
    · have h := gt_ip h c1
      exact gX6_together_63 C hRet hr0 hk5 hW hl0 hl1 hl2 hl4 h
set_option maxHeartbeats 4000000 in
theorem gX6_together_5 {X : ga_X} {D : va_G} {cI cZ : ClassId} {K : Nat} {r : Nat} {res : Int} {T : gt_T} {σ : ga_S} (C : ga_C X cX6_together yX6_together wsX6_together [] (gt_rm 0 0) (D, vwCl, cI, cZ) 7) (hRet : ∀ (pc : Nat) (lv : Nat → Option ga_V) (σ' : ga_S) (z : Int), decode cX6_together pc = .ok (.ireturn, 1) → z = res → (σ' = σ) → ga_G X 0 0 K pc lv [.inl z] σ') (hr0 : r ≠ 0) : ∀ (n : Nat) (a : Int × Int × Int × Int) (lv : Nat → Option ga_V), gt_O SX6 6 r T σ → lv 0 = some (.inr r) → lv 1 = some (.inl a.1) → lv 2 = some (.inl a.2.1) → lv 3 = some (.inl a.2.2.1) → lv 4 = some (.inl a.2.2.2) → gt_loop (fX6_together_5 T) n a = some res → ga_G X 0 0 K 5 lv [] σ := by
  intro n
  induction n with
  | zero =>
    intro a lv _ _ _ _ _ _ h
    exact absurd (show (none : Option _) = some _ from h) (fun q => by cases q)
  | succ n hk5 =>
    intro a lv hW hl0 hl1 hl2 hl3 hl4 h
    have h : fX6_together_5 T (gt_loop (fX6_together_5 T) n) a = some res := h
    revert hk5 h
    generalize gt_loop (fX6_together_5 T) n = k5
    intro hk5 h
    unfold fX6_together_5 at h
    refine ga_iload C dX6_together_5 hl4 ?_
    refine ga_aload_n C dX6_together_7 rfl hl0 hr0 ?_
    refine gt_geti C (iX6_together_X6) hW 5 rfl rfl (by decide) kX6_together_57 dX6_together_8 ?_
    refine ga_icmp_ge (tgt := 82) C dX6_together_11 (by decide) (fun c1 => ?_) (fun c1 => ?_)
    · have h := gt_ip h c1
      refine ga_iload_n C dX6_together_82 rfl hl3 ?_
      cases h
      exact hRet _ _ _ _ dX6_together_83 rfl rfl
    · have h := gt_in h c1
      obtain ⟨hg, h⟩ := gt_gd h
      obtain ⟨g21_0, g22_1, g34_2, g35_3⟩ := hg
      refine ga_aload_n C dX6_together_14 rfl hl0 hr0 ?_
      refine gt_geta C (iX6_together_X6) hW 21 rfl rfl (by decide) kX6_together_48 dX6_together_15 ?_
      refine ga_iconst C dX6_together_18 ⟨by decide, by decide⟩ ?_
      refine ga_iload C dX6_together_19 hl4 ?_
      refine ga_imul C dX6_together_21 g21_0 ?_
      refine gt_iald C hW 21 rfl g22_1.1 g22_1.2 dX6_together_22 ?_
      refine ga_istore C dX6_together_23 (by decide) ?_
      refine ga_aload_n C dX6_together_25 rfl (gt_un (by decide) hl0) hr0 ?_
      refine gt_geta C (iX6_together_X6) hW 21 rfl rfl (by decide) kX6_together_48 dX6_together_26 ?_
      refine ga_iconst C dX6_together_29 ⟨by decide, by decide⟩ ?_
      refine ga_iload C dX6_together_30 (gt_un (by decide) hl4) ?_
      refine ga_imul C dX6_together_32 g21_0 ?_
      refine ga_iconst C dX6_together_33 ⟨by decide, by decide⟩ ?_
      refine ga_iadd C dX6_together_34 g34_2 ?_
      refine gt_iald C hW 21 rfl g35_3.1 g35_3.2 dX6_together_35 ?_
      refine ga_istore C dX6_together_36 (by decide) ?_
      refine ga_iload_n C dX6_together_38 rfl (gt_un (by decide) (gt_un (by decide) hl3)) ?_
      refine ga_iload C dX6_together_39 (gt_un (by decide) gt_us) ?_
      refine ga_iload_n C dX6_together_41 rfl (gt_un (by decide) (gt_un (by decide) hl1)) ?_
      refine ga_icmp_ne (tgt := 51) C dX6_together_42 (by decide) (fun c1 => ?_) (fun c1 => ?_)
      · have h := gt_in h c1
        exact gX6_together_51 C hRet hr0 hk5 hW (gt_un (by decide) (gt_un (by decide) hl0)) (gt_un (by decide) (gt_un (by decide) hl1)) (gt_un (by decide) (gt_un (by decide) hl2)) (gt_un (by decide) (gt_un (by decide) hl4)) (gt_un (by decide) gt_us) gt_us h
      · have h := gt_ip h c1
        refine ga_iload C dX6_together_45 gt_us ?_
        refine ga_iload_n C dX6_together_47 rfl (gt_un (by decide) (gt_un (by decide) hl2)) ?_
        refine ga_icmp_eq (tgt := 63) C dX6_together_48 (by decide) (fun c1 => ?_) (fun c1 => ?_)
        · have h := gt_ip h c1
          exact gX6_together_63 C hRet hr0 hk5 hW (gt_un (by decide) (gt_un (by decide) hl0)) (gt_un (by decide) (gt_un (by decide) hl1)) (gt_un (by decide) (gt_un (by decide) hl2)) (gt_un (by decide) (gt_un (by decide) hl4)) h
        · have h := gt_in h c1
          exact gX6_together_51 C hRet hr0 hk5 hW (gt_un (by decide) (gt_un (by decide) hl0)) (gt_un (by decide) (gt_un (by decide) hl1)) (gt_un (by decide) (gt_un (by decide) hl2)) (gt_un (by decide) (gt_un (by decide) hl4)) (gt_un (by decide) gt_us) gt_us h
set_option maxHeartbeats 4000000 in
theorem gX6_together_0 {X : ga_X} {D : va_G} {cI cZ : ClassId} {K : Nat} {r : Nat} {res : Int} {T : gt_T} {σ : ga_S} (C : ga_C X cX6_together yX6_together wsX6_together [] (gt_rm 0 0) (D, vwCl, cI, cZ) 7) (hRet : ∀ (pc : Nat) (lv : Nat → Option ga_V) (σ' : ga_S) (z : Int), decode cX6_together pc = .ok (.ireturn, 1) → z = res → (σ' = σ) → ga_G X 0 0 K pc lv [.inl z] σ') (hr0 : r ≠ 0) {l1 l2 : Int} {lv : Nat → Option ga_V} (hW : gt_O SX6 6 r T σ) (hl0 : lv 0 = some (.inr r)) (hl1 : lv 1 = some (.inl l1)) (hl2 : lv 2 = some (.inl l2)) (h : fX6_together T l1 l2 = some res) : ga_G X 0 0 K 0 lv [] σ := by
  unfold fX6_together at h
  refine ga_iconst C dX6_together_0 ⟨by decide, by decide⟩ ?_
  refine ga_istore_n C dX6_together_1 rfl (by decide) ?_
  refine ga_iconst C dX6_together_2 ⟨by decide, by decide⟩ ?_
  refine ga_istore C dX6_together_3 (by decide) ?_
  exact gX6_together_5 C hRet hr0 gt_fuel (l1, l2, (0 : Int), (0 : Int)) _ hW (gt_un (by decide) (gt_un (by decide) hl0)) (gt_un (by decide) (gt_un (by decide) hl1)) (gt_un (by decide) (gt_un (by decide) hl2)) (gt_un (by decide) gt_us) gt_us h
set_option maxHeartbeats 4000000 in
theorem eX6_together (l : Launch) (D : va_G) (cI cZ : ClassId) (K : Nat) {r : Nat} (hr0 : r ≠ 0) {σ : ga_S} {T : gt_T} (hW : gt_O SX6 6 r T σ) {l1 l2 : Int} {res : Int} (h : fX6_together T l1 l2 = some res) : ga_Ev l (D, vwCl, cI, cZ) yX6_together wsX6_together (gt_rm 0 0) [] 0 0 K [.inr r, .inl l1, .inl l2] σ (fun σ' rv => (σ' = σ) ∧ rv = some (.inl res)) := by
  refine ga_ofI (by decide +kernel) rfl gt_hcl (Nat.le_of_ble_eq_true rfl) (fun X hX C hret => ?_)
  exact gX6_together_0 C (fun pc lv σ' z d hz hp => hret pc lv σ' z d ⟨hp, by rw [hz]⟩) hr0 hW rfl rfl rfl h
-- X6_edgesOf: edgesOf(I)I
def fX6_edgesOf_8 (T : gt_T) (k8 : Int × Int × Int → Option (Int)) (a : Int × Int × Int) : Option (Int) :=
  (if a.2.2 = a.1 then some a.2.1 else (if (-2147483648 ≤ a.2.1 + (1 : Int) ∧ a.2.1 + (1 : Int) < 2147483648) then (fX6_next T a.2.2).bind (fun (q18 : Int) => k8 (a.1, a.2.1 + (1 : Int), q18)) else none))
def fX6_edgesOf (T : gt_T) (l1 : Int) : Option (Int) :=
  (fX6_next T l1).bind (fun (q4 : Int) => gt_loop (fX6_edgesOf_8 T) gt_fuel (l1, (1 : Int), q4))
set_option maxHeartbeats 4000000 in
theorem gX6_edgesOf_8 {X : ga_X} {D : va_G} {cI cZ : ClassId} {K : Nat} {r : Nat} {res : Int} {T : gt_T} {σ : ga_S} (C : ga_C X cX6_edgesOf yX6_edgesOf wsX6_edgesOf [] (gt_rm 3 67) (D, vwCl, cI, cZ) 4) (hRet : ∀ (pc : Nat) (lv : Nat → Option ga_V) (σ' : ga_S) (z : Int), decode cX6_edgesOf pc = .ok (.ireturn, 1) → z = res → (σ' = σ) → ga_G X 0 0 K pc lv [.inl z] σ') (hr0 : r ≠ 0) : ∀ (n : Nat) (a : Int × Int × Int) (lv : Nat → Option ga_V), gt_O SX6 6 r T σ → lv 0 = some (.inr r) → lv 1 = some (.inl a.1) → lv 2 = some (.inl a.2.1) → lv 3 = some (.inl a.2.2) → gt_loop (fX6_edgesOf_8 T) n a = some res → ga_G X 0 0 K 8 lv [] σ := by
  intro n
  induction n with
  | zero =>
    intro a lv _ _ _ _ _ h
    exact absurd (show (none : Option _) = some _ from h) (fun q => by cases q)
  | succ n hk8 =>
    intro a lv hW hl0 hl1 hl2 hl3 h
    have h : fX6_edgesOf_8 T (gt_loop (fX6_edgesOf_8 T) n) a = some res := h
    revert hk8 h
    generalize gt_loop (fX6_edgesOf_8 T) n = k8
    intro hk8 h
    unfold fX6_edgesOf_8 at h
    refine ga_iload_n C dX6_edgesOf_8 rfl hl3 ?_
    refine ga_iload_n C dX6_edgesOf_9 rfl hl1 ?_
    refine ga_icmp_eq (tgt := 25) C dX6_edgesOf_10 (by decide) (fun c1 => ?_) (fun c1 => ?_)
    · have h := gt_ip h c1
      refine ga_iload_n C dX6_edgesOf_25 rfl hl2 ?_
      cases h
      exact hRet _ _ _ _ dX6_edgesOf_26 rfl rfl
    · have h := gt_in h c1
      obtain ⟨hg, h⟩ := gt_gd h
      have g13_0 := hg
      refine ga_iinc C dX6_edgesOf_13 hl2 g13_0 ?_
      refine ga_aload_n C dX6_edgesOf_16 rfl (gt_un (by decide) hl0) hr0 ?_
      refine ga_iload_n C dX6_edgesOf_17 rfl (gt_un (by decide) hl3) ?_
      obtain ⟨q18, hq, h⟩ := Option.bind_eq_some_iff.mp h
      refine gt_cVi (n := 1) (st := []) C (eX6_next X.2.1 D cI cZ K hr0 hW hq) gX6_edgesOf_X6_next rfl (by decide +kernel) rfl ⟨Nat.le_of_ble_eq_true rfl, Nat.le_of_ble_eq_true rfl⟩ hW.1 rfl rfl (Nat.le_of_ble_eq_true rfl) rfl dX6_edgesOf_18 (fun σ' hp => ?_)
      subst hp
      refine ga_istore_n C dX6_edgesOf_21 rfl (by decide) ?_
      refine ga_goto (tgt := 8) C dX6_edgesOf_22 (by decide) ?_
      exact hk8 (a.1, a.2.1 + (1 : Int), q18) _ hW (gt_un (by decide) (gt_un (by decide) hl0)) (gt_un (by decide) (gt_un (by decide) hl1)) (gt_un (by decide) gt_us) gt_us h
set_option maxHeartbeats 4000000 in
theorem gX6_edgesOf_0 {X : ga_X} {D : va_G} {cI cZ : ClassId} {K : Nat} {r : Nat} {res : Int} {T : gt_T} {σ : ga_S} (C : ga_C X cX6_edgesOf yX6_edgesOf wsX6_edgesOf [] (gt_rm 3 67) (D, vwCl, cI, cZ) 4) (hRet : ∀ (pc : Nat) (lv : Nat → Option ga_V) (σ' : ga_S) (z : Int), decode cX6_edgesOf pc = .ok (.ireturn, 1) → z = res → (σ' = σ) → ga_G X 0 0 K pc lv [.inl z] σ') (hr0 : r ≠ 0) {l1 : Int} {lv : Nat → Option ga_V} (hW : gt_O SX6 6 r T σ) (hl0 : lv 0 = some (.inr r)) (hl1 : lv 1 = some (.inl l1)) (h : fX6_edgesOf T l1 = some res) : ga_G X 0 0 K 0 lv [] σ := by
  unfold fX6_edgesOf at h
  refine ga_iconst C dX6_edgesOf_0 ⟨by decide, by decide⟩ ?_
  refine ga_istore_n C dX6_edgesOf_1 rfl (by decide) ?_
  refine ga_aload_n C dX6_edgesOf_2 rfl (gt_un (by decide) hl0) hr0 ?_
  refine ga_iload_n C dX6_edgesOf_3 rfl (gt_un (by decide) hl1) ?_
  obtain ⟨q4, hq, h⟩ := Option.bind_eq_some_iff.mp h
  refine gt_cVi (n := 1) (st := []) C (eX6_next X.2.1 D cI cZ K hr0 hW hq) gX6_edgesOf_X6_next rfl (by decide +kernel) rfl ⟨Nat.le_of_ble_eq_true rfl, Nat.le_of_ble_eq_true rfl⟩ hW.1 rfl rfl (Nat.le_of_ble_eq_true rfl) rfl dX6_edgesOf_4 (fun σ' hp => ?_)
  subst hp
  refine ga_istore_n C dX6_edgesOf_7 rfl (by decide) ?_
  exact gX6_edgesOf_8 C hRet hr0 gt_fuel (l1, (1 : Int), q4) _ hW (gt_un (by decide) (gt_un (by decide) hl0)) (gt_un (by decide) (gt_un (by decide) hl1)) (gt_un (by decide) gt_us) gt_us h
set_option maxHeartbeats 4000000 in
theorem eX6_edgesOf (l : Launch) (D : va_G) (cI cZ : ClassId) (K : Nat) {r : Nat} (hr0 : r ≠ 0) {σ : ga_S} {T : gt_T} (hW : gt_O SX6 6 r T σ) {l1 : Int} {res : Int} (h : fX6_edgesOf T l1 = some res) : ga_Ev l (D, vwCl, cI, cZ) yX6_edgesOf wsX6_edgesOf (gt_rm 3 67) [] 0 0 K [.inr r, .inl l1] σ (fun σ' rv => (σ' = σ) ∧ rv = some (.inl res)) := by
  refine ga_ofI (by decide +kernel) rfl gt_hcl (Nat.le_of_ble_eq_true rfl) (fun X hX C hret => ?_)
  exact gX6_edgesOf_0 C (fun pc lv σ' z d hz hp => hret pc lv σ' z d ⟨hp, by rw [hz]⟩) hr0 hW rfl rfl h
-- X6_component: component(II)I
def fX6_component_23 (T : gt_T) : Option (gt_T × Int) :=
  some (T, (-1000 : Int))
def fX6_component_162 (T : gt_T) (s0 : Int) : Option (gt_T × Int) :=
  some (T, s0)
def fX6_component_178 (T : gt_T) (s0 : Int) : Option (gt_T × Int) :=
  some (T, s0)
def fX6_component_208 (T : gt_T) (s0 : Int) : Option (gt_T × Int) :=
  some (T, s0)
def fX6_component_111 (T : gt_T) (l1 l2 l3 l4 s0 : Int) : Option (gt_T × Int) :=
  (if l2 = 0 then some (T, s0) else (if l2 = 1 then (if l4 = 0 then (fX6_edgesOf T s0).bind (fun (q159 : Int) => fX6_component_162 T q159) else fX6_component_162 T (0 : Int)) else (if l2 = 2 then (if l4 = 0 then (fX6_together T l1 l1).bind (fun (q175 : Int) => fX6_component_178 T q175) else fX6_component_178 T (0 : Int)) else (if l2 = 3 then (if l4 = 0 then (fX6_placeOf T s0 (1 : Int)).bind (fun (q200 : Int) => (fX6_pieceOf T (Int.tdiv q200 (4 : Int))).bind (fun (q205 : gt_T × Int) => fX6_component_208 q205.1 q205.2)) else (fX6_pieces T).bind (fun (q185 : gt_T × Int) => (if (-2147483648 ≤ q185.2 + l1 ∧ q185.2 + l1 < 2147483648) ∧ (-2147483648 ≤ (q185.2 + l1) - l3 ∧ (q185.2 + l1) - l3 < 2147483648) then fX6_component_208 q185.1 ((q185.2 + l1) - l3) else none))) else some (T, (-1000 : Int))))))
def fX6_component_96 (T : gt_T) (s0 : Int) : Option (gt_T × Int) :=
  some (T, s0)
def fX6_component_83 (T : gt_T) : Option (gt_T × Int) :=
  fX6_component_96 T (0 : Int)
def fX6_component_37 (T : gt_T) (l1 l2 l3 s0 : Int) : Option (gt_T × Int) :=
  (if l2 < (10 : Int) then (if s0 = 0 then (fX6_beginning T l1).bind (fun (q108 : gt_T × Int) => fX6_component_111 q108.1 l1 l2 l3 s0 q108.2) else fX6_component_111 T l1 l2 l3 s0 (0 : Int)) else (if (-2147483648 ≤ l2 - (10 : Int) ∧ l2 - (10 : Int) < 2147483648) ∧ (-2147483648 ≤ l3 + (T.1 6) ∧ l3 + (T.1 6) < 2147483648) then (if (l2 - (10 : Int)) < (l3 + (T.1 6)) then (if s0 = 0 then (if l3 ≤ (l2 - (10 : Int)) then fX6_component_83 T else (if (l2 - (10 : Int)) = l1 then fX6_component_83 T else (fX6_together T l1 (l2 - (10 : Int))).bind (fun (q91 : Int) => fX6_component_96 T (Int.tdiv q91 (2 : Int))))) else fX6_component_83 T) else some (T, (-1000 : Int))) else none))
def fX6_component (T : gt_T) (l1 l2 : Int) : Option (gt_T × Int) :=
  (fX6_components T).bind (fun (q1 : gt_T) => (if l1 < 0 then fX6_component_23 q1 else (if (-2147483648 ≤ (q1.1 19) + (q1.1 6) ∧ (q1.1 19) + (q1.1 6) < 2147483648) then (if l1 < ((q1.1 19) + (q1.1 6)) then (if l1 < (q1.1 19) then fX6_component_37 q1 l1 l2 (q1.1 19) (0 : Int) else fX6_component_37 q1 l1 l2 (q1.1 19) (1 : Int)) else fX6_component_23 q1) else none)))
theorem iX6_component_X6 : ∀ w ∈ u_ws RX6 TX6 23, w ∈ wsX6_component := by decide +kernel
theorem kX6_component_75 : Cond.fieldLink yX6_component.cls 75 (TX6 19).1 (TX6 19).2.1 (TX6 19).2.2.1 ∈ wsX6_component := by decide +kernel
theorem kX6_component_105 : Cond.fieldLink yX6_component.cls 105 (TX6 6).1 (TX6 6).2.1 (TX6 6).2.2.1 ∈ wsX6_component := by decide +kernel
set_option maxHeartbeats 4000000 in
theorem gX6_component_23 {X : ga_X} {D : va_G} {cI cZ : ClassId} {K : Nat} {r : Nat} {σ0 : ga_S} {res : gt_T × Int} (C : ga_C X cX6_component yX6_component wsX6_component [] (gt_rm 5 113) (D, vwCl, cI, cZ) 6) (hRet : ∀ (pc : Nat) (lv : Nat → Option ga_V) (σ' : ga_S) (z : Int), decode cX6_component pc = .ok (.ireturn, 1) → z = res.2 → (gt_O SX6 6 r res.1 σ' ∧ gt_F r (r + 14) σ0 σ') → ga_G X 0 0 K pc lv [.inl z] σ') (hr0 : r ≠ 0) {T : gt_T} {σ : ga_S} {lv : Nat → Option ga_V} (hW : gt_O SX6 6 r T σ) (hF : gt_F r (r + 14) σ0 σ) (h : fX6_component_23 T = some res) : ga_G X 0 0 K 23 lv [] σ := by
  unfold fX6_component_23 at h
  refine ga_sipush C dX6_component_23 ⟨by decide, by decide⟩ (by decide) ?_
  cases h
  exact hRet _ _ _ _ dX6_component_26 rfl ⟨hW, hF⟩
set_option maxHeartbeats 4000000 in
theorem gX6_component_162 {X : ga_X} {D : va_G} {cI cZ : ClassId} {K : Nat} {r : Nat} {σ0 : ga_S} {res : gt_T × Int} (C : ga_C X cX6_component yX6_component wsX6_component [] (gt_rm 5 113) (D, vwCl, cI, cZ) 6) (hRet : ∀ (pc : Nat) (lv : Nat → Option ga_V) (σ' : ga_S) (z : Int), decode cX6_component pc = .ok (.ireturn, 1) → z = res.2 → (gt_O SX6 6 r res.1 σ' ∧ gt_F r (r + 14) σ0 σ') → ga_G X 0 0 K pc lv [.inl z] σ') (hr0 : r ≠ 0) {T : gt_T} {σ : ga_S} {s0 : Int} {lv : Nat → Option ga_V} (hW : gt_O SX6 6 r T σ) (hF : gt_F r (r + 14) σ0 σ) (h : fX6_component_162 T s0 = some res) : ga_G X 0 0 K 162 lv [.inl s0] σ := by
  unfold fX6_component_162 at h
  cases h
  exact hRet _ _ _ _ dX6_component_162 rfl ⟨hW, hF⟩
set_option maxHeartbeats 4000000 in
theorem gX6_component_178 {X : ga_X} {D : va_G} {cI cZ : ClassId} {K : Nat} {r : Nat} {σ0 : ga_S} {res : gt_T × Int} (C : ga_C X cX6_component yX6_component wsX6_component [] (gt_rm 5 113) (D, vwCl, cI, cZ) 6) (hRet : ∀ (pc : Nat) (lv : Nat → Option ga_V) (σ' : ga_S) (z : Int), decode cX6_component pc = .ok (.ireturn, 1) → z = res.2 → (gt_O SX6 6 r res.1 σ' ∧ gt_F r (r + 14) σ0 σ') → ga_G X 0 0 K pc lv [.inl z] σ') (hr0 : r ≠ 0) {T : gt_T} {σ : ga_S} {s0 : Int} {lv : Nat → Option ga_V} (hW : gt_O SX6 6 r T σ) (hF : gt_F r (r + 14) σ0 σ) (h : fX6_component_178 T s0 = some res) : ga_G X 0 0 K 178 lv [.inl s0] σ := by
  unfold fX6_component_178 at h
  cases h
  exact hRet _ _ _ _ dX6_component_178 rfl ⟨hW, hF⟩
set_option maxHeartbeats 4000000 in
theorem gX6_component_208 {X : ga_X} {D : va_G} {cI cZ : ClassId} {K : Nat} {r : Nat} {σ0 : ga_S} {res : gt_T × Int} (C : ga_C X cX6_component yX6_component wsX6_component [] (gt_rm 5 113) (D, vwCl, cI, cZ) 6) (hRet : ∀ (pc : Nat) (lv : Nat → Option ga_V) (σ' : ga_S) (z : Int), decode cX6_component pc = .ok (.ireturn, 1) → z = res.2 → (gt_O SX6 6 r res.1 σ' ∧ gt_F r (r + 14) σ0 σ') → ga_G X 0 0 K pc lv [.inl z] σ') (hr0 : r ≠ 0) {T : gt_T} {σ : ga_S} {s0 : Int} {lv : Nat → Option ga_V} (hW : gt_O SX6 6 r T σ) (hF : gt_F r (r + 14) σ0 σ) (h : fX6_component_208 T s0 = some res) : ga_G X 0 0 K 208 lv [.inl s0] σ := by
  unfold fX6_component_208 at h
  cases h
  exact hRet _ _ _ _ dX6_component_208 rfl ⟨hW, hF⟩
set_option maxHeartbeats 4000000 in
theorem gX6_component_111 {X : ga_X} {D : va_G} {cI cZ : ClassId} {K : Nat} {r : Nat} {σ0 : ga_S} {res : gt_T × Int} (C : ga_C X cX6_component yX6_component wsX6_component [] (gt_rm 5 113) (D, vwCl, cI, cZ) 6) (hRet : ∀ (pc : Nat) (lv : Nat → Option ga_V) (σ' : ga_S) (z : Int), decode cX6_component pc = .ok (.ireturn, 1) → z = res.2 → (gt_O SX6 6 r res.1 σ' ∧ gt_F r (r + 14) σ0 σ') → ga_G X 0 0 K pc lv [.inl z] σ') (hr0 : r ≠ 0) {T : gt_T} {σ : ga_S} {l1 l2 l3 l4 s0 : Int} {lv : Nat → Option ga_V} (hW : gt_O SX6 6 r T σ) (hF : gt_F r (r + 14) σ0 σ) (hl0 : lv 0 = some (.inr r)) (hl1 : lv 1 = some (.inl l1)) (hl2 : lv 2 = some (.inl l2)) (hl3 : lv 3 = some (.inl l3)) (hl4 : lv 4 = some (.inl l4)) (h : fX6_component_111 T l1 l2 l3 l4 s0 = some res) : ga_G X 0 0 K 111 lv [.inl s0] σ := by
  unfold fX6_component_111 at h
  refine ga_istore C dX6_component_111 (by decide) ?_
  refine ga_iload_n C dX6_component_113 rfl (gt_un (by decide) hl2) ?_
  by_cases c1 : l2 = 0
  · have h := gt_ip h c1
    refine ga_tabIn (tgt := 144) C dX6_component_114 (by rw [c1]; decide) (by rw [c1]; decide) (by rw [c1]; rfl) (by decide) ?_
    refine ga_iload C dX6_component_144 gt_us ?_
    cases h
    exact hRet _ _ _ _ dX6_component_146 rfl ⟨hW, hF⟩
  · have h := gt_in h c1
    have c100 := c1
    by_cases c1 : l2 = 1
    · have h := gt_ip h c1
      refine ga_tabIn (tgt := 147) C dX6_component_114 (by rw [c1]; decide) (by rw [c1]; decide) (by rw [c1]; rfl) (by decide) ?_
      refine ga_iload C dX6_component_147 (gt_un (by decide) hl4) ?_
      refine ga_if_eq (tgt := 156) C dX6_component_149 (by decide) (fun c1 => ?_) (fun c1 => ?_)
      · have h := gt_ip h c1
        refine ga_aload_n C dX6_component_156 rfl (gt_un (by decide) hl0) hr0 ?_
        refine ga_iload C dX6_component_157 gt_us ?_
        obtain ⟨q159, hq, h⟩ := Option.bind_eq_some_iff.mp h
        refine gt_cVi (n := 1) (st := []) C (eX6_edgesOf X.2.1 D cI cZ K hr0 hW hq) gX6_component_X6_edgesOf rfl (by decide +kernel) rfl ⟨Nat.le_of_ble_eq_true rfl, Nat.le_of_ble_eq_true rfl⟩ hW.1 rfl rfl (Nat.le_of_ble_eq_true rfl) rfl dX6_component_159 (fun σ' hp => ?_)
        subst hp
        exact gX6_component_162 C hRet hr0 hW hF h
      · have h := gt_in h c1
        refine ga_iconst C dX6_component_152 ⟨by decide, by decide⟩ ?_
        refine ga_goto (tgt := 162) C dX6_component_153 (by decide) ?_
        exact gX6_component_162 C hRet hr0 hW hF h
    · have h := gt_in h c1
      have c101 := c1
      by_cases c1 : l2 = 2
      · have h := gt_ip h c1
        refine ga_tabIn (tgt := 163) C dX6_component_114 (by rw [c1]; decide) (by rw [c1]; decide) (by rw [c1]; rfl) (by decide) ?_
        refine ga_iload C dX6_component_163 (gt_un (by decide) hl4) ?_
        refine ga_if_eq (tgt := 172) C dX6_component_165 (by decide) (fun c1 => ?_) (fun c1 => ?_)
        · have h := gt_ip h c1
          refine ga_aload_n C dX6_component_172 rfl (gt_un (by decide) hl0) hr0 ?_
          refine ga_iload_n C dX6_component_173 rfl (gt_un (by decide) hl1) ?_
          refine ga_iload_n C dX6_component_174 rfl (gt_un (by decide) hl1) ?_
          obtain ⟨q175, hq, h⟩ := Option.bind_eq_some_iff.mp h
          refine gt_cVi (n := 2) (st := []) C (eX6_together X.2.1 D cI cZ K hr0 hW hq) gX6_component_X6_together rfl (by decide +kernel) rfl ⟨Nat.le_of_ble_eq_true rfl, Nat.le_of_ble_eq_true rfl⟩ hW.1 rfl rfl (Nat.le_of_ble_eq_true rfl) rfl dX6_component_175 (fun σ' hp => ?_)
          subst hp
          exact gX6_component_178 C hRet hr0 hW hF h
        · have h := gt_in h c1
          refine ga_iconst C dX6_component_168 ⟨by decide, by decide⟩ ?_
          refine ga_goto (tgt := 178) C dX6_component_169 (by decide) ?_
          exact gX6_component_178 C hRet hr0 hW hF h
      · have h := gt_in h c1
        have c102 := c1
        by_cases c1 : l2 = 3
        · have h := gt_ip h c1
          refine ga_tabIn (tgt := 179) C dX6_component_114 (by rw [c1]; decide) (by rw [c1]; decide) (by rw [c1]; rfl) (by decide) ?_
          refine ga_iload C dX6_component_179 (gt_un (by decide) hl4) ?_
          refine ga_if_eq (tgt := 195) C dX6_component_181 (by decide) (fun c1 => ?_) (fun c1 => ?_)
          · have h := gt_ip h c1
            refine ga_aload_n C dX6_component_195 rfl (gt_un (by decide) hl0) hr0 ?_
            refine ga_aload_n C dX6_component_196 rfl (gt_un (by decide) hl0) hr0 ?_
            refine ga_iload C dX6_component_197 gt_us ?_
            refine ga_iconst C dX6_component_199 ⟨by decide, by decide⟩ ?_
            obtain ⟨q200, hq, h⟩ := Option.bind_eq_some_iff.mp h
            refine gt_cVi (n := 2) (st := [.inr r]) C (eX6_placeOf X.2.1 D cI cZ K hr0 hW hq) gX6_component_X6_placeOf rfl (by decide +kernel) rfl ⟨Nat.le_of_ble_eq_true rfl, Nat.le_of_ble_eq_true rfl⟩ hW.1 rfl rfl (Nat.le_of_ble_eq_true rfl) rfl dX6_component_200 (fun σ' hp => ?_)
            subst hp
            refine ga_iconst C dX6_component_203 ⟨by decide, by decide⟩ ?_
            refine ga_idiv C dX6_component_204 (by decide) ?_
            obtain ⟨q205, hq, h⟩ := Option.bind_eq_some_iff.mp h
            refine gt_cVi (n := 1) (st := []) C (eX6_pieceOf X.2.1 D cI cZ K hr0 hW hq) gX6_component_X6_pieceOf rfl (by decide +kernel) rfl ⟨Nat.le_of_ble_eq_true rfl, Nat.le_of_ble_eq_true rfl⟩ hW.1 rfl rfl (Nat.le_of_ble_eq_true rfl) rfl dX6_component_205 (fun σ' hp => ?_)
            obtain ⟨hw, hf⟩ := hp
            have hF := hF.tr hf (Nat.le_refl _) (Nat.le_refl _)
            have hW := hw
            clear hf
            exact gX6_component_208 C hRet hr0 hW hF h
          · have h := gt_in h c1
            refine ga_aload_n C dX6_component_184 rfl (gt_un (by decide) hl0) hr0 ?_
            obtain ⟨q185, hq, h⟩ := Option.bind_eq_some_iff.mp h
            refine gt_cVi (n := 0) (st := []) C (eX6_pieces X.2.1 D cI cZ K hr0 hW hq) gX6_component_X6_pieces rfl (by decide +kernel) rfl ⟨Nat.le_of_ble_eq_true rfl, Nat.le_of_ble_eq_true rfl⟩ hW.1 rfl rfl (Nat.le_of_ble_eq_true rfl) rfl dX6_component_185 (fun σ' hp => ?_)
            obtain ⟨hw, hf⟩ := hp
            have hF := hF.tr hf (Nat.le_refl _) (Nat.le_refl _)
            have hW := hw
            clear hf
            obtain ⟨hg, h⟩ := gt_gd h
            obtain ⟨g189_0, g191_1⟩ := hg
            refine ga_iload_n C dX6_component_188 rfl (gt_un (by decide) hl1) ?_
            refine ga_iadd C dX6_component_189 g189_0 ?_
            refine ga_iload_n C dX6_component_190 rfl (gt_un (by decide) hl3) ?_
            refine ga_isub C dX6_component_191 g191_1 ?_
            refine ga_goto (tgt := 208) C dX6_component_192 (by decide) ?_
            exact gX6_component_208 C hRet hr0 hW hF h
        · have h := gt_in h c1
          have c103 := c1
          refine ga_tabOut (tgt := 209) C dX6_component_114 (by omega) (by decide) ?_
          refine ga_sipush C dX6_component_209 ⟨by decide, by decide⟩ (by decide) ?_
          cases h
          exact hRet _ _ _ _ dX6_component_212 rfl ⟨hW, hF⟩
set_option maxHeartbeats 4000000 in
theorem gX6_component_96 {X : ga_X} {D : va_G} {cI cZ : ClassId} {K : Nat} {r : Nat} {σ0 : ga_S} {res : gt_T × Int} (C : ga_C X cX6_component yX6_component wsX6_component [] (gt_rm 5 113) (D, vwCl, cI, cZ) 6) (hRet : ∀ (pc : Nat) (lv : Nat → Option ga_V) (σ' : ga_S) (z : Int), decode cX6_component pc = .ok (.ireturn, 1) → z = res.2 → (gt_O SX6 6 r res.1 σ' ∧ gt_F r (r + 14) σ0 σ') → ga_G X 0 0 K pc lv [.inl z] σ') (hr0 : r ≠ 0) {T : gt_T} {σ : ga_S} {s0 : Int} {lv : Nat → Option ga_V} (hW : gt_O SX6 6 r T σ) (hF : gt_F r (r + 14) σ0 σ) (h : fX6_component_96 T s0 = some res) : ga_G X 0 0 K 96 lv [.inl s0] σ := by
  unfold fX6_component_96 at h
  cases h
  exact hRet _ _ _ _ dX6_component_96 rfl ⟨hW, hF⟩
set_option maxHeartbeats 4000000 in
theorem gX6_component_83 {X : ga_X} {D : va_G} {cI cZ : ClassId} {K : Nat} {r : Nat} {σ0 : ga_S} {res : gt_T × Int} (C : ga_C X cX6_component yX6_component wsX6_component [] (gt_rm 5 113) (D, vwCl, cI, cZ) 6) (hRet : ∀ (pc : Nat) (lv : Nat → Option ga_V) (σ' : ga_S) (z : Int), decode cX6_component pc = .ok (.ireturn, 1) → z = res.2 → (gt_O SX6 6 r res.1 σ' ∧ gt_F r (r + 14) σ0 σ') → ga_G X 0 0 K pc lv [.inl z] σ') (hr0 : r ≠ 0) {T : gt_T} {σ : ga_S} {lv : Nat → Option ga_V} (hW : gt_O SX6 6 r T σ) (hF : gt_F r (r + 14) σ0 σ) (h : fX6_component_83 T = some res) : ga_G X 0 0 K 83 lv [] σ := by
  unfold fX6_component_83 at h
  refine ga_iconst C dX6_component_83 ⟨by decide, by decide⟩ ?_
  refine ga_goto (tgt := 96) C dX6_component_84 (by decide) ?_
  exact gX6_component_96 C hRet hr0 hW hF h
set_option maxHeartbeats 4000000 in
theorem gX6_component_37 {X : ga_X} {D : va_G} {cI cZ : ClassId} {K : Nat} {r : Nat} {σ0 : ga_S} {res : gt_T × Int} (C : ga_C X cX6_component yX6_component wsX6_component [] (gt_rm 5 113) (D, vwCl, cI, cZ) 6) (hRet : ∀ (pc : Nat) (lv : Nat → Option ga_V) (σ' : ga_S) (z : Int), decode cX6_component pc = .ok (.ireturn, 1) → z = res.2 → (gt_O SX6 6 r res.1 σ' ∧ gt_F r (r + 14) σ0 σ') → ga_G X 0 0 K pc lv [.inl z] σ') (hr0 : r ≠ 0) {T : gt_T} {σ : ga_S} {l1 l2 l3 s0 : Int} {lv : Nat → Option ga_V} (hW : gt_O SX6 6 r T σ) (hF : gt_F r (r + 14) σ0 σ) (hl0 : lv 0 = some (.inr r)) (hl1 : lv 1 = some (.inl l1)) (hl2 : lv 2 = some (.inl l2)) (hl3 : lv 3 = some (.inl l3)) (h : fX6_component_37 T l1 l2 l3 s0 = some res) : ga_G X 0 0 K 37 lv [.inl s0] σ := by
  unfold fX6_component_37 at h
  refine ga_istore C dX6_component_37 (by decide) ?_
  refine ga_iload_n C dX6_component_39 rfl (gt_un (by decide) hl2) ?_
  refine ga_bipush C dX6_component_40 ⟨by decide, by decide⟩ (by decide) ?_
  refine ga_icmp_lt (tgt := 97) C dX6_component_42 (by decide) (fun c1 => ?_) (fun c1 => ?_)
  · have h := gt_ip h c1
    refine ga_iload C dX6_component_97 gt_us ?_
    refine ga_if_eq (tgt := 106) C dX6_component_99 (by decide) (fun c1 => ?_) (fun c1 => ?_)
    · have h := gt_ip h c1
      refine ga_aload_n C dX6_component_106 rfl (gt_un (by decide) hl0) hr0 ?_
      refine ga_iload_n C dX6_component_107 rfl (gt_un (by decide) hl1) ?_
      obtain ⟨q108, hq, h⟩ := Option.bind_eq_some_iff.mp h
      refine gt_cVi (n := 1) (st := []) C (eX6_beginning X.2.1 D cI cZ K hr0 hW hq) gX6_component_X6_beginning rfl (by decide +kernel) rfl ⟨Nat.le_of_ble_eq_true rfl, Nat.le_of_ble_eq_true rfl⟩ hW.1 rfl rfl (Nat.le_of_ble_eq_true rfl) rfl dX6_component_108 (fun σ' hp => ?_)
      obtain ⟨hw, hf⟩ := hp
      have hF := hF.tr hf (Nat.le_refl _) (Nat.le_refl _)
      have hW := hw
      clear hf
      exact gX6_component_111 C hRet hr0 hW hF (gt_un (by decide) hl0) (gt_un (by decide) hl1) (gt_un (by decide) hl2) (gt_un (by decide) hl3) gt_us h
    · have h := gt_in h c1
      refine ga_iconst C dX6_component_102 ⟨by decide, by decide⟩ ?_
      refine ga_goto (tgt := 111) C dX6_component_103 (by decide) ?_
      exact gX6_component_111 C hRet hr0 hW hF (gt_un (by decide) hl0) (gt_un (by decide) hl1) (gt_un (by decide) hl2) (gt_un (by decide) hl3) gt_us h
  · have h := gt_in h c1
    obtain ⟨hg, h⟩ := gt_gd h
    obtain ⟨g48_0, g58_1⟩ := hg
    refine ga_iload_n C dX6_component_45 rfl (gt_un (by decide) hl2) ?_
    refine ga_bipush C dX6_component_46 ⟨by decide, by decide⟩ (by decide) ?_
    refine ga_isub C dX6_component_48 g48_0 ?_
    refine ga_istore C dX6_component_49 (by decide) ?_
    refine ga_iload C dX6_component_51 gt_us ?_
    refine ga_iload_n C dX6_component_53 rfl (gt_un (by decide) (gt_un (by decide) hl3)) ?_
    refine ga_aload_n C dX6_component_54 rfl (gt_un (by decide) (gt_un (by decide) hl0)) hr0 ?_
    refine gt_geti C (iX6_component_X6) hW 6 rfl rfl (by decide) kX6_component_105 dX6_component_55 ?_
    refine ga_iadd C dX6_component_58 g58_1 ?_
    refine ga_icmp_lt (tgt := 66) C dX6_component_59 (by decide) (fun c1 => ?_) (fun c1 => ?_)
    · have h := gt_ip h c1
      refine ga_iload C dX6_component_66 (gt_un (by decide) gt_us) ?_
      refine ga_if_ne (tgt := 83) C dX6_component_68 (by decide) (fun c1 => ?_) (fun c1 => ?_)
      · have h := gt_in h c1
        exact gX6_component_83 C hRet hr0 hW hF h
      · have h := gt_ip h c1
        refine ga_iload C dX6_component_71 gt_us ?_
        refine ga_iload_n C dX6_component_73 rfl (gt_un (by decide) (gt_un (by decide) hl3)) ?_
        refine ga_icmp_ge (tgt := 83) C dX6_component_74 (by decide) (fun c1 => ?_) (fun c1 => ?_)
        · have h := gt_ip h c1
          exact gX6_component_83 C hRet hr0 hW hF h
        · have h := gt_in h c1
          refine ga_iload C dX6_component_77 gt_us ?_
          refine ga_iload_n C dX6_component_79 rfl (gt_un (by decide) (gt_un (by decide) hl1)) ?_
          refine ga_icmp_ne (tgt := 87) C dX6_component_80 (by decide) (fun c1 => ?_) (fun c1 => ?_)
          · have h := gt_in h c1
            refine ga_aload_n C dX6_component_87 rfl (gt_un (by decide) (gt_un (by decide) hl0)) hr0 ?_
            refine ga_iload_n C dX6_component_88 rfl (gt_un (by decide) (gt_un (by decide) hl1)) ?_
            refine ga_iload C dX6_component_89 gt_us ?_
            obtain ⟨q91, hq, h⟩ := Option.bind_eq_some_iff.mp h
            refine gt_cVi (n := 2) (st := []) C (eX6_together X.2.1 D cI cZ K hr0 hW hq) gX6_component_X6_together rfl (by decide +kernel) rfl ⟨Nat.le_of_ble_eq_true rfl, Nat.le_of_ble_eq_true rfl⟩ hW.1 rfl rfl (Nat.le_of_ble_eq_true rfl) rfl dX6_component_91 (fun σ' hp => ?_)
            subst hp
            refine ga_iconst C dX6_component_94 ⟨by decide, by decide⟩ ?_
            refine ga_idiv C dX6_component_95 (by decide) ?_
            exact gX6_component_96 C hRet hr0 hW hF h
          · have h := gt_ip h c1
            exact gX6_component_83 C hRet hr0 hW hF h
    · have h := gt_in h c1
      refine ga_sipush C dX6_component_62 ⟨by decide, by decide⟩ (by decide) ?_
      cases h
      exact hRet _ _ _ _ dX6_component_65 rfl ⟨hW, hF⟩
set_option maxHeartbeats 4000000 in
theorem gX6_component_0 {X : ga_X} {D : va_G} {cI cZ : ClassId} {K : Nat} {r : Nat} {σ0 : ga_S} {res : gt_T × Int} (C : ga_C X cX6_component yX6_component wsX6_component [] (gt_rm 5 113) (D, vwCl, cI, cZ) 6) (hRet : ∀ (pc : Nat) (lv : Nat → Option ga_V) (σ' : ga_S) (z : Int), decode cX6_component pc = .ok (.ireturn, 1) → z = res.2 → (gt_O SX6 6 r res.1 σ' ∧ gt_F r (r + 14) σ0 σ') → ga_G X 0 0 K pc lv [.inl z] σ') (hr0 : r ≠ 0) {T : gt_T} {σ : ga_S} {l1 l2 : Int} {lv : Nat → Option ga_V} (hW : gt_O SX6 6 r T σ) (hF : gt_F r (r + 14) σ0 σ) (hl0 : lv 0 = some (.inr r)) (hl1 : lv 1 = some (.inl l1)) (hl2 : lv 2 = some (.inl l2)) (h : fX6_component T l1 l2 = some res) : ga_G X 0 0 K 0 lv [] σ := by
  unfold fX6_component at h
  refine ga_aload_n C dX6_component_0 rfl hl0 hr0 ?_
  obtain ⟨q1, hq, h⟩ := Option.bind_eq_some_iff.mp h
  refine gt_cVv (n := 0) (st := []) C (eX6_components X.2.1 D cI cZ K hr0 hW hq) gX6_component_X6_components rfl (by decide +kernel) rfl ⟨Nat.le_of_ble_eq_true rfl, Nat.le_of_ble_eq_true rfl⟩ hW.1 rfl rfl (Nat.le_of_ble_eq_true rfl) rfl dX6_component_1 (fun σ' hp => ?_)
  obtain ⟨hw, hf⟩ := hp
  have hF := hF.tr hf (Nat.le_refl _) (Nat.le_refl _)
  have hW := hw
  clear hf
  refine ga_aload_n C dX6_component_4 rfl hl0 hr0 ?_
  refine gt_geti C (iX6_component_X6) hW 19 rfl rfl (by decide) kX6_component_75 dX6_component_5 ?_
  refine ga_istore_n C dX6_component_8 rfl (by decide) ?_
  refine ga_iload_n C dX6_component_9 rfl (gt_un (by decide) hl1) ?_
  refine ga_if_lt (tgt := 23) C dX6_component_10 (by decide) (fun c1 => ?_) (fun c1 => ?_)
  · have h := gt_ip h c1
    exact gX6_component_23 C hRet hr0 hW hF h
  · have h := gt_in h c1
    obtain ⟨hg, h⟩ := gt_gd h
    have g19_0 := hg
    refine ga_iload_n C dX6_component_13 rfl (gt_un (by decide) hl1) ?_
    refine ga_iload_n C dX6_component_14 rfl gt_us ?_
    refine ga_aload_n C dX6_component_15 rfl (gt_un (by decide) hl0) hr0 ?_
    refine gt_geti C (iX6_component_X6) hW 6 rfl rfl (by decide) kX6_component_105 dX6_component_16 ?_
    refine ga_iadd C dX6_component_19 g19_0 ?_
    refine ga_icmp_lt (tgt := 27) C dX6_component_20 (by decide) (fun c1 => ?_) (fun c1 => ?_)
    · have h := gt_ip h c1
      refine ga_iload_n C dX6_component_27 rfl (gt_un (by decide) hl1) ?_
      refine ga_iload_n C dX6_component_28 rfl gt_us ?_
      refine ga_icmp_lt (tgt := 36) C dX6_component_29 (by decide) (fun c1 => ?_) (fun c1 => ?_)
      · have h := gt_ip h c1
        refine ga_iconst C dX6_component_36 ⟨by decide, by decide⟩ ?_
        exact gX6_component_37 C hRet hr0 hW hF (gt_un (by decide) hl0) (gt_un (by decide) hl1) (gt_un (by decide) hl2) gt_us h
      · have h := gt_in h c1
        refine ga_iconst C dX6_component_32 ⟨by decide, by decide⟩ ?_
        refine ga_goto (tgt := 37) C dX6_component_33 (by decide) ?_
        exact gX6_component_37 C hRet hr0 hW hF (gt_un (by decide) hl0) (gt_un (by decide) hl1) (gt_un (by decide) hl2) gt_us h
    · have h := gt_in h c1
      exact gX6_component_23 C hRet hr0 hW hF h
set_option maxHeartbeats 4000000 in
theorem eX6_component (l : Launch) (D : va_G) (cI cZ : ClassId) (K : Nat) {r : Nat} (hr0 : r ≠ 0) {σ : ga_S} {T : gt_T} (hW : gt_O SX6 6 r T σ) {l1 l2 : Int} {res : gt_T × Int} (h : fX6_component T l1 l2 = some res) : ga_Ev l (D, vwCl, cI, cZ) yX6_component wsX6_component (gt_rm 5 113) [] 0 0 K [.inr r, .inl l1, .inl l2] σ (fun σ' rv => (gt_O SX6 6 r res.1 σ' ∧ gt_F r (r + 14) σ σ') ∧ rv = some (.inl res.2)) := by
  refine ga_ofI (by decide +kernel) rfl gt_hcl (Nat.le_of_ble_eq_true rfl) (fun X hX C hret => ?_)
  exact gX6_component_0 C (fun pc lv σ' z d hz hp => hret pc lv σ' z d ⟨hp, by rw [hz]⟩) hr0 hW gt_F.rf rfl rfl rfl h
-- X6_face: face(II)I
def fX6_face_21 (T : gt_T) : Option (gt_T × Int) :=
  some (T, (0 : Int))
def fX6_face_143 (T : gt_T) (s0 : Int) : Option (gt_T × Int) :=
  some (T, s0)
def fX6_face_100 (k80 : gt_T × Int × Int × Int × Int × Int → Option (gt_T × Int)) (T : gt_T) (l2 l4 l5 l7 s0 : Int) : Option (gt_T × Int) :=
  (if (-2147483648 ≤ l5 + (1 : Int) ∧ l5 + (1 : Int) < 2147483648) then (fX6_turn T l7).bind (fun (q108 : Int) => k80 (T, l2, l4, l5 + (1 : Int), s0, q108)) else none)
def fX6_face_80 (k80 : gt_T × Int × Int × Int × Int × Int → Option (gt_T × Int)) (a : gt_T × Int × Int × Int × Int × Int) : Option (gt_T × Int) :=
  (if a.2.2.2.2.2 = a.2.2.1 then (if 0 ≤ a.2.1 then (if 0 ≤ a.2.2.2.2.1 then (if (a.2.2.2.2.1 % (2 : Int)) = (1 : Int) then (if (-2147483648 ≤ (-(Int.tdiv a.2.2.2.2.1 (2 : Int))) ∧ (-(Int.tdiv a.2.2.2.2.1 (2 : Int))) < 2147483648) then fX6_face_143 a.1 (-(Int.tdiv a.2.2.2.2.1 (2 : Int))) else none) else fX6_face_143 a.1 (Int.tdiv a.2.2.2.2.1 (2 : Int))) else none) else some (a.1, a.2.2.2.1)) else (if a.2.2.2.1 = a.2.1 then fX6_face_100 k80 a.1 a.2.1 a.2.2.1 a.2.2.2.1 a.2.2.2.2.2 a.2.2.2.2.2 else fX6_face_100 k80 a.1 a.2.1 a.2.2.1 a.2.2.2.1 a.2.2.2.2.2 a.2.2.2.2.1))
def fX6_face_70 (T : gt_T) (l2 l4 l5 s0 : Int) : Option (gt_T × Int) :=
  (fX6_turn T l4).bind (fun (q75 : Int) => gt_loop (fX6_face_80) gt_fuel (T, l2, l4, l5, s0, q75))
def fX6_face_25 (k25 : gt_T × Int × Int × Int → Option (gt_T × Int)) (a : gt_T × Int × Int × Int) : Option (gt_T × Int) :=
  (if (0 ≤ a.2.2.2 ∧ a.2.2.2 < 80) then (if (a.1.2 22 a.2.2.2.toNat) = a.2.1 then (if (0 ≤ (Int.tdiv a.2.2.2 (2 : Int)) ∧ (Int.tdiv a.2.2.2 (2 : Int)) < 80) ∧ (-2147483648 ≤ (2 : Int) * (a.1.2 14 (Int.tdiv a.2.2.2 (2 : Int)).toNat) ∧ (2 : Int) * (a.1.2 14 (Int.tdiv a.2.2.2 (2 : Int)).toNat) < 2147483648) ∧ 0 ≤ a.2.2.2 ∧ (-2147483648 ≤ ((2 : Int) * (a.1.2 14 (Int.tdiv a.2.2.2 (2 : Int)).toNat)) + (a.2.2.2 % (2 : Int)) ∧ ((2 : Int) * (a.1.2 14 (Int.tdiv a.2.2.2 (2 : Int)).toNat)) + (a.2.2.2 % (2 : Int)) < 2147483648) then (if a.2.2.1 = 0 then fX6_face_70 a.1 a.2.2.1 (((2 : Int) * (a.1.2 14 (Int.tdiv a.2.2.2 (2 : Int)).toNat)) + (a.2.2.2 % (2 : Int))) (1 : Int) (((2 : Int) * (a.1.2 14 (Int.tdiv a.2.2.2 (2 : Int)).toNat)) + (a.2.2.2 % (2 : Int))) else fX6_face_70 a.1 a.2.2.1 (((2 : Int) * (a.1.2 14 (Int.tdiv a.2.2.2 (2 : Int)).toNat)) + (a.2.2.2 % (2 : Int))) (1 : Int) (0 : Int)) else none) else (if (-2147483648 ≤ a.2.2.2 + (1 : Int) ∧ a.2.2.2 + (1 : Int) < 2147483648) then k25 (a.1, a.2.1, a.2.2.1, a.2.2.2 + (1 : Int)) else none)) else none)
def fX6_face (T : gt_T) (l1 l2 : Int) : Option (gt_T × Int) :=
  (fX6_findFaces T).bind (fun (q1 : gt_T) => (if l1 < 0 then fX6_face_21 q1 else (if l2 < (-1 : Int) then fX6_face_21 q1 else (if l1 < (q1.1 20) then gt_loop (fX6_face_25) gt_fuel (q1, l1, l2, (0 : Int)) else fX6_face_21 q1))))
theorem iX6_face_X6 : ∀ w ∈ u_ws RX6 TX6 23, w ∈ wsX6_face := by decide +kernel
theorem kX6_face_32 : Cond.fieldLink yX6_face.cls 32 (TX6 14).1 (TX6 14).2.1 (TX6 14).2.2.1 ∈ wsX6_face := by decide +kernel
theorem kX6_face_51 : Cond.fieldLink yX6_face.cls 51 (TX6 22).1 (TX6 22).2.1 (TX6 22).2.2.1 ∈ wsX6_face := by decide +kernel
theorem kX6_face_90 : Cond.fieldLink yX6_face.cls 90 (TX6 20).1 (TX6 20).2.1 (TX6 20).2.2.1 ∈ wsX6_face := by decide +kernel
set_option maxHeartbeats 4000000 in
theorem gX6_face_21 {X : ga_X} {D : va_G} {cI cZ : ClassId} {K : Nat} {r : Nat} {σ0 : ga_S} {res : gt_T × Int} (C : ga_C X cX6_face yX6_face wsX6_face [] (gt_rm 4 92) (D, vwCl, cI, cZ) 8) (hRet : ∀ (pc : Nat) (lv : Nat → Option ga_V) (σ' : ga_S) (z : Int), decode cX6_face pc = .ok (.ireturn, 1) → z = res.2 → (gt_O SX6 6 r res.1 σ' ∧ gt_F r (r + 14) σ0 σ') → ga_G X 0 0 K pc lv [.inl z] σ') (hr0 : r ≠ 0) {T : gt_T} {σ : ga_S} {lv : Nat → Option ga_V} (hW : gt_O SX6 6 r T σ) (hF : gt_F r (r + 14) σ0 σ) (h : fX6_face_21 T = some res) : ga_G X 0 0 K 21 lv [] σ := by
  unfold fX6_face_21 at h
  refine ga_iconst C dX6_face_21 ⟨by decide, by decide⟩ ?_
  cases h
  exact hRet _ _ _ _ dX6_face_22 rfl ⟨hW, hF⟩
set_option maxHeartbeats 4000000 in
theorem gX6_face_143 {X : ga_X} {D : va_G} {cI cZ : ClassId} {K : Nat} {r : Nat} {σ0 : ga_S} {res : gt_T × Int} (C : ga_C X cX6_face yX6_face wsX6_face [] (gt_rm 4 92) (D, vwCl, cI, cZ) 8) (hRet : ∀ (pc : Nat) (lv : Nat → Option ga_V) (σ' : ga_S) (z : Int), decode cX6_face pc = .ok (.ireturn, 1) → z = res.2 → (gt_O SX6 6 r res.1 σ' ∧ gt_F r (r + 14) σ0 σ') → ga_G X 0 0 K pc lv [.inl z] σ') (hr0 : r ≠ 0) {T : gt_T} {σ : ga_S} {s0 : Int} {lv : Nat → Option ga_V} (hW : gt_O SX6 6 r T σ) (hF : gt_F r (r + 14) σ0 σ) (h : fX6_face_143 T s0 = some res) : ga_G X 0 0 K 143 lv [.inl s0] σ := by
  unfold fX6_face_143 at h
  cases h
  exact hRet _ _ _ _ dX6_face_143 rfl ⟨hW, hF⟩
set_option maxHeartbeats 4000000 in
theorem gX6_face_100 {X : ga_X} {D : va_G} {cI cZ : ClassId} {K : Nat} {r : Nat} {σ0 : ga_S} {res : gt_T × Int} {k80 : gt_T × Int × Int × Int × Int × Int → Option (gt_T × Int)} (C : ga_C X cX6_face yX6_face wsX6_face [] (gt_rm 4 92) (D, vwCl, cI, cZ) 8) (hRet : ∀ (pc : Nat) (lv : Nat → Option ga_V) (σ' : ga_S) (z : Int), decode cX6_face pc = .ok (.ireturn, 1) → z = res.2 → (gt_O SX6 6 r res.1 σ' ∧ gt_F r (r + 14) σ0 σ') → ga_G X 0 0 K pc lv [.inl z] σ') (hr0 : r ≠ 0) (hk80 : ∀ (a : gt_T × Int × Int × Int × Int × Int) (σ : ga_S) (lv : Nat → Option ga_V), gt_O SX6 6 r a.1 σ → gt_F r (r + 14) σ0 σ → lv 0 = some (.inr r) → lv 2 = some (.inl a.2.1) → lv 4 = some (.inl a.2.2.1) → lv 5 = some (.inl a.2.2.2.1) → lv 6 = some (.inl a.2.2.2.2.1) → lv 7 = some (.inl a.2.2.2.2.2) → k80 a = some res → ga_G X 0 0 K 80 lv [] σ) {T : gt_T} {σ : ga_S} {l2 l4 l5 l7 s0 : Int} {lv : Nat → Option ga_V} (hW : gt_O SX6 6 r T σ) (hF : gt_F r (r + 14) σ0 σ) (hl0 : lv 0 = some (.inr r)) (hl2 : lv 2 = some (.inl l2)) (hl4 : lv 4 = some (.inl l4)) (hl5 : lv 5 = some (.inl l5)) (hl7 : lv 7 = some (.inl l7)) (h : fX6_face_100 k80 T l2 l4 l5 l7 s0 = some res) : ga_G X 0 0 K 100 lv [.inl s0] σ := by
  unfold fX6_face_100 at h
  obtain ⟨hg, h⟩ := gt_gd h
  have g102_0 := hg
  refine ga_istore C dX6_face_100 (by decide) ?_
  refine ga_iinc C dX6_face_102 (gt_un (by decide) hl5) g102_0 ?_
  refine ga_aload_n C dX6_face_105 rfl (gt_un (by decide) (gt_un (by decide) hl0)) hr0 ?_
  refine ga_iload C dX6_face_106 (gt_un (by decide) (gt_un (by decide) hl7)) ?_
  obtain ⟨q108, hq, h⟩ := Option.bind_eq_some_iff.mp h
  refine gt_cVi (n := 1) (st := []) C (eX6_turn X.2.1 D cI cZ K hr0 hW hq) gX6_face_X6_turn rfl (by decide +kernel) rfl ⟨Nat.le_of_ble_eq_true rfl, Nat.le_of_ble_eq_true rfl⟩ hW.1 rfl rfl (Nat.le_of_ble_eq_true rfl) rfl dX6_face_108 (fun σ' hp => ?_)
  subst hp
  refine ga_istore C dX6_face_111 (by decide) ?_
  refine ga_goto (tgt := 80) C dX6_face_113 (by decide) ?_
  exact hk80 (T, l2, l4, l5 + (1 : Int), s0, q108) _ _ hW hF (gt_un (by decide) (gt_un (by decide) (gt_un (by decide) hl0))) (gt_un (by decide) (gt_un (by decide) (gt_un (by decide) hl2))) (gt_un (by decide) (gt_un (by decide) (gt_un (by decide) hl4))) (gt_un (by decide) gt_us) (gt_un (by decide) (gt_un (by decide) gt_us)) gt_us h
set_option maxHeartbeats 4000000 in
theorem gX6_face_80 {X : ga_X} {D : va_G} {cI cZ : ClassId} {K : Nat} {r : Nat} {σ0 : ga_S} {res : gt_T × Int} (C : ga_C X cX6_face yX6_face wsX6_face [] (gt_rm 4 92) (D, vwCl, cI, cZ) 8) (hRet : ∀ (pc : Nat) (lv : Nat → Option ga_V) (σ' : ga_S) (z : Int), decode cX6_face pc = .ok (.ireturn, 1) → z = res.2 → (gt_O SX6 6 r res.1 σ' ∧ gt_F r (r + 14) σ0 σ') → ga_G X 0 0 K pc lv [.inl z] σ') (hr0 : r ≠ 0) : ∀ (n : Nat) (a : gt_T × Int × Int × Int × Int × Int) (σ : ga_S) (lv : Nat → Option ga_V), gt_O SX6 6 r a.1 σ → gt_F r (r + 14) σ0 σ → lv 0 = some (.inr r) → lv 2 = some (.inl a.2.1) → lv 4 = some (.inl a.2.2.1) → lv 5 = some (.inl a.2.2.2.1) → lv 6 = some (.inl a.2.2.2.2.1) → lv 7 = some (.inl a.2.2.2.2.2) → gt_loop (fX6_face_80) n a = some res → ga_G X 0 0 K 80 lv [] σ := by
  intro n
  induction n with
  | zero =>
    intro a _ lv _ _ _ _ _ _ _ _ h
    exact absurd (show (none : Option _) = some _ from h) (fun q => by cases q)
  | succ n hk80 =>
    intro a σ lv hW hF hl0 hl2 hl4 hl5 hl6 hl7 h
    have h : fX6_face_80 (gt_loop (fX6_face_80) n) a = some res := h
    revert hk80 h
    generalize gt_loop (fX6_face_80) n = k80
    intro hk80 h
    unfold fX6_face_80 at h
    refine ga_iload C dX6_face_80 hl7 ?_
    refine ga_iload C dX6_face_82 hl4 ?_
    refine ga_icmp_eq (tgt := 116) C dX6_face_84 (by decide) (fun c1 => ?_) (fun c1 => ?_)
    · have h := gt_ip h c1
      refine ga_iload_n C dX6_face_116 rfl hl2 ?_
      refine ga_if_ge (tgt := 123) C dX6_face_117 (by decide) (fun c1 => ?_) (fun c1 => ?_)
      · have h := gt_ip h c1
        obtain ⟨hg, h⟩ := gt_gd h
        have g126_0 := hg
        refine ga_iload C dX6_face_123 hl6 ?_
        refine ga_iconst C dX6_face_125 ⟨by decide, by decide⟩ ?_
        refine ga_irem C dX6_face_126 (by decide) g126_0 ?_
        refine ga_iconst C dX6_face_127 ⟨by decide, by decide⟩ ?_
        refine ga_icmp_ne (tgt := 139) C dX6_face_128 (by decide) (fun c1 => ?_) (fun c1 => ?_)
        · have h := gt_in h c1
          refine ga_iload C dX6_face_139 hl6 ?_
          refine ga_iconst C dX6_face_141 ⟨by decide, by decide⟩ ?_
          refine ga_idiv C dX6_face_142 (by decide) ?_
          exact gX6_face_143 C hRet hr0 hW hF h
        · have h := gt_ip h c1
          obtain ⟨hg, h⟩ := gt_gd h
          have g135_0 := hg
          refine ga_iload C dX6_face_131 hl6 ?_
          refine ga_iconst C dX6_face_133 ⟨by decide, by decide⟩ ?_
          refine ga_idiv C dX6_face_134 (by decide) ?_
          refine ga_ineg C dX6_face_135 g135_0 ?_
          refine ga_goto (tgt := 143) C dX6_face_136 (by decide) ?_
          exact gX6_face_143 C hRet hr0 hW hF h
      · have h := gt_in h c1
        refine ga_iload C dX6_face_120 hl5 ?_
        cases h
        exact hRet _ _ _ _ dX6_face_122 rfl ⟨hW, hF⟩
    · have h := gt_in h c1
      refine ga_iload C dX6_face_87 hl5 ?_
      refine ga_iload_n C dX6_face_89 rfl hl2 ?_
      refine ga_icmp_ne (tgt := 98) C dX6_face_90 (by decide) (fun c1 => ?_) (fun c1 => ?_)
      · have h := gt_in h c1
        refine ga_iload C dX6_face_98 hl6 ?_
        exact gX6_face_100 C hRet hr0 hk80 hW hF hl0 hl2 hl4 hl5 hl7 h
      · have h := gt_ip h c1
        refine ga_iload C dX6_face_93 hl7 ?_
        refine ga_goto (tgt := 100) C dX6_face_95 (by decide) ?_
        exact gX6_face_100 C hRet hr0 hk80 hW hF hl0 hl2 hl4 hl5 hl7 h
set_option maxHeartbeats 4000000 in
theorem gX6_face_70 {X : ga_X} {D : va_G} {cI cZ : ClassId} {K : Nat} {r : Nat} {σ0 : ga_S} {res : gt_T × Int} (C : ga_C X cX6_face yX6_face wsX6_face [] (gt_rm 4 92) (D, vwCl, cI, cZ) 8) (hRet : ∀ (pc : Nat) (lv : Nat → Option ga_V) (σ' : ga_S) (z : Int), decode cX6_face pc = .ok (.ireturn, 1) → z = res.2 → (gt_O SX6 6 r res.1 σ' ∧ gt_F r (r + 14) σ0 σ') → ga_G X 0 0 K pc lv [.inl z] σ') (hr0 : r ≠ 0) {T : gt_T} {σ : ga_S} {l2 l4 l5 s0 : Int} {lv : Nat → Option ga_V} (hW : gt_O SX6 6 r T σ) (hF : gt_F r (r + 14) σ0 σ) (hl0 : lv 0 = some (.inr r)) (hl2 : lv 2 = some (.inl l2)) (hl4 : lv 4 = some (.inl l4)) (hl5 : lv 5 = some (.inl l5)) (h : fX6_face_70 T l2 l4 l5 s0 = some res) : ga_G X 0 0 K 70 lv [.inl s0] σ := by
  unfold fX6_face_70 at h
  refine ga_istore C dX6_face_70 (by decide) ?_
  refine ga_aload_n C dX6_face_72 rfl (gt_un (by decide) hl0) hr0 ?_
  refine ga_iload C dX6_face_73 (gt_un (by decide) hl4) ?_
  obtain ⟨q75, hq, h⟩ := Option.bind_eq_some_iff.mp h
  refine gt_cVi (n := 1) (st := []) C (eX6_turn X.2.1 D cI cZ K hr0 hW hq) gX6_face_X6_turn rfl (by decide +kernel) rfl ⟨Nat.le_of_ble_eq_true rfl, Nat.le_of_ble_eq_true rfl⟩ hW.1 rfl rfl (Nat.le_of_ble_eq_true rfl) rfl dX6_face_75 (fun σ' hp => ?_)
  subst hp
  refine ga_istore C dX6_face_78 (by decide) ?_
  exact gX6_face_80 C hRet hr0 gt_fuel (T, l2, l4, l5, s0, q75) _ _ hW hF (gt_un (by decide) (gt_un (by decide) hl0)) (gt_un (by decide) (gt_un (by decide) hl2)) (gt_un (by decide) (gt_un (by decide) hl4)) (gt_un (by decide) (gt_un (by decide) hl5)) (gt_un (by decide) gt_us) gt_us h
set_option maxHeartbeats 4000000 in
theorem gX6_face_25 {X : ga_X} {D : va_G} {cI cZ : ClassId} {K : Nat} {r : Nat} {σ0 : ga_S} {res : gt_T × Int} (C : ga_C X cX6_face yX6_face wsX6_face [] (gt_rm 4 92) (D, vwCl, cI, cZ) 8) (hRet : ∀ (pc : Nat) (lv : Nat → Option ga_V) (σ' : ga_S) (z : Int), decode cX6_face pc = .ok (.ireturn, 1) → z = res.2 → (gt_O SX6 6 r res.1 σ' ∧ gt_F r (r + 14) σ0 σ') → ga_G X 0 0 K pc lv [.inl z] σ') (hr0 : r ≠ 0) : ∀ (n : Nat) (a : gt_T × Int × Int × Int) (σ : ga_S) (lv : Nat → Option ga_V), gt_O SX6 6 r a.1 σ → gt_F r (r + 14) σ0 σ → lv 0 = some (.inr r) → lv 1 = some (.inl a.2.1) → lv 2 = some (.inl a.2.2.1) → lv 3 = some (.inl a.2.2.2) → gt_loop (fX6_face_25) n a = some res → ga_G X 0 0 K 25 lv [] σ := by
  intro n
  induction n with
  | zero =>
    intro a _ lv _ _ _ _ _ _ h
    exact absurd (show (none : Option _) = some _ from h) (fun q => by cases q)
  | succ n hk25 =>
    intro a σ lv hW hF hl0 hl1 hl2 hl3 h
    have h : fX6_face_25 (gt_loop (fX6_face_25) n) a = some res := h
    revert hk25 h
    generalize gt_loop (fX6_face_25) n = k25
    intro hk25 h
    unfold fX6_face_25 at h
    obtain ⟨hg, h⟩ := gt_gd h
    have g30_0 := hg
    refine ga_aload_n C dX6_face_25 rfl hl0 hr0 ?_
    refine gt_geta C (iX6_face_X6) hW 22 rfl rfl (by decide) kX6_face_51 dX6_face_26 ?_
    refine ga_iload_n C dX6_face_29 rfl hl3 ?_
    refine gt_iald C hW 22 rfl g30_0.1 g30_0.2 dX6_face_30 ?_
    refine ga_iload_n C dX6_face_31 rfl hl1 ?_
    refine ga_icmp_eq (tgt := 41) C dX6_face_32 (by decide) (fun c1 => ?_) (fun c1 => ?_)
    · have h := gt_ip h c1
      obtain ⟨hg, h⟩ := gt_gd h
      obtain ⟨g49_0, g50_1, g53_2, g54_3⟩ := hg
      refine ga_iconst C dX6_face_41 ⟨by decide, by decide⟩ ?_
      refine ga_aload_n C dX6_face_42 rfl hl0 hr0 ?_
      refine gt_geta C (iX6_face_X6) hW 14 rfl rfl (by decide) kX6_face_32 dX6_face_43 ?_
      refine ga_iload_n C dX6_face_46 rfl hl3 ?_
      refine ga_iconst C dX6_face_47 ⟨by decide, by decide⟩ ?_
      refine ga_idiv C dX6_face_48 (by decide) ?_
      refine gt_iald C hW 14 rfl g49_0.1 g49_0.2 dX6_face_49 ?_
      refine ga_imul C dX6_face_50 g50_1 ?_
      refine ga_iload_n C dX6_face_51 rfl hl3 ?_
      refine ga_iconst C dX6_face_52 ⟨by decide, by decide⟩ ?_
      refine ga_irem C dX6_face_53 (by decide) g53_2 ?_
      refine ga_iadd C dX6_face_54 g54_3 ?_
      refine ga_istore C dX6_face_55 (by decide) ?_
      refine ga_iconst C dX6_face_57 ⟨by decide, by decide⟩ ?_
      refine ga_istore C dX6_face_58 (by decide) ?_
      refine ga_iload_n C dX6_face_60 rfl (gt_un (by decide) (gt_un (by decide) hl2)) ?_
      refine ga_if_ne (tgt := 69) C dX6_face_61 (by decide) (fun c1 => ?_) (fun c1 => ?_)
      · have h := gt_in h c1
        refine ga_iconst C dX6_face_69 ⟨by decide, by decide⟩ ?_
        exact gX6_face_70 C hRet hr0 hW hF (gt_un (by decide) (gt_un (by decide) hl0)) (gt_un (by decide) (gt_un (by decide) hl2)) (gt_un (by decide) gt_us) gt_us h
      · have h := gt_ip h c1
        refine ga_iload C dX6_face_64 (gt_un (by decide) gt_us) ?_
        refine ga_goto (tgt := 70) C dX6_face_66 (by decide) ?_
        exact gX6_face_70 C hRet hr0 hW hF (gt_un (by decide) (gt_un (by decide) hl0)) (gt_un (by decide) (gt_un (by decide) hl2)) (gt_un (by decide) gt_us) gt_us h
    · have h := gt_in h c1
      obtain ⟨hg, h⟩ := gt_gd h
      have g35_0 := hg
      refine ga_iinc C dX6_face_35 hl3 g35_0 ?_
      refine ga_goto (tgt := 25) C dX6_face_38 (by decide) ?_
      exact hk25 (a.1, a.2.1, a.2.2.1, a.2.2.2 + (1 : Int)) _ _ hW hF (gt_un (by decide) hl0) (gt_un (by decide) hl1) (gt_un (by decide) hl2) gt_us h
set_option maxHeartbeats 4000000 in
theorem gX6_face_0 {X : ga_X} {D : va_G} {cI cZ : ClassId} {K : Nat} {r : Nat} {σ0 : ga_S} {res : gt_T × Int} (C : ga_C X cX6_face yX6_face wsX6_face [] (gt_rm 4 92) (D, vwCl, cI, cZ) 8) (hRet : ∀ (pc : Nat) (lv : Nat → Option ga_V) (σ' : ga_S) (z : Int), decode cX6_face pc = .ok (.ireturn, 1) → z = res.2 → (gt_O SX6 6 r res.1 σ' ∧ gt_F r (r + 14) σ0 σ') → ga_G X 0 0 K pc lv [.inl z] σ') (hr0 : r ≠ 0) {T : gt_T} {σ : ga_S} {l1 l2 : Int} {lv : Nat → Option ga_V} (hW : gt_O SX6 6 r T σ) (hF : gt_F r (r + 14) σ0 σ) (hl0 : lv 0 = some (.inr r)) (hl1 : lv 1 = some (.inl l1)) (hl2 : lv 2 = some (.inl l2)) (h : fX6_face T l1 l2 = some res) : ga_G X 0 0 K 0 lv [] σ := by
  unfold fX6_face at h
  refine ga_aload_n C dX6_face_0 rfl hl0 hr0 ?_
  obtain ⟨q1, hq, h⟩ := Option.bind_eq_some_iff.mp h
  refine gt_cVv (n := 0) (st := []) C (eX6_findFaces X.2.1 D cI cZ K hr0 hW hq) gX6_face_X6_findFaces rfl (by decide +kernel) rfl ⟨Nat.le_of_ble_eq_true rfl, Nat.le_of_ble_eq_true rfl⟩ hW.1 rfl rfl (Nat.le_of_ble_eq_true rfl) rfl dX6_face_1 (fun σ' hp => ?_)
  obtain ⟨hw, hf⟩ := hp
  have hF := hF.tr hf (Nat.le_refl _) (Nat.le_refl _)
  have hW := hw
  clear hf
  refine ga_iload_n C dX6_face_4 rfl hl1 ?_
  refine ga_if_lt (tgt := 21) C dX6_face_5 (by decide) (fun c1 => ?_) (fun c1 => ?_)
  · have h := gt_ip h c1
    exact gX6_face_21 C hRet hr0 hW hF h
  · have h := gt_in h c1
    refine ga_iload_n C dX6_face_8 rfl hl2 ?_
    refine ga_iconst C dX6_face_9 ⟨by decide, by decide⟩ ?_
    refine ga_icmp_lt (tgt := 21) C dX6_face_10 (by decide) (fun c1 => ?_) (fun c1 => ?_)
    · have h := gt_ip h c1
      exact gX6_face_21 C hRet hr0 hW hF h
    · have h := gt_in h c1
      refine ga_iload_n C dX6_face_13 rfl hl1 ?_
      refine ga_aload_n C dX6_face_14 rfl hl0 hr0 ?_
      refine gt_geti C (iX6_face_X6) hW 20 rfl rfl (by decide) kX6_face_90 dX6_face_15 ?_
      refine ga_icmp_lt (tgt := 23) C dX6_face_18 (by decide) (fun c1 => ?_) (fun c1 => ?_)
      · have h := gt_ip h c1
        refine ga_iconst C dX6_face_23 ⟨by decide, by decide⟩ ?_
        refine ga_istore_n C dX6_face_24 rfl (by decide) ?_
        exact gX6_face_25 C hRet hr0 gt_fuel (q1, l1, l2, (0 : Int)) _ _ hW hF (gt_un (by decide) hl0) (gt_un (by decide) hl1) (gt_un (by decide) hl2) gt_us h
      · have h := gt_in h c1
        exact gX6_face_21 C hRet hr0 hW hF h
set_option maxHeartbeats 4000000 in
theorem eX6_face (l : Launch) (D : va_G) (cI cZ : ClassId) (K : Nat) {r : Nat} (hr0 : r ≠ 0) {σ : ga_S} {T : gt_T} (hW : gt_O SX6 6 r T σ) {l1 l2 : Int} {res : gt_T × Int} (h : fX6_face T l1 l2 = some res) : ga_Ev l (D, vwCl, cI, cZ) yX6_face wsX6_face (gt_rm 4 92) [] 0 0 K [.inr r, .inl l1, .inl l2] σ (fun σ' rv => (gt_O SX6 6 r res.1 σ' ∧ gt_F r (r + 14) σ σ') ∧ rv = some (.inl res.2)) := by
  refine ga_ofI (by decide +kernel) rfl gt_hcl (Nat.le_of_ble_eq_true rfl) (fun X hX C hret => ?_)
  exact gX6_face_0 C (fun pc lv σ' z d hz hp => hret pc lv σ' z d ⟨hp, by rw [hz]⟩) hr0 hW gt_F.rf rfl rfl rfl h
-- X6_change: change(I)Z
def fX6_change_12 (T : gt_T) : Option (gt_T × Int) :=
  (if ((0 : Int) = 0 ∨ (0 : Int) = 1) then some (T, (0 : Int)) else none)
def fX6_change_55 (k55 : gt_T × Int × Int → Option (gt_T × Int)) (a : gt_T × Int × Int) : Option (gt_T × Int) :=
  (if (4 : Int) ≤ a.2.2 then (if (0 ≤ a.2.1 ∧ a.2.1 < 20) ∧ (-2147483648 ≤ (-(a.1.2 9 a.2.1.toNat)) ∧ (-(a.1.2 9 a.2.1.toNat)) < 2147483648) ∧ ((1 : Int) = 0 ∨ (1 : Int) = 1) then some ((a.1.1, (va_up a.1.2 9 (va_up (a.1.2 9) a.2.1.toNat (-(a.1.2 9 a.2.1.toNat))))), (1 : Int)) else none) else (if (-2147483648 ≤ (4 : Int) * a.2.1 ∧ (4 : Int) * a.2.1 < 2147483648) ∧ (-2147483648 ≤ ((4 : Int) * a.2.1) + a.2.2 ∧ ((4 : Int) * a.2.1) + a.2.2 < 2147483648) ∧ (0 ≤ a.2.2 ∧ a.2.2 < 80) ∧ (0 ≤ (((4 : Int) * a.2.1) + a.2.2) ∧ (((4 : Int) * a.2.1) + a.2.2) < 80) ∧ (-2147483648 ≤ a.2.2 + (1 : Int) ∧ a.2.2 + (1 : Int) < 2147483648) then k55 ((a.1.1, (va_up a.1.2 10 (va_up (a.1.2 10) (((4 : Int) * a.2.1) + a.2.2).toNat (a.1.2 15 a.2.2.toNat)))), a.2.1, a.2.2 + (1 : Int)) else none))
def fX6_change_22 (k22 : gt_T × Int × Int × Int → Option (gt_T × Int)) (a : gt_T × Int × Int × Int) : Option (gt_T × Int) :=
  (if (4 : Int) ≤ a.2.2.2 then gt_loop (fX6_change_55) gt_fuel (a.1, a.2.1, (0 : Int)) else (if (-2147483648 ≤ (4 : Int) * a.2.1 ∧ (4 : Int) * a.2.1 < 2147483648) ∧ (-2147483648 ≤ a.2.2.1 + a.2.2.2 ∧ a.2.2.1 + a.2.2.2 < 2147483648) ∧ 0 ≤ (a.2.2.1 + a.2.2.2) ∧ (-2147483648 ≤ ((4 : Int) * a.2.1) + ((a.2.2.1 + a.2.2.2) % (4 : Int)) ∧ ((4 : Int) * a.2.1) + ((a.2.2.1 + a.2.2.2) % (4 : Int)) < 2147483648) ∧ (0 ≤ (((4 : Int) * a.2.1) + ((a.2.2.1 + a.2.2.2) % (4 : Int))) ∧ (((4 : Int) * a.2.1) + ((a.2.2.1 + a.2.2.2) % (4 : Int))) < 80) ∧ (0 ≤ a.2.2.2 ∧ a.2.2.2 < 80) ∧ (-2147483648 ≤ a.2.2.2 + (1 : Int) ∧ a.2.2.2 + (1 : Int) < 2147483648) then k22 ((a.1.1, (va_up a.1.2 15 (va_up (a.1.2 15) a.2.2.2.toNat (a.1.2 10 (((4 : Int) * a.2.1) + ((a.2.2.1 + a.2.2.2) % (4 : Int))).toNat)))), a.2.1, a.2.2.1, a.2.2.2 + (1 : Int)) else none))
def fX6_change (T : gt_T) (l1 : Int) : Option (gt_T × Int) :=
  (if l1 < 0 then fX6_change_12 T else (if l1 < (T.1 5) then (fX6_upperIn T l1).bind (fun (q16 : Int) => gt_loop (fX6_change_22) gt_fuel (T, l1, q16, (0 : Int))) else fX6_change_12 T))
theorem iX6_change_X6 : ∀ w ∈ u_ws RX6 TX6 23, w ∈ wsX6_change := by decide +kernel
theorem kX6_change_20 : Cond.fieldLink yX6_change.cls 20 (TX6 9).1 (TX6 9).2.1 (TX6 9).2.2.1 ∈ wsX6_change := by decide +kernel
theorem kX6_change_23 : Cond.fieldLink yX6_change.cls 23 (TX6 10).1 (TX6 10).2.1 (TX6 10).2.2.1 ∈ wsX6_change := by decide +kernel
theorem kX6_change_35 : Cond.fieldLink yX6_change.cls 35 (TX6 15).1 (TX6 15).2.1 (TX6 15).2.2.1 ∈ wsX6_change := by decide +kernel
theorem kX6_change_57 : Cond.fieldLink yX6_change.cls 57 (TX6 5).1 (TX6 5).2.1 (TX6 5).2.2.1 ∈ wsX6_change := by decide +kernel
set_option maxHeartbeats 4000000 in
theorem gX6_change_12 {X : ga_X} {D : va_G} {cI cZ : ClassId} {K : Nat} {r : Nat} {σ0 : ga_S} {res : gt_T × Int} (C : ga_C X cX6_change yX6_change wsX6_change [] (gt_rm 1 21) (D, vwCl, cI, cZ) 4) (hRet : ∀ (pc : Nat) (lv : Nat → Option ga_V) (σ' : ga_S) (z : Int), decode cX6_change pc = .ok (.ireturn, 1) → (z = 0 ∨ z = 1) → z = res.2 → (gt_O SX6 6 r res.1 σ' ∧ gt_F r (r + 14) σ0 σ') → ga_G X 0 0 K pc lv [.inl z] σ') (hr0 : r ≠ 0) {T : gt_T} {σ : ga_S} {lv : Nat → Option ga_V} (hW : gt_O SX6 6 r T σ) (hF : gt_F r (r + 14) σ0 σ) (h : fX6_change_12 T = some res) : ga_G X 0 0 K 12 lv [] σ := by
  unfold fX6_change_12 at h
  obtain ⟨hg, h⟩ := gt_gd h
  have g13_0 := hg
  refine ga_iconst C dX6_change_12 ⟨by decide, by decide⟩ ?_
  cases h
  exact hRet _ _ _ _ dX6_change_13 g13_0 rfl ⟨hW, hF⟩
set_option maxHeartbeats 4000000 in
theorem gX6_change_55 {X : ga_X} {D : va_G} {cI cZ : ClassId} {K : Nat} {r : Nat} {σ0 : ga_S} {res : gt_T × Int} (C : ga_C X cX6_change yX6_change wsX6_change [] (gt_rm 1 21) (D, vwCl, cI, cZ) 4) (hRet : ∀ (pc : Nat) (lv : Nat → Option ga_V) (σ' : ga_S) (z : Int), decode cX6_change pc = .ok (.ireturn, 1) → (z = 0 ∨ z = 1) → z = res.2 → (gt_O SX6 6 r res.1 σ' ∧ gt_F r (r + 14) σ0 σ') → ga_G X 0 0 K pc lv [.inl z] σ') (hr0 : r ≠ 0) : ∀ (n : Nat) (a : gt_T × Int × Int) (σ : ga_S) (lv : Nat → Option ga_V), gt_O SX6 6 r a.1 σ → gt_F r (r + 14) σ0 σ → lv 0 = some (.inr r) → lv 1 = some (.inl a.2.1) → lv 3 = some (.inl a.2.2) → gt_loop (fX6_change_55) n a = some res → ga_G X 0 0 K 55 lv [] σ := by
  intro n
  induction n with
  | zero =>
    intro a _ lv _ _ _ _ _ h
    exact absurd (show (none : Option _) = some _ from h) (fun q => by cases q)
  | succ n hk55 =>
    intro a σ lv hW hF hl0 hl1 hl3 h
    have h : fX6_change_55 (gt_loop (fX6_change_55) n) a = some res := h
    revert hk55 h
    generalize gt_loop (fX6_change_55) n = k55
    intro hk55 h
    unfold fX6_change_55 at h
    refine ga_iload_n C dX6_change_55 rfl hl3 ?_
    refine ga_iconst C dX6_change_56 ⟨by decide, by decide⟩ ?_
    refine ga_icmp_ge (tgt := 82) C dX6_change_57 (by decide) (fun c1 => ?_) (fun c1 => ?_)
    · have h := gt_ip h c1
      obtain ⟨hg, h⟩ := gt_gd h
      obtain ⟨g92_0, g93_1, g96_2⟩ := hg
      refine ga_aload_n C dX6_change_82 rfl hl0 hr0 ?_
      refine gt_geta C (iX6_change_X6) hW 9 rfl rfl (by decide) kX6_change_20 dX6_change_83 ?_
      refine ga_iload_n C dX6_change_86 rfl hl1 ?_
      refine ga_aload_n C dX6_change_87 rfl hl0 hr0 ?_
      refine gt_geta C (iX6_change_X6) hW 9 rfl rfl (by decide) kX6_change_20 dX6_change_88 ?_
      refine ga_iload_n C dX6_change_91 rfl hl1 ?_
      refine gt_iald C hW 9 rfl g92_0.1 g92_0.2 dX6_change_92 ?_
      refine ga_ineg C dX6_change_93 g93_1 ?_
      refine gt_iast C okX6 hW hF ⟨Nat.le_refl _, Nat.le_refl _⟩ 9 rfl g92_0.1 g92_0.2 dX6_change_94 (fun σ hW hF hf => ?_)
      refine ga_iconst C dX6_change_95 ⟨by decide, by decide⟩ ?_
      cases h
      exact hRet _ _ _ _ dX6_change_96 g96_2 rfl ⟨hW, hF⟩
    · have h := gt_in h c1
      obtain ⟨hg, h⟩ := gt_gd h
      obtain ⟨g66_0, g68_1, g74_2, g75_3, g76_4⟩ := hg
      refine ga_aload_n C dX6_change_60 rfl hl0 hr0 ?_
      refine gt_geta C (iX6_change_X6) hW 10 rfl rfl (by decide) kX6_change_23 dX6_change_61 ?_
      refine ga_iconst C dX6_change_64 ⟨by decide, by decide⟩ ?_
      refine ga_iload_n C dX6_change_65 rfl hl1 ?_
      refine ga_imul C dX6_change_66 g66_0 ?_
      refine ga_iload_n C dX6_change_67 rfl hl3 ?_
      refine ga_iadd C dX6_change_68 g68_1 ?_
      refine ga_aload_n C dX6_change_69 rfl hl0 hr0 ?_
      refine gt_geta C (iX6_change_X6) hW 15 rfl rfl (by decide) kX6_change_35 dX6_change_70 ?_
      refine ga_iload_n C dX6_change_73 rfl hl3 ?_
      refine gt_iald C hW 15 rfl g74_2.1 g74_2.2 dX6_change_74 ?_
      refine gt_iast C okX6 hW hF ⟨Nat.le_refl _, Nat.le_refl _⟩ 10 rfl g75_3.1 g75_3.2 dX6_change_75 (fun σ hW hF hf => ?_)
      refine ga_iinc C dX6_change_76 hl3 g76_4 ?_
      refine ga_goto (tgt := 55) C dX6_change_79 (by decide) ?_
      exact hk55 ((a.1.1, (va_up a.1.2 10 (va_up (a.1.2 10) (((4 : Int) * a.2.1) + a.2.2).toNat (a.1.2 15 a.2.2.toNat)))), a.2.1, a.2.2 + (1 : Int)) _ _ hW hF (gt_un (by decide) hl0) (gt_un (by decide) hl1) gt_us h
set_option maxHeartbeats 4000000 in
theorem gX6_change_22 {X : ga_X} {D : va_G} {cI cZ : ClassId} {K : Nat} {r : Nat} {σ0 : ga_S} {res : gt_T × Int} (C : ga_C X cX6_change yX6_change wsX6_change [] (gt_rm 1 21) (D, vwCl, cI, cZ) 4) (hRet : ∀ (pc : Nat) (lv : Nat → Option ga_V) (σ' : ga_S) (z : Int), decode cX6_change pc = .ok (.ireturn, 1) → (z = 0 ∨ z = 1) → z = res.2 → (gt_O SX6 6 r res.1 σ' ∧ gt_F r (r + 14) σ0 σ') → ga_G X 0 0 K pc lv [.inl z] σ') (hr0 : r ≠ 0) : ∀ (n : Nat) (a : gt_T × Int × Int × Int) (σ : ga_S) (lv : Nat → Option ga_V), gt_O SX6 6 r a.1 σ → gt_F r (r + 14) σ0 σ → lv 0 = some (.inr r) → lv 1 = some (.inl a.2.1) → lv 2 = some (.inl a.2.2.1) → lv 3 = some (.inl a.2.2.2) → gt_loop (fX6_change_22) n a = some res → ga_G X 0 0 K 22 lv [] σ := by
  intro n
  induction n with
  | zero =>
    intro a _ lv _ _ _ _ _ _ h
    exact absurd (show (none : Option _) = some _ from h) (fun q => by cases q)
  | succ n hk22 =>
    intro a σ lv hW hF hl0 hl1 hl2 hl3 h
    have h : fX6_change_22 (gt_loop (fX6_change_22) n) a = some res := h
    revert hk22 h
    generalize gt_loop (fX6_change_22) n = k22
    intro hk22 h
    unfold fX6_change_22 at h
    refine ga_iload_n C dX6_change_22 rfl hl3 ?_
    refine ga_iconst C dX6_change_23 ⟨by decide, by decide⟩ ?_
    refine ga_icmp_ge (tgt := 53) C dX6_change_24 (by decide) (fun c1 => ?_) (fun c1 => ?_)
    · have h := gt_ip h c1
      refine ga_iconst C dX6_change_53 ⟨by decide, by decide⟩ ?_
      refine ga_istore_n C dX6_change_54 rfl (by decide) ?_
      exact gX6_change_55 C hRet hr0 gt_fuel (a.1, a.2.1, (0 : Int)) _ _ hW hF (gt_un (by decide) hl0) (gt_un (by decide) hl1) gt_us h
    · have h := gt_in h c1
      obtain ⟨hg, h⟩ := gt_gd h
      obtain ⟨g38_0, g41_1, g43_2, g44_3, g45_4, g46_5, g47_6⟩ := hg
      refine ga_aload_n C dX6_change_27 rfl hl0 hr0 ?_
      refine gt_geta C (iX6_change_X6) hW 15 rfl rfl (by decide) kX6_change_35 dX6_change_28 ?_
      refine ga_iload_n C dX6_change_31 rfl hl3 ?_
      refine ga_aload_n C dX6_change_32 rfl hl0 hr0 ?_
      refine gt_geta C (iX6_change_X6) hW 10 rfl rfl (by decide) kX6_change_23 dX6_change_33 ?_
      refine ga_iconst C dX6_change_36 ⟨by decide, by decide⟩ ?_
      refine ga_iload_n C dX6_change_37 rfl hl1 ?_
      refine ga_imul C dX6_change_38 g38_0 ?_
      refine ga_iload_n C dX6_change_39 rfl hl2 ?_
      refine ga_iload_n C dX6_change_40 rfl hl3 ?_
      refine ga_iadd C dX6_change_41 g41_1 ?_
      refine ga_iconst C dX6_change_42 ⟨by decide, by decide⟩ ?_
      refine ga_irem C dX6_change_43 (by decide) g43_2 ?_
      refine ga_iadd C dX6_change_44 g44_3 ?_
      refine gt_iald C hW 10 rfl g45_4.1 g45_4.2 dX6_change_45 ?_
      refine gt_iast C okX6 hW hF ⟨Nat.le_refl _, Nat.le_refl _⟩ 15 rfl g46_5.1 g46_5.2 dX6_change_46 (fun σ hW hF hf => ?_)
      refine ga_iinc C dX6_change_47 hl3 g47_6 ?_
      refine ga_goto (tgt := 22) C dX6_change_50 (by decide) ?_
      exact hk22 ((a.1.1, (va_up a.1.2 15 (va_up (a.1.2 15) a.2.2.2.toNat (a.1.2 10 (((4 : Int) * a.2.1) + ((a.2.2.1 + a.2.2.2) % (4 : Int))).toNat)))), a.2.1, a.2.2.1, a.2.2.2 + (1 : Int)) _ _ hW hF (gt_un (by decide) hl0) (gt_un (by decide) hl1) (gt_un (by decide) hl2) gt_us h
set_option maxHeartbeats 4000000 in
theorem gX6_change_0 {X : ga_X} {D : va_G} {cI cZ : ClassId} {K : Nat} {r : Nat} {σ0 : ga_S} {res : gt_T × Int} (C : ga_C X cX6_change yX6_change wsX6_change [] (gt_rm 1 21) (D, vwCl, cI, cZ) 4) (hRet : ∀ (pc : Nat) (lv : Nat → Option ga_V) (σ' : ga_S) (z : Int), decode cX6_change pc = .ok (.ireturn, 1) → (z = 0 ∨ z = 1) → z = res.2 → (gt_O SX6 6 r res.1 σ' ∧ gt_F r (r + 14) σ0 σ') → ga_G X 0 0 K pc lv [.inl z] σ') (hr0 : r ≠ 0) {T : gt_T} {σ : ga_S} {l1 : Int} {lv : Nat → Option ga_V} (hW : gt_O SX6 6 r T σ) (hF : gt_F r (r + 14) σ0 σ) (hl0 : lv 0 = some (.inr r)) (hl1 : lv 1 = some (.inl l1)) (h : fX6_change T l1 = some res) : ga_G X 0 0 K 0 lv [] σ := by
  unfold fX6_change at h
  refine ga_iload_n C dX6_change_0 rfl hl1 ?_
  refine ga_if_lt (tgt := 12) C dX6_change_1 (by decide) (fun c1 => ?_) (fun c1 => ?_)
  · have h := gt_ip h c1
    exact gX6_change_12 C hRet hr0 hW hF h
  · have h := gt_in h c1
    refine ga_iload_n C dX6_change_4 rfl hl1 ?_
    refine ga_aload_n C dX6_change_5 rfl hl0 hr0 ?_
    refine gt_geti C (iX6_change_X6) hW 5 rfl rfl (by decide) kX6_change_57 dX6_change_6 ?_
    refine ga_icmp_lt (tgt := 14) C dX6_change_9 (by decide) (fun c1 => ?_) (fun c1 => ?_)
    · have h := gt_ip h c1
      refine ga_aload_n C dX6_change_14 rfl hl0 hr0 ?_
      refine ga_iload_n C dX6_change_15 rfl hl1 ?_
      obtain ⟨q16, hq, h⟩ := Option.bind_eq_some_iff.mp h
      refine gt_cVi (n := 1) (st := []) C (eX6_upperIn X.2.1 D cI cZ K hr0 hW hq) gX6_change_X6_upperIn rfl (by decide +kernel) rfl ⟨Nat.le_of_ble_eq_true rfl, Nat.le_of_ble_eq_true rfl⟩ hW.1 rfl rfl (Nat.le_of_ble_eq_true rfl) rfl dX6_change_16 (fun σ' hp => ?_)
      subst hp
      refine ga_istore_n C dX6_change_19 rfl (by decide) ?_
      refine ga_iconst C dX6_change_20 ⟨by decide, by decide⟩ ?_
      refine ga_istore_n C dX6_change_21 rfl (by decide) ?_
      exact gX6_change_22 C hRet hr0 gt_fuel (T, l1, q16, (0 : Int)) _ _ hW hF (gt_un (by decide) (gt_un (by decide) hl0)) (gt_un (by decide) (gt_un (by decide) hl1)) (gt_un (by decide) gt_us) gt_us h
    · have h := gt_in h c1
      exact gX6_change_12 C hRet hr0 hW hF h
set_option maxHeartbeats 4000000 in
theorem eX6_change (l : Launch) (D : va_G) (cI cZ : ClassId) (K : Nat) {r : Nat} (hr0 : r ≠ 0) {σ : ga_S} {T : gt_T} (hW : gt_O SX6 6 r T σ) {l1 : Int} {res : gt_T × Int} (h : fX6_change T l1 = some res) : ga_Ev l (D, vwCl, cI, cZ) yX6_change wsX6_change (gt_rm 1 21) [] 0 0 K [.inr r, .inl l1] σ (fun σ' rv => (gt_O SX6 6 r res.1 σ' ∧ gt_F r (r + 14) σ σ') ∧ rv = some (.inl res.2)) := by
  refine ga_ofZ (by decide +kernel) rfl gt_hcl (Nat.le_of_ble_eq_true rfl) (fun X hX C hret => ?_)
  exact gX6_change_0 C (fun pc lv σ' z d h01 hz hp => hret pc lv σ' z d h01 ⟨hp, by rw [hz]⟩) hr0 hW gt_F.rf rfl rfl h
-- X6_mirror: mirror()V
def fX6_mirror_2 (k2 : gt_T × Int → Option (gt_T)) (a : gt_T × Int) : Option (gt_T) :=
  (if (a.1.1 5) ≤ a.2 then some a.1 else (fX6_change a.1 a.2).bind (fun (q12 : gt_T × Int) => (if (-2147483648 ≤ a.2 + (1 : Int) ∧ a.2 + (1 : Int) < 2147483648) then k2 (q12.1, a.2 + (1 : Int)) else none)))
def fX6_mirror (T : gt_T) : Option (gt_T) :=
  gt_loop (fX6_mirror_2) gt_fuel (T, (0 : Int))
theorem iX6_mirror_X6 : ∀ w ∈ u_ws RX6 TX6 23, w ∈ wsX6_mirror := by decide +kernel
theorem kX6_mirror_57 : Cond.fieldLink yX6_mirror.cls 57 (TX6 5).1 (TX6 5).2.1 (TX6 5).2.2.1 ∈ wsX6_mirror := by decide +kernel
set_option maxHeartbeats 4000000 in
theorem gX6_mirror_2 {X : ga_X} {D : va_G} {cI cZ : ClassId} {K : Nat} {r : Nat} {σ0 : ga_S} {res : gt_T} (C : ga_C X cX6_mirror yX6_mirror wsX6_mirror [] (gt_rm 2 44) (D, vwCl, cI, cZ) 2) (hRet : ∀ (pc : Nat) (lv : Nat → Option ga_V) (σ' : ga_S), decode cX6_mirror pc = .ok (.return_, 1) → (gt_O SX6 6 r res σ' ∧ gt_F r (r + 14) σ0 σ') → ga_G X 0 0 K pc lv [] σ') (hr0 : r ≠ 0) : ∀ (n : Nat) (a : gt_T × Int) (σ : ga_S) (lv : Nat → Option ga_V), gt_O SX6 6 r a.1 σ → gt_F r (r + 14) σ0 σ → lv 0 = some (.inr r) → lv 1 = some (.inl a.2) → gt_loop (fX6_mirror_2) n a = some res → ga_G X 0 0 K 2 lv [] σ := by
  intro n
  induction n with
  | zero =>
    intro a _ lv _ _ _ _ h
    exact absurd (show (none : Option _) = some _ from h) (fun q => by cases q)
  | succ n hk2 =>
    intro a σ lv hW hF hl0 hl1 h
    have h : fX6_mirror_2 (gt_loop (fX6_mirror_2) n) a = some res := h
    revert hk2 h
    generalize gt_loop (fX6_mirror_2) n = k2
    intro hk2 h
    unfold fX6_mirror_2 at h
    refine ga_iload_n C dX6_mirror_2 rfl hl1 ?_
    refine ga_aload_n C dX6_mirror_3 rfl hl0 hr0 ?_
    refine gt_geti C (iX6_mirror_X6) hW 5 rfl rfl (by decide) kX6_mirror_57 dX6_mirror_4 ?_
    refine ga_icmp_ge (tgt := 22) C dX6_mirror_7 (by decide) (fun c1 => ?_) (fun c1 => ?_)
    · have h := gt_ip h c1
      cases h
      exact hRet _ _ _ dX6_mirror_22 ⟨hW, hF⟩
    · have h := gt_in h c1
      refine ga_aload_n C dX6_mirror_10 rfl hl0 hr0 ?_
      refine ga_iload_n C dX6_mirror_11 rfl hl1 ?_
      obtain ⟨q12, hq, h⟩ := Option.bind_eq_some_iff.mp h
      refine gt_cVi (n := 1) (st := []) C (eX6_change X.2.1 D cI cZ K hr0 hW hq) gX6_mirror_X6_change rfl (by decide +kernel) rfl ⟨Nat.le_of_ble_eq_true rfl, Nat.le_of_ble_eq_true rfl⟩ hW.1 rfl rfl (Nat.le_of_ble_eq_true rfl) rfl dX6_mirror_12 (fun σ' hp => ?_)
      obtain ⟨hw, hf⟩ := hp
      have hF := hF.tr hf (Nat.le_refl _) (Nat.le_refl _)
      have hW := hw
      clear hf
      obtain ⟨hg, h⟩ := gt_gd h
      have g16_0 := hg
      refine ga_pop C dX6_mirror_15 ?_
      refine ga_iinc C dX6_mirror_16 hl1 g16_0 ?_
      refine ga_goto (tgt := 2) C dX6_mirror_19 (by decide) ?_
      exact hk2 (q12.1, a.2 + (1 : Int)) _ _ hW hF (gt_un (by decide) hl0) gt_us h
set_option maxHeartbeats 4000000 in
theorem gX6_mirror_0 {X : ga_X} {D : va_G} {cI cZ : ClassId} {K : Nat} {r : Nat} {σ0 : ga_S} {res : gt_T} (C : ga_C X cX6_mirror yX6_mirror wsX6_mirror [] (gt_rm 2 44) (D, vwCl, cI, cZ) 2) (hRet : ∀ (pc : Nat) (lv : Nat → Option ga_V) (σ' : ga_S), decode cX6_mirror pc = .ok (.return_, 1) → (gt_O SX6 6 r res σ' ∧ gt_F r (r + 14) σ0 σ') → ga_G X 0 0 K pc lv [] σ') (hr0 : r ≠ 0) {T : gt_T} {σ : ga_S} {lv : Nat → Option ga_V} (hW : gt_O SX6 6 r T σ) (hF : gt_F r (r + 14) σ0 σ) (hl0 : lv 0 = some (.inr r)) (h : fX6_mirror T = some res) : ga_G X 0 0 K 0 lv [] σ := by
  unfold fX6_mirror at h
  refine ga_iconst C dX6_mirror_0 ⟨by decide, by decide⟩ ?_
  refine ga_istore_n C dX6_mirror_1 rfl (by decide) ?_
  exact gX6_mirror_2 C hRet hr0 gt_fuel (T, (0 : Int)) _ _ hW hF (gt_un (by decide) hl0) gt_us h
set_option maxHeartbeats 4000000 in
theorem eX6_mirror (l : Launch) (D : va_G) (cI cZ : ClassId) (K : Nat) {r : Nat} (hr0 : r ≠ 0) {σ : ga_S} {T : gt_T} (hW : gt_O SX6 6 r T σ) {res : gt_T} (h : fX6_mirror T = some res) : ga_Ev l (D, vwCl, cI, cZ) yX6_mirror wsX6_mirror (gt_rm 2 44) [] 0 0 K [.inr r] σ (fun σ' rv => (gt_O SX6 6 r res σ' ∧ gt_F r (r + 14) σ σ') ∧ rv = none) := by
  refine ga_ofV (by decide +kernel) rfl gt_hcl (Nat.le_of_ble_eq_true rfl) (fun X hX C hret => ?_)
  exact gX6_mirror_0 C (fun pc lv σ' d hp => hret pc lv σ' d ⟨hp, rfl⟩) hr0 hW gt_F.rf rfl h
