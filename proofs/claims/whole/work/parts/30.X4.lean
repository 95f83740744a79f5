-- X4_spots: spots()I
def fX4_spots (T : gt_T) : Option (Int) :=
  (if (-2147483648 ≤ (4 : Int) * (T.1 2) ∧ (4 : Int) * (T.1 2) < 2147483648) then some ((4 : Int) * (T.1 2)) else none)
theorem iX4_spots_X4 : ∀ w ∈ u_ws RX4 TX4 3, w ∈ wsX4_spots := by decide +kernel
theorem kX4_spots_18 : Cond.fieldLink yX4_spots.cls 18 (TX4 2).1 (TX4 2).2.1 (TX4 2).2.2.1 ∈ wsX4_spots := by decide +kernel
set_option maxHeartbeats 4000000 in
theorem gX4_spots_0 {X : ga_X} {D : va_G} {cI cZ : ClassId} {K : Nat} {r : Nat} {res : Int} {T : gt_T} {σ : ga_S} (C : ga_C X cX4_spots yX4_spots wsX4_spots [] (gt_rm 0 0) (D, vwCl, cI, cZ) 1) (hRet : ∀ (pc : Nat) (lv : Nat → Option ga_V) (σ' : ga_S) (z : Int), decode cX4_spots pc = .ok (.ireturn, 1) → z = res → (σ' = σ) → ga_G X 0 0 K pc lv [.inl z] σ') (hr0 : r ≠ 0) {lv : Nat → Option ga_V} (hW : gt_O SX4 4 r T σ) (hl0 : lv 0 = some (.inr r)) (h : fX4_spots T = some res) : ga_G X 0 0 K 0 lv [] σ := by
  unfold fX4_spots at h
  obtain ⟨hg, h⟩ := gt_gd h
  have g5_0 := hg
  refine ga_iconst C dX4_spots_0 ⟨by decide, by decide⟩ ?_
  refine ga_aload_n C dX4_spots_1 rfl hl0 hr0 ?_
  refine gt_geti C (iX4_spots_X4) hW 2 rfl rfl (by decide) kX4_spots_18 dX4_spots_2 ?_
  refine ga_imul C dX4_spots_5 g5_0 ?_
  cases h
  exact hRet _ _ _ _ dX4_spots_6 rfl rfl
set_option maxHeartbeats 4000000 in
theorem eX4_spots (l : Launch) (D : va_G) (cI cZ : ClassId) (K : Nat) {r : Nat} (hr0 : r ≠ 0) {σ : ga_S} {T : gt_T} (hW : gt_O SX4 4 r T σ) {res : Int} (h : fX4_spots T = some res) : ga_Ev l (D, vwCl, cI, cZ) yX4_spots wsX4_spots (gt_rm 0 0) [] 0 0 K [.inr r] σ (fun σ' rv => (σ' = σ) ∧ rv = some (.inl res)) := by
  refine ga_ofI (by decide +kernel) rfl gt_hcl (Nat.le_of_ble_eq_true rfl) (fun X hX C hret => ?_)
  exact gX4_spots_0 C (fun pc lv σ' z d hz hp => hret pc lv σ' z d ⟨hp, by rw [hz]⟩) hr0 hW rfl h
-- X4_label: label(I)I
def fX4_label_22 (T : gt_T) (s0 : Int) : Option (Int) :=
  some s0
def fX4_label_21 (T : gt_T) : Option (Int) :=
  fX4_label_22 T (0 : Int)
def fX4_label (T : gt_T) (l1 : Int) : Option (Int) :=
  (if l1 < 0 then fX4_label_21 T else (fX4_spots T).bind (fun (q6 : Int) => (if q6 ≤ l1 then fX4_label_21 T else (if (0 ≤ l1 ∧ l1 < 80) then fX4_label_22 T (T.2 1 l1.toNat) else none))))
theorem iX4_label_X4 : ∀ w ∈ u_ws RX4 TX4 3, w ∈ wsX4_label := by decide +kernel
theorem kX4_label_15 : Cond.fieldLink yX4_label.cls 15 (TX4 1).1 (TX4 1).2.1 (TX4 1).2.2.1 ∈ wsX4_label := by decide +kernel
set_option maxHeartbeats 4000000 in
theorem gX4_label_22 {X : ga_X} {D : va_G} {cI cZ : ClassId} {K : Nat} {r : Nat} {res : Int} {T : gt_T} {σ : ga_S} (C : ga_C X cX4_label yX4_label wsX4_label [] (gt_rm 1 20) (D, vwCl, cI, cZ) 2) (hRet : ∀ (pc : Nat) (lv : Nat → Option ga_V) (σ' : ga_S) (z : Int), decode cX4_label pc = .ok (.ireturn, 1) → z = res → (σ' = σ) → ga_G X 0 0 K pc lv [.inl z] σ') (hr0 : r ≠ 0) {s0 : Int} {lv : Nat → Option ga_V} (hW : gt_O SX4 4 r T σ) (h : fX4_label_22 T s0 = some res) : ga_G X 0 0 K 22 lv [.inl s0] σ := by
  unfold fX4_label_22 at h
  cases h
  exact hRet _ _ _ _ dX4_label_22 rfl rfl
set_option maxHeartbeats 4000000 in
theorem gX4_label_21 {X : ga_X} {D : va_G} {cI cZ : ClassId} {K : Nat} {r : Nat} {res : Int} {T : gt_T} {σ : ga_S} (C : ga_C X cX4_label yX4_label wsX4_label [] (gt_rm 1 20) (D, vwCl, cI, cZ) 2) (hRet : ∀ (pc : Nat) (lv : Nat → Option ga_V) (σ' : ga_S) (z : Int), decode cX4_label pc = .ok (.ireturn, 1) → z = res → (σ' = σ) → ga_G X 0 0 K pc lv [.inl z] σ') (hr0 : r ≠ 0) {lv : Nat → Option ga_V} (hW : gt_O SX4 4 r T σ) (h : fX4_label_21 T = some res) : ga_G X 0 0 K 21 lv [] σ := by
  unfold fX4_label_21 at h
  refine ga_iconst C dX4_label_21 ⟨by decide, by decide⟩ ?_
  exact gX4_label_22 C hRet hr0 hW h
set_option maxHeartbeats 4000000 in
theorem gX4_label_0 {X : ga_X} {D : va_G} {cI cZ : ClassId} {K : Nat} {r : Nat} {res : Int} {T : gt_T} {σ : ga_S} (C : ga_C X cX4_label yX4_label wsX4_label [] (gt_rm 1 20) (D, vwCl, cI, cZ) 2) (hRet : ∀ (pc : Nat) (lv : Nat → Option ga_V) (σ' : ga_S) (z : Int), decode cX4_label pc = .ok (.ireturn, 1) → z = res → (σ' = σ) → ga_G X 0 0 K pc lv [.inl z] σ') (hr0 : r ≠ 0) {l1 : Int} {lv : Nat → Option ga_V} (hW : gt_O SX4 4 r T σ) (hl0 : lv 0 = some (.inr r)) (hl1 : lv 1 = some (.inl l1)) (h : fX4_label T l1 = some res) : ga_G X 0 0 K 0 lv [] σ := by
  unfold fX4_label at h
  refine ga_iload_n C dX4_label_0 rfl hl1 ?_
  refine ga_if_lt (tgt := 21) C dX4_label_1 (by decide) (fun c1 => ?_) (fun c1 => ?_)
  · have h := gt_ip h c1
    exact gX4_label_21 C hRet hr0 hW h
  · have h := gt_in h c1
    refine ga_iload_n C dX4_label_4 rfl hl1 ?_
    refine ga_aload_n C dX4_label_5 rfl hl0 hr0 ?_
    obtain ⟨q6, hq, h⟩ := Option.bind_eq_some_iff.mp h
    refine gt_cVi (n := 0) (st := [.inl l1]) C (eX4_spots X.2.1 D cI cZ K hr0 hW hq) gX4_label_X4_spots rfl (by decide +kernel) rfl ⟨Nat.le_of_ble_eq_true rfl, Nat.le_of_ble_eq_true rfl⟩ hW.1 rfl rfl (Nat.le_of_ble_eq_true rfl) rfl dX4_label_6 (fun σ' hp => ?_)
    subst hp
    refine ga_icmp_ge (tgt := 21) C dX4_label_9 (by decide) (fun c1 => ?_) (fun c1 => ?_)
    · have h := gt_ip h c1
      exact gX4_label_21 C hRet hr0 hW h
    · have h := gt_in h c1
      obtain ⟨hg, h⟩ := gt_gd h
      have g17_0 := hg
      refine ga_aload_n C dX4_label_12 rfl hl0 hr0 ?_
      refine gt_geta C (iX4_label_X4) hW 1 rfl rfl (by decide) kX4_label_15 dX4_label_13 ?_
      refine ga_iload_n C dX4_label_16 rfl hl1 ?_
      refine gt_iald C hW 1 rfl g17_0.1 g17_0.2 dX4_label_17 ?_
      refine ga_goto (tgt := 22) C dX4_label_18 (by decide) ?_
      exact gX4_label_22 C hRet hr0 hW h
set_option maxHeartbeats 4000000 in
theorem eX4_label (l : Launch) (D : va_G) (cI cZ : ClassId) (K : Nat) {r : Nat} (hr0 : r ≠ 0) {σ : ga_S} {T : gt_T} (hW : gt_O SX4 4 r T σ) {l1 : Int} {res : Int} (h : fX4_label T l1 = some res) : ga_Ev l (D, vwCl, cI, cZ) yX4_label wsX4_label (gt_rm 1 20) [] 0 0 K [.inr r, .inl l1] σ (fun σ' rv => (σ' = σ) ∧ rv = some (.inl res)) := by
  refine ga_ofI (by decide +kernel) rfl gt_hcl (Nat.le_of_ble_eq_true rfl) (fun X hX C hret => ?_)
  exact gX4_label_0 C (fun pc lv σ' z d hz hp => hret pc lv σ' z d ⟨hp, by rw [hz]⟩) hr0 hW rfl rfl h
-- X4_lowerOut: lowerOut(I)I
def fX4_lowerOut (l0 : Int) : Option (Int) :=
  (if (-2147483648 ≤ (4 : Int) * l0 ∧ (4 : Int) * l0 < 2147483648) ∧ (-2147483648 ≤ ((4 : Int) * l0) + (2 : Int) ∧ ((4 : Int) * l0) + (2 : Int) < 2147483648) then some (((4 : Int) * l0) + (2 : Int)) else none)
set_option maxHeartbeats 4000000 in
theorem gX4_lowerOut_0 {X : ga_X} {D : va_G} {cI cZ : ClassId} {K : Nat} {res : Int} {σ : ga_S} (C : ga_C X cX4_lowerOut yX4_lowerOut wsX4_lowerOut [] (gt_rm 0 0) (D, vwCl, cI, cZ) 1) (hRet : ∀ (pc : Nat) (lv : Nat → Option ga_V) (σ' : ga_S) (z : Int), decode cX4_lowerOut pc = .ok (.ireturn, 1) → z = res → σ' = σ → ga_G X 0 0 K pc lv [.inl z] σ') {l0 : Int} {lv : Nat → Option ga_V} (hl0 : lv 0 = some (.inl l0)) (h : fX4_lowerOut l0 = some res) : ga_G X 0 0 K 0 lv [] σ := by
  unfold fX4_lowerOut at h
  obtain ⟨hg, h⟩ := gt_gd h
  obtain ⟨g2_0, g4_1⟩ := hg
  refine ga_iconst C dX4_lowerOut_0 ⟨by decide, by decide⟩ ?_
  refine ga_iload_n C dX4_lowerOut_1 rfl hl0 ?_
  refine ga_imul C dX4_lowerOut_2 g2_0 ?_
  refine ga_iconst C dX4_lowerOut_3 ⟨by decide, by decide⟩ ?_
  refine ga_iadd C dX4_lowerOut_4 g4_1 ?_
  cases h
  exact hRet _ _ _ _ dX4_lowerOut_5 rfl rfl
set_option maxHeartbeats 4000000 in
theorem eX4_lowerOut (l : Launch) (D : va_G) (cI cZ : ClassId) (K : Nat) {σ : ga_S} {l0 : Int} {res : Int} (h : fX4_lowerOut l0 = some res) : ga_Ev l (D, vwCl, cI, cZ) yX4_lowerOut wsX4_lowerOut (gt_rm 0 0) [] 0 0 K [.inl l0] σ (fun σ' rv => (σ' = σ) ∧ rv = some (.inl res)) := by
  refine ga_ofI (by decide +kernel) rfl gt_hcl (Nat.le_of_ble_eq_true rfl) (fun X hX C hret => ?_)
  exact gX4_lowerOut_0 C (fun pc lv σ' z d hz hp => hret pc lv σ' z d ⟨hp, by rw [hz]⟩) rfl h
-- X4_has: has(I)Z
def fX4_has_17 (T : gt_T) (s0 : Int) : Option (Int) :=
  (if (s0 = 0 ∨ s0 = 1) then some s0 else none)
def fX4_has_16 (T : gt_T) : Option (Int) :=
  fX4_has_17 T (0 : Int)
def fX4_has (T : gt_T) (l1 : Int) : Option (Int) :=
  (if l1 < 0 then fX4_has_16 T else (if (T.1 2) ≤ l1 then fX4_has_16 T else fX4_has_17 T (1 : Int)))
theorem iX4_has_X4 : ∀ w ∈ u_ws RX4 TX4 3, w ∈ wsX4_has := by decide +kernel
theorem kX4_has_18 : Cond.fieldLink yX4_has.cls 18 (TX4 2).1 (TX4 2).2.1 (TX4 2).2.2.1 ∈ wsX4_has := by decide +kernel
set_option maxHeartbeats 4000000 in
theorem gX4_has_17 {X : ga_X} {D : va_G} {cI cZ : ClassId} {K : Nat} {r : Nat} {res : Int} {T : gt_T} {σ : ga_S} (C : ga_C X cX4_has yX4_has wsX4_has [] (gt_rm 0 0) (D, vwCl, cI, cZ) 2) (hRet : ∀ (pc : Nat) (lv : Nat → Option ga_V) (σ' : ga_S) (z : Int), decode cX4_has pc = .ok (.ireturn, 1) → (z = 0 ∨ z = 1) → z = res → (σ' = σ) → ga_G X 0 0 K pc lv [.inl z] σ') (hr0 : r ≠ 0) {s0 : Int} {lv : Nat → Option ga_V} (hW : gt_O SX4 4 r T σ) (h : fX4_has_17 T s0 = some res) : ga_G X 0 0 K 17 lv [.inl s0] σ := by
  unfold fX4_has_17 at h
  obtain ⟨hg, h⟩ := gt_gd h
  have g17_0 := hg
  cases h
  exact hRet _ _ _ _ dX4_has_17 g17_0 rfl rfl
set_option maxHeartbeats 4000000 in
theorem gX4_has_16 {X : ga_X} {D : va_G} {cI cZ : ClassId} {K : Nat} {r : Nat} {res : Int} {T : gt_T} {σ : ga_S} (C : ga_C X cX4_has yX4_has wsX4_has [] (gt_rm 0 0) (D, vwCl, cI, cZ) 2) (hRet : ∀ (pc : Nat) (lv : Nat → Option ga_V) (σ' : ga_S) (z : Int), decode cX4_has pc = .ok (.ireturn, 1) → (z = 0 ∨ z = 1) → z = res → (σ' = σ) → ga_G X 0 0 K pc lv [.inl z] σ') (hr0 : r ≠ 0) {lv : Nat → Option ga_V} (hW : gt_O SX4 4 r T σ) (h : fX4_has_16 T = some res) : ga_G X 0 0 K 16 lv [] σ := by
  unfold fX4_has_16 at h
  refine ga_iconst C dX4_has_16 ⟨by decide, by decide⟩ ?_
  exact gX4_has_17 C hRet hr0 hW h
set_option maxHeartbeats 4000000 in
theorem gX4_has_0 {X : ga_X} {D : va_G} {cI cZ : ClassId} {K : Nat} {r : Nat} {res : Int} {T : gt_T} {σ : ga_S} (C : ga_C X cX4_has yX4_has wsX4_has [] (gt_rm 0 0) (D, vwCl, cI, cZ) 2) (hRet : ∀ (pc : Nat) (lv : Nat → Option ga_V) (σ' : ga_S) (z : Int), decode cX4_has pc = .ok (.ireturn, 1) → (z = 0 ∨ z = 1) → z = res → (σ' = σ) → ga_G X 0 0 K pc lv [.inl z] σ') (hr0 : r ≠ 0) {l1 : Int} {lv : Nat → Option ga_V} (hW : gt_O SX4 4 r T σ) (hl0 : lv 0 = some (.inr r)) (hl1 : lv 1 = some (.inl l1)) (h : fX4_has T l1 = some res) : ga_G X 0 0 K 0 lv [] σ := by
  unfold fX4_has at h
  refine ga_iload_n C dX4_has_0 rfl hl1 ?_
  refine ga_if_lt (tgt := 16) C dX4_has_1 (by decide) (fun c1 => ?_) (fun c1 => ?_)
  · have h := gt_ip h c1
    exact gX4_has_16 C hRet hr0 hW h
  · have h := gt_in h c1
    refine ga_iload_n C dX4_has_4 rfl hl1 ?_
    refine ga_aload_n C dX4_has_5 rfl hl0 hr0 ?_
    refine gt_geti C (iX4_has_X4) hW 2 rfl rfl (by decide) kX4_has_18 dX4_has_6 ?_
    refine ga_icmp_ge (tgt := 16) C dX4_has_9 (by decide) (fun c1 => ?_) (fun c1 => ?_)
    · have h := gt_ip h c1
      exact gX4_has_16 C hRet hr0 hW h
    · have h := gt_in h c1
      refine ga_iconst C dX4_has_12 ⟨by decide, by decide⟩ ?_
      refine ga_goto (tgt := 17) C dX4_has_13 (by decide) ?_
      exact gX4_has_17 C hRet hr0 hW h
set_option maxHeartbeats 4000000 in
theorem eX4_has (l : Launch) (D : va_G) (cI cZ : ClassId) (K : Nat) {r : Nat} (hr0 : r ≠ 0) {σ : ga_S} {T : gt_T} (hW : gt_O SX4 4 r T σ) {l1 : Int} {res : Int} (h : fX4_has T l1 = some res) : ga_Ev l (D, vwCl, cI, cZ) yX4_has wsX4_has (gt_rm 0 0) [] 0 0 K [.inr r, .inl l1] σ (fun σ' rv => (σ' = σ) ∧ rv = some (.inl res)) := by
  refine ga_ofZ (by decide +kernel) rfl gt_hcl (Nat.le_of_ble_eq_true rfl) (fun X hX C hret => ?_)
  exact gX4_has_0 C (fun pc lv σ' z d h01 hz hp => hret pc lv σ' z d h01 ⟨hp, by rw [hz]⟩) hr0 hW rfl rfl h
-- X4_sign: sign(I)I
def fX4_sign_18 (T : gt_T) (s0 : Int) : Option (Int) :=
  some s0
def fX4_sign (T : gt_T) (l1 : Int) : Option (Int) :=
  (fX4_has T l1).bind (fun (q2 : Int) => (if q2 = 0 then fX4_sign_18 T (0 : Int) else (if (0 ≤ l1 ∧ l1 < 20) then fX4_sign_18 T (T.2 0 l1.toNat) else none)))
theorem iX4_sign_X4 : ∀ w ∈ u_ws RX4 TX4 3, w ∈ wsX4_sign := by decide +kernel
theorem kX4_sign_9 : Cond.fieldLink yX4_sign.cls 9 (TX4 0).1 (TX4 0).2.1 (TX4 0).2.2.1 ∈ wsX4_sign := by decide +kernel
set_option maxHeartbeats 4000000 in
theorem gX4_sign_18 {X : ga_X} {D : va_G} {cI cZ : ClassId} {K : Nat} {r : Nat} {res : Int} {T : gt_T} {σ : ga_S} (C : ga_C X cX4_sign yX4_sign wsX4_sign [] (gt_rm 1 21) (D, vwCl, cI, cZ) 2) (hRet : ∀ (pc : Nat) (lv : Nat → Option ga_V) (σ' : ga_S) (z : Int), decode cX4_sign pc = .ok (.ireturn, 1) → z = res → (σ' = σ) → ga_G X 0 0 K pc lv [.inl z] σ') (hr0 : r ≠ 0) {s0 : Int} {lv : Nat → Option ga_V} (hW : gt_O SX4 4 r T σ) (h : fX4_sign_18 T s0 = some res) : ga_G X 0 0 K 18 lv [.inl s0] σ := by
  unfold fX4_sign_18 at h
  cases h
  exact hRet _ _ _ _ dX4_sign_18 rfl rfl
set_option maxHeartbeats 4000000 in
theorem gX4_sign_0 {X : ga_X} {D : va_G} {cI cZ : ClassId} {K : Nat} {r : Nat} {res : Int} {T : gt_T} {σ : ga_S} (C : ga_C X cX4_sign yX4_sign wsX4_sign [] (gt_rm 1 21) (D, vwCl, cI, cZ) 2) (hRet : ∀ (pc : Nat) (lv : Nat → Option ga_V) (σ' : ga_S) (z : Int), decode cX4_sign pc = .ok (.ireturn, 1) → z = res → (σ' = σ) → ga_G X 0 0 K pc lv [.inl z] σ') (hr0 : r ≠ 0) {l1 : Int} {lv : Nat → Option ga_V} (hW : gt_O SX4 4 r T σ) (hl0 : lv 0 = some (.inr r)) (hl1 : lv 1 = some (.inl l1)) (h : fX4_sign T l1 = some res) : ga_G X 0 0 K 0 lv [] σ := by
  unfold fX4_sign at h
  refine ga_aload_n C dX4_sign_0 rfl hl0 hr0 ?_
  refine ga_iload_n C dX4_sign_1 rfl hl1 ?_
  obtain ⟨q2, hq, h⟩ := Option.bind_eq_some_iff.mp h
  refine gt_cVi (n := 1) (st := []) C (eX4_has X.2.1 D cI cZ K hr0 hW hq) gX4_sign_X4_has rfl (by decide +kernel) rfl ⟨Nat.le_of_ble_eq_true rfl, Nat.le_of_ble_eq_true rfl⟩ hW.1 rfl rfl (Nat.le_of_ble_eq_true rfl) rfl dX4_sign_2 (fun σ' hp => ?_)
  subst hp
  refine ga_if_eq (tgt := 17) C dX4_sign_5 (by decide) (fun c1 => ?_) (fun c1 => ?_)
  · have h := gt_ip h c1
    refine ga_iconst C dX4_sign_17 ⟨by decide, by decide⟩ ?_
    exact gX4_sign_18 C hRet hr0 hW h
  · have h := gt_in h c1
    obtain ⟨hg, h⟩ := gt_gd h
    have g13_0 := hg
    refine ga_aload_n C dX4_sign_8 rfl hl0 hr0 ?_
    refine gt_geta C (iX4_sign_X4) hW 0 rfl rfl (by decide) kX4_sign_9 dX4_sign_9 ?_
    refine ga_iload_n C dX4_sign_12 rfl hl1 ?_
    refine gt_iald C hW 0 rfl g13_0.1 g13_0.2 dX4_sign_13 ?_
    refine ga_goto (tgt := 18) C dX4_sign_14 (by decide) ?_
    exact gX4_sign_18 C hRet hr0 hW h
set_option maxHeartbeats 4000000 in
theorem eX4_sign (l : Launch) (D : va_G) (cI cZ : ClassId) (K : Nat) {r : Nat} (hr0 : r ≠ 0) {σ : ga_S} {T : gt_T} (hW : gt_O SX4 4 r T σ) {l1 : Int} {res : Int} (h : fX4_sign T l1 = some res) : ga_Ev l (D, vwCl, cI, cZ) yX4_sign wsX4_sign (gt_rm 1 21) [] 0 0 K [.inr r, .inl l1] σ (fun σ' rv => (σ' = σ) ∧ rv = some (.inl res)) := by
  refine ga_ofI (by decide +kernel) rfl gt_hcl (Nat.le_of_ble_eq_true rfl) (fun X hX C hret => ?_)
  exact gX4_sign_0 C (fun pc lv σ' z d hz hp => hret pc lv σ' z d ⟨hp, by rw [hz]⟩) hr0 hW rfl rfl h
-- X4_upperOut: upperOut(I)I
def fX4_upperOut_17 (T : gt_T) (s0 s1 : Int) : Option (Int) :=
  (if (-2147483648 ≤ s0 + s1 ∧ s0 + s1 < 2147483648) then some (s0 + s1) else none)
def fX4_upperOut (T : gt_T) (l1 : Int) : Option (Int) :=
  (if (-2147483648 ≤ (4 : Int) * l1 ∧ (4 : Int) * l1 < 2147483648) then (fX4_sign T l1).bind (fun (q5 : Int) => (if q5 = (1 : Int) then fX4_upperOut_17 T ((4 : Int) * l1) (1 : Int) else fX4_upperOut_17 T ((4 : Int) * l1) (3 : Int))) else none)
set_option maxHeartbeats 4000000 in
theorem gX4_upperOut_17 {X : ga_X} {D : va_G} {cI cZ : ClassId} {K : Nat} {r : Nat} {res : Int} {T : gt_T} {σ : ga_S} (C : ga_C X cX4_upperOut yX4_upperOut wsX4_upperOut [] (gt_rm 2 42) (D, vwCl, cI, cZ) 2) (hRet : ∀ (pc : Nat) (lv : Nat → Option ga_V) (σ' : ga_S) (z : Int), decode cX4_upperOut pc = .ok (.ireturn, 1) → z = res → (σ' = σ) → ga_G X 0 0 K pc lv [.inl z] σ') (hr0 : r ≠ 0) {s0 s1 : Int} {lv : Nat → Option ga_V} (hW : gt_O SX4 4 r T σ) (h : fX4_upperOut_17 T s0 s1 = some res) : ga_G X 0 0 K 17 lv [.inl s1, .inl s0] σ := by
  unfold fX4_upperOut_17 at h
  obtain ⟨hg, h⟩ := gt_gd h
  have g17_0 := hg
  refine ga_iadd C dX4_upperOut_17 g17_0 ?_
  cases h
  exact hRet _ _ _ _ dX4_upperOut_18 rfl rfl
set_option maxHeartbeats 4000000 in
theorem gX4_upperOut_0 {X : ga_X} {D : va_G} {cI cZ : ClassId} {K : Nat} {r : Nat} {res : Int} {T : gt_T} {σ : ga_S} (C : ga_C X cX4_upperOut yX4_upperOut wsX4_upperOut [] (gt_rm 2 42) (D, vwCl, cI, cZ) 2) (hRet : ∀ (pc : Nat) (lv : Nat → Option ga_V) (σ' : ga_S) (z : Int), decode cX4_upperOut pc = .ok (.ireturn, 1) → z = res → (σ' = σ) → ga_G X 0 0 K pc lv [.inl z] σ') (hr0 : r ≠ 0) {l1 : Int} {lv : Nat → Option ga_V} (hW : gt_O SX4 4 r T σ) (hl0 : lv 0 = some (.inr r)) (hl1 : lv 1 = some (.inl l1)) (h : fX4_upperOut T l1 = some res) : ga_G X 0 0 K 0 lv [] σ := by
  unfold fX4_upperOut at h
  obtain ⟨hg, h⟩ := gt_gd h
  have g2_0 := hg
  refine ga_iconst C dX4_upperOut_0 ⟨by decide, by decide⟩ ?_
  refine ga_iload_n C dX4_upperOut_1 rfl hl1 ?_
  refine ga_imul C dX4_upperOut_2 g2_0 ?_
  refine ga_aload_n C dX4_upperOut_3 rfl hl0 hr0 ?_
  refine ga_iload_n C dX4_upperOut_4 rfl hl1 ?_
  obtain ⟨q5, hq, h⟩ := Option.bind_eq_some_iff.mp h
  refine gt_cVi (n := 1) (st := [.inl ((4 : Int) * l1)]) C (eX4_sign X.2.1 D cI cZ K hr0 hW hq) gX4_upperOut_X4_sign rfl (by decide +kernel) rfl ⟨Nat.le_of_ble_eq_true rfl, Nat.le_of_ble_eq_true rfl⟩ hW.1 rfl rfl (Nat.le_of_ble_eq_true rfl) rfl dX4_upperOut_5 (fun σ' hp => ?_)
  subst hp
  refine ga_iconst C dX4_upperOut_8 ⟨by decide, by decide⟩ ?_
  refine ga_icmp_ne (tgt := 16) C dX4_upperOut_9 (by decide) (fun c1 => ?_) (fun c1 => ?_)
  · have h := gt_in h c1
    refine ga_iconst C dX4_upperOut_16 ⟨by decide, by decide⟩ ?_
    exact gX4_upperOut_17 C hRet hr0 hW h
  · have h := gt_ip h c1
    refine ga_iconst C dX4_upperOut_12 ⟨by decide, by decide⟩ ?_
    refine ga_goto (tgt := 17) C dX4_upperOut_13 (by decide) ?_
    exact gX4_upperOut_17 C hRet hr0 hW h
set_option maxHeartbeats 4000000 in
theorem eX4_upperOut (l : Launch) (D : va_G) (cI cZ : ClassId) (K : Nat) {r : Nat} (hr0 : r ≠ 0) {σ : ga_S} {T : gt_T} (hW : gt_O SX4 4 r T σ) {l1 : Int} {res : Int} (h : fX4_upperOut T l1 = some res) : ga_Ev l (D, vwCl, cI, cZ) yX4_upperOut wsX4_upperOut (gt_rm 2 42) [] 0 0 K [.inr r, .inl l1] σ (fun σ' rv => (σ' = σ) ∧ rv = some (.inl res)) := by
  refine ga_ofI (by decide +kernel) rfl gt_hcl (Nat.le_of_ble_eq_true rfl) (fun X hX C hret => ?_)
  exact gX4_upperOut_0 C (fun pc lv σ' z d hz hp => hret pc lv σ' z d ⟨hp, by rw [hz]⟩) hr0 hW rfl rfl h
-- X4_goesOut: goesOut(I)Z
def fX4_goesOut_26 (T : gt_T) (s0 : Int) : Option (Int) :=
  (if (s0 = 0 ∨ s0 = 1) then some s0 else none)
def fX4_goesOut_21 (T : gt_T) : Option (Int) :=
  fX4_goesOut_26 T (1 : Int)
def fX4_goesOut (T : gt_T) (l1 : Int) : Option (Int) :=
  (fX4_lowerOut (Int.tdiv l1 (4 : Int))).bind (fun (q6 : Int) => (if l1 = q6 then fX4_goesOut_21 T else (fX4_upperOut T (Int.tdiv l1 (4 : Int))).bind (fun (q15 : Int) => (if l1 = q15 then fX4_goesOut_21 T else fX4_goesOut_26 T (0 : Int)))))
set_option maxHeartbeats 4000000 in
theorem gX4_goesOut_26 {X : ga_X} {D : va_G} {cI cZ : ClassId} {K : Nat} {r : Nat} {res : Int} {T : gt_T} {σ : ga_S} (C : ga_C X cX4_goesOut yX4_goesOut wsX4_goesOut [] (gt_rm 3 63) (D, vwCl, cI, cZ) 3) (hRet : ∀ (pc : Nat) (lv : Nat → Option ga_V) (σ' : ga_S) (z : Int), decode cX4_goesOut pc = .ok (.ireturn, 1) → (z = 0 ∨ z = 1) → z = res → (σ' = σ) → ga_G X 0 0 K pc lv [.inl z] σ') (hr0 : r ≠ 0) {s0 : Int} {lv : Nat → Option ga_V} (hW : gt_O SX4 4 r T σ) (h : fX4_goesOut_26 T s0 = some res) : ga_G X 0 0 K 26 lv [.inl s0] σ := by
  unfold fX4_goesOut_26 at h
  obtain ⟨hg, h⟩ := gt_gd h
  have g26_0 := hg
  cases h
  exact hRet _ _ _ _ dX4_goesOut_26 g26_0 rfl rfl
set_option maxHeartbeats 4000000 in
theorem gX4_goesOut_21 {X : ga_X} {D : va_G} {cI cZ : ClassId} {K : Nat} {r : Nat} {res : Int} {T : gt_T} {σ : ga_S} (C : ga_C X cX4_goesOut yX4_goesOut wsX4_goesOut [] (gt_rm 3 63) (D, vwCl, cI, cZ) 3) (hRet : ∀ (pc : Nat) (lv : Nat → Option ga_V) (σ' : ga_S) (z : Int), decode cX4_goesOut pc = .ok (.ireturn, 1) → (z = 0 ∨ z = 1) → z = res → (σ' = σ) → ga_G X 0 0 K pc lv [.inl z] σ') (hr0 : r ≠ 0) {lv : Nat → Option ga_V} (hW : gt_O SX4 4 r T σ) (h : fX4_goesOut_21 T = some res) : ga_G X 0 0 K 21 lv [] σ := by
  unfold fX4_goesOut_21 at h
  refine ga_iconst C dX4_goesOut_21 ⟨by decide, by decide⟩ ?_
  refine ga_goto (tgt := 26) C dX4_goesOut_22 (by decide) ?_
  exact gX4_goesOut_26 C hRet hr0 hW h
set_option maxHeartbeats 4000000 in
theorem gX4_goesOut_0 {X : ga_X} {D : va_G} {cI cZ : ClassId} {K : Nat} {r : Nat} {res : Int} {T : gt_T} {σ : ga_S} (C : ga_C X cX4_goesOut yX4_goesOut wsX4_goesOut [] (gt_rm 3 63) (D, vwCl, cI, cZ) 3) (hRet : ∀ (pc : Nat) (lv : Nat → Option ga_V) (σ' : ga_S) (z : Int), decode cX4_goesOut pc = .ok (.ireturn, 1) → (z = 0 ∨ z = 1) → z = res → (σ' = σ) → ga_G X 0 0 K pc lv [.inl z] σ') (hr0 : r ≠ 0) {l1 : Int} {lv : Nat → Option ga_V} (hW : gt_O SX4 4 r T σ) (hl0 : lv 0 = some (.inr r)) (hl1 : lv 1 = some (.inl l1)) (h : fX4_goesOut T l1 = some res) : ga_G X 0 0 K 0 lv [] σ := by
  unfold fX4_goesOut at h
  refine ga_iload_n C dX4_goesOut_0 rfl hl1 ?_
  refine ga_iconst C dX4_goesOut_1 ⟨by decide, by decide⟩ ?_
  refine ga_idiv C dX4_goesOut_2 (by decide) ?_
  refine ga_istore_n C dX4_goesOut_3 rfl (by decide) ?_
  refine ga_iload_n C dX4_goesOut_4 rfl (gt_un (by decide) hl1) ?_
  refine ga_iload_n C dX4_goesOut_5 rfl gt_us ?_
  obtain ⟨q6, hq, h⟩ := Option.bind_eq_some_iff.mp h
  refine gt_cSi (n := 1) (st := [.inl l1]) C (eX4_lowerOut X.2.1 D cI cZ K hq) gX4_goesOut_X4_lowerOut rfl (by decide +kernel) rfl ⟨Nat.le_of_ble_eq_true rfl, Nat.le_of_ble_eq_true rfl⟩ (Nat.le_of_ble_eq_true rfl) rfl dX4_goesOut_6 (fun σ' hp => ?_)
  subst hp
  refine ga_icmp_eq (tgt := 21) C dX4_goesOut_9 (by decide) (fun c1 => ?_) (fun c1 => ?_)
  · have h := gt_ip h c1
    exact gX4_goesOut_21 C hRet hr0 hW h
  · have h := gt_in h c1
    refine ga_iload_n C dX4_goesOut_12 rfl (gt_un (by decide) hl1) ?_
    refine ga_aload_n C dX4_goesOut_13 rfl (gt_un (by decide) hl0) hr0 ?_
    refine ga_iload_n C dX4_goesOut_14 rfl gt_us ?_
    obtain ⟨q15, hq, h⟩ := Option.bind_eq_some_iff.mp h
    refine gt_cVi (n := 1) (st := [.inl l1]) C (eX4_upperOut X.2.1 D cI cZ K hr0 hW hq) gX4_goesOut_X4_upperOut rfl (by decide +kernel) rfl ⟨Nat.le_of_ble_eq_true rfl, Nat.le_of_ble_eq_true rfl⟩ hW.1 rfl rfl (Nat.le_of_ble_eq_true rfl) rfl dX4_goesOut_15 (fun σ' hp => ?_)
    subst hp
    refine ga_icmp_ne (tgt := 25) C dX4_goesOut_18 (by decide) (fun c1 => ?_) (fun c1 => ?_)
    · have h := gt_in h c1
      refine ga_iconst C dX4_goesOut_25 ⟨by decide, by decide⟩ ?_
      exact gX4_goesOut_26 C hRet hr0 hW h
    · have h := gt_ip h c1
      exact gX4_goesOut_21 C hRet hr0 hW h
set_option maxHeartbeats 4000000 in
theorem eX4_goesOut (l : Launch) (D : va_G) (cI cZ : ClassId) (K : Nat) {r : Nat} (hr0 : r ≠ 0) {σ : ga_S} {T : gt_T} (hW : gt_O SX4 4 r T σ) {l1 : Int} {res : Int} (h : fX4_goesOut T l1 = some res) : ga_Ev l (D, vwCl, cI, cZ) yX4_goesOut wsX4_goesOut (gt_rm 3 63) [] 0 0 K [.inr r, .inl l1] σ (fun σ' rv => (σ' = σ) ∧ rv = some (.inl res)) := by
  refine ga_ofZ (by decide +kernel) rfl gt_hcl (Nat.le_of_ble_eq_true rfl) (fun X hX C hret => ?_)
  exact gX4_goesOut_0 C (fun pc lv σ' z d h01 hz hp => hret pc lv σ' z d h01 ⟨hp, by rw [hz]⟩) hr0 hW rfl rfl h
-- X4_crossings: crossings()I
def fX4_crossings (T : gt_T) : Option (Int) :=
  some (T.1 2)
theorem iX4_crossings_X4 : ∀ w ∈ u_ws RX4 TX4 3, w ∈ wsX4_crossings := by decide +kernel
theorem kX4_crossings_18 : Cond.fieldLink yX4_crossings.cls 18 (TX4 2).1 (TX4 2).2.1 (TX4 2).2.2.1 ∈ wsX4_crossings := by decide +kernel
set_option maxHeartbeats 4000000 in
theorem gX4_crossings_0 {X : ga_X} {D : va_G} {cI cZ : ClassId} {K : Nat} {r : Nat} {res : Int} {T : gt_T} {σ : ga_S} (C : ga_C X cX4_crossings yX4_crossings wsX4_crossings [] (gt_rm 0 0) (D, vwCl, cI, cZ) 1) (hRet : ∀ (pc : Nat) (lv : Nat → Option ga_V) (σ' : ga_S) (z : Int), decode cX4_crossings pc = .ok (.ireturn, 1) → z = res → (σ' = σ) → ga_G X 0 0 K pc lv [.inl z] σ') (hr0 : r ≠ 0) {lv : Nat → Option ga_V} (hW : gt_O SX4 4 r T σ) (hl0 : lv 0 = some (.inr r)) (h : fX4_crossings T = some res) : ga_G X 0 0 K 0 lv [] σ := by
  unfold fX4_crossings at h
  refine ga_aload_n C dX4_crossings_0 rfl hl0 hr0 ?_
  refine gt_geti C (iX4_crossings_X4) hW 2 rfl rfl (by decide) kX4_crossings_18 dX4_crossings_1 ?_
  cases h
  exact hRet _ _ _ _ dX4_crossings_4 rfl rfl
set_option maxHeartbeats 4000000 in
theorem eX4_crossings (l : Launch) (D : va_G) (cI cZ : ClassId) (K : Nat) {r : Nat} (hr0 : r ≠ 0) {σ : ga_S} {T : gt_T} (hW : gt_O SX4 4 r T σ) {res : Int} (h : fX4_crossings T = some res) : ga_Ev l (D, vwCl, cI, cZ) yX4_crossings wsX4_crossings (gt_rm 0 0) [] 0 0 K [.inr r] σ (fun σ' rv => (σ' = σ) ∧ rv = some (.inl res)) := by
  refine ga_ofI (by decide +kernel) rfl gt_hcl (Nat.le_of_ble_eq_true rfl) (fun X hX C hret => ?_)
  exact gX4_crossings_0 C (fun pc lv σ' z d hz hp => hret pc lv σ' z d ⟨hp, by rw [hz]⟩) hr0 hW rfl h
-- X4_beside: beside(I)I
def fX4_beside (l0 : Int) : Option (Int) :=
  (if 0 ≤ l0 ∧ (-2147483648 ≤ l0 - (l0 % (4 : Int)) ∧ l0 - (l0 % (4 : Int)) < 2147483648) ∧ (-2147483648 ≤ l0 + (3 : Int) ∧ l0 + (3 : Int) < 2147483648) ∧ 0 ≤ (l0 + (3 : Int)) ∧ (-2147483648 ≤ (l0 - (l0 % (4 : Int))) + ((l0 + (3 : Int)) % (4 : Int)) ∧ (l0 - (l0 % (4 : Int))) + ((l0 + (3 : Int)) % (4 : Int)) < 2147483648) then some ((l0 - (l0 % (4 : Int))) + ((l0 + (3 : Int)) % (4 : Int))) else none)
set_option maxHeartbeats 4000000 in
theorem gX4_beside_0 {X : ga_X} {D : va_G} {cI cZ : ClassId} {K : Nat} {res : Int} {σ : ga_S} (C : ga_C X cX4_beside yX4_beside wsX4_beside [] (gt_rm 0 0) (D, vwCl, cI, cZ) 1) (hRet : ∀ (pc : Nat) (lv : Nat → Option ga_V) (σ' : ga_S) (z : Int), decode cX4_beside pc = .ok (.ireturn, 1) → z = res → σ' = σ → ga_G X 0 0 K pc lv [.inl z] σ') {l0 : Int} {lv : Nat → Option ga_V} (hl0 : lv 0 = some (.inl l0)) (h : fX4_beside l0 = some res) : ga_G X 0 0 K 0 lv [] σ := by
  unfold fX4_beside at h
  obtain ⟨hg, h⟩ := gt_gd h
  obtain ⟨g3_0, g4_1, g7_2, g9_3, g10_4⟩ := hg
  refine ga_iload_n C dX4_beside_0 rfl hl0 ?_
  refine ga_iload_n C dX4_beside_1 rfl hl0 ?_
  refine ga_iconst C dX4_beside_2 ⟨by decide, by decide⟩ ?_
  refine ga_irem C dX4_beside_3 (by decide) g3_0 ?_
  refine ga_isub C dX4_beside_4 g4_1 ?_
  refine ga_iload_n C dX4_beside_5 rfl hl0 ?_
  refine ga_iconst C dX4_beside_6 ⟨by decide, by decide⟩ ?_
  refine ga_iadd C dX4_beside_7 g7_2 ?_
  refine ga_iconst C dX4_beside_8 ⟨by decide, by decide⟩ ?_
  refine ga_irem C dX4_beside_9 (by decide) g9_3 ?_
  refine ga_iadd C dX4_beside_10 g10_4 ?_
  cases h
  exact hRet _ _ _ _ dX4_beside_11 rfl rfl
set_option maxHeartbeats 4000000 in
theorem eX4_beside (l : Launch) (D : va_G) (cI cZ : ClassId) (K : Nat) {σ : ga_S} {l0 : Int} {res : Int} (h : fX4_beside l0 = some res) : ga_Ev l (D, vwCl, cI, cZ) yX4_beside wsX4_beside (gt_rm 0 0) [] 0 0 K [.inl l0] σ (fun σ' rv => (σ' = σ) ∧ rv = some (.inl res)) := by
  refine ga_ofI (by decide +kernel) rfl gt_hcl (Nat.le_of_ble_eq_true rfl) (fun X hX C hret => ?_)
  exact gX4_beside_0 C (fun pc lv σ' z d hz hp => hret pc lv σ' z d ⟨hp, by rw [hz]⟩) rfl h
-- X4_across: across(I)I
def fX4_across (l0 : Int) : Option (Int) :=
  (if 0 ≤ l0 ∧ (-2147483648 ≤ l0 - (l0 % (4 : Int)) ∧ l0 - (l0 % (4 : Int)) < 2147483648) ∧ (-2147483648 ≤ l0 + (2 : Int) ∧ l0 + (2 : Int) < 2147483648) ∧ 0 ≤ (l0 + (2 : Int)) ∧ (-2147483648 ≤ (l0 - (l0 % (4 : Int))) + ((l0 + (2 : Int)) % (4 : Int)) ∧ (l0 - (l0 % (4 : Int))) + ((l0 + (2 : Int)) % (4 : Int)) < 2147483648) then some ((l0 - (l0 % (4 : Int))) + ((l0 + (2 : Int)) % (4 : Int))) else none)
set_option maxHeartbeats 4000000 in
theorem gX4_across_0 {X : ga_X} {D : va_G} {cI cZ : ClassId} {K : Nat} {res : Int} {σ : ga_S} (C : ga_C X cX4_across yX4_across wsX4_across [] (gt_rm 0 0) (D, vwCl, cI, cZ) 1) (hRet : ∀ (pc : Nat) (lv : Nat → Option ga_V) (σ' : ga_S) (z : Int), decode cX4_across pc = .ok (.ireturn, 1) → z = res → σ' = σ → ga_G X 0 0 K pc lv [.inl z] σ') {l0 : Int} {lv : Nat → Option ga_V} (hl0 : lv 0 = some (.inl l0)) (h : fX4_across l0 = some res) : ga_G X 0 0 K 0 lv [] σ := by
  unfold fX4_across at h
  obtain ⟨hg, h⟩ := gt_gd h
  obtain ⟨g3_0, g4_1, g7_2, g9_3, g10_4⟩ := hg
  refine ga_iload_n C dX4_across_0 rfl hl0 ?_
  refine ga_iload_n C dX4_across_1 rfl hl0 ?_
  refine ga_iconst C dX4_across_2 ⟨by decide, by decide⟩ ?_
  refine ga_irem C dX4_across_3 (by decide) g3_0 ?_
  refine ga_isub C dX4_across_4 g4_1 ?_
  refine ga_iload_n C dX4_across_5 rfl hl0 ?_
  refine ga_iconst C dX4_across_6 ⟨by decide, by decide⟩ ?_
  refine ga_iadd C dX4_across_7 g7_2 ?_
  refine ga_iconst C dX4_across_8 ⟨by decide, by decide⟩ ?_
  refine ga_irem C dX4_across_9 (by decide) g9_3 ?_
  refine ga_iadd C dX4_across_10 g10_4 ?_
  cases h
  exact hRet _ _ _ _ dX4_across_11 rfl rfl
set_option maxHeartbeats 4000000 in
theorem eX4_across (l : Launch) (D : va_G) (cI cZ : ClassId) (K : Nat) {σ : ga_S} {l0 : Int} {res : Int} (h : fX4_across l0 = some res) : ga_Ev l (D, vwCl, cI, cZ) yX4_across wsX4_across (gt_rm 0 0) [] 0 0 K [.inl l0] σ (fun σ' rv => (σ' = σ) ∧ rv = some (.inl res)) := by
  refine ga_ofI (by decide +kernel) rfl gt_hcl (Nat.le_of_ble_eq_true rfl) (fun X hX C hret => ?_)
  exact gX4_across_0 C (fun pc lv σ' z d hz hp => hret pc lv σ' z d ⟨hp, by rw [hz]⟩) rfl h
-- X4_isUpper: isUpper(I)Z
def fX4_isUpper_11 (s0 : Int) : Option (Int) :=
  (if (s0 = 0 ∨ s0 = 1) then some s0 else none)
def fX4_isUpper (l0 : Int) : Option (Int) :=
  (if 0 ≤ l0 then (if (l0 % (2 : Int)) = 0 then fX4_isUpper_11 (0 : Int) else fX4_isUpper_11 (1 : Int)) else none)
set_option maxHeartbeats 4000000 in
theorem gX4_isUpper_11 {X : ga_X} {D : va_G} {cI cZ : ClassId} {K : Nat} {res : Int} {σ : ga_S} (C : ga_C X cX4_isUpper yX4_isUpper wsX4_isUpper [] (gt_rm 0 0) (D, vwCl, cI, cZ) 1) (hRet : ∀ (pc : Nat) (lv : Nat → Option ga_V) (σ' : ga_S) (z : Int), decode cX4_isUpper pc = .ok (.ireturn, 1) → (z = 0 ∨ z = 1) → z = res → σ' = σ → ga_G X 0 0 K pc lv [.inl z] σ') {s0 : Int} {lv : Nat → Option ga_V}  (h : fX4_isUpper_11 s0 = some res) : ga_G X 0 0 K 11 lv [.inl s0] σ := by
  unfold fX4_isUpper_11 at h
  obtain ⟨hg, h⟩ := gt_gd h
  have g11_0 := hg
  cases h
  exact hRet _ _ _ _ dX4_isUpper_11 g11_0 rfl rfl
set_option maxHeartbeats 4000000 in
theorem gX4_isUpper_0 {X : ga_X} {D : va_G} {cI cZ : ClassId} {K : Nat} {res : Int} {σ : ga_S} (C : ga_C X cX4_isUpper yX4_isUpper wsX4_isUpper [] (gt_rm 0 0) (D, vwCl, cI, cZ) 1) (hRet : ∀ (pc : Nat) (lv : Nat → Option ga_V) (σ' : ga_S) (z : Int), decode cX4_isUpper pc = .ok (.ireturn, 1) → (z = 0 ∨ z = 1) → z = res → σ' = σ → ga_G X 0 0 K pc lv [.inl z] σ') {l0 : Int} {lv : Nat → Option ga_V} (hl0 : lv 0 = some (.inl l0)) (h : fX4_isUpper l0 = some res) : ga_G X 0 0 K 0 lv [] σ := by
  unfold fX4_isUpper at h
  obtain ⟨hg, h⟩ := gt_gd h
  have g2_0 := hg
  refine ga_iload_n C dX4_isUpper_0 rfl hl0 ?_
  refine ga_iconst C dX4_isUpper_1 ⟨by decide, by decide⟩ ?_
  refine ga_irem C dX4_isUpper_2 (by decide) g2_0 ?_
  refine ga_if_eq (tgt := 10) C dX4_isUpper_3 (by decide) (fun c1 => ?_) (fun c1 => ?_)
  · have h := gt_ip h c1
    refine ga_iconst C dX4_isUpper_10 ⟨by decide, by decide⟩ ?_
    exact gX4_isUpper_11 C hRet h
  · have h := gt_in h c1
    refine ga_iconst C dX4_isUpper_6 ⟨by decide, by decide⟩ ?_
    refine ga_goto (tgt := 11) C dX4_isUpper_7 (by decide) ?_
    exact gX4_isUpper_11 C hRet h
set_option maxHeartbeats 4000000 in
theorem eX4_isUpper (l : Launch) (D : va_G) (cI cZ : ClassId) (K : Nat) {σ : ga_S} {l0 : Int} {res : Int} (h : fX4_isUpper l0 = some res) : ga_Ev l (D, vwCl, cI, cZ) yX4_isUpper wsX4_isUpper (gt_rm 0 0) [] 0 0 K [.inl l0] σ (fun σ' rv => (σ' = σ) ∧ rv = some (.inl res)) := by
  refine ga_ofZ (by decide +kernel) rfl gt_hcl (Nat.le_of_ble_eq_true rfl) (fun X hX C hret => ?_)
  exact gX4_isUpper_0 C (fun pc lv σ' z d h01 hz hp => hret pc lv σ' z d h01 ⟨hp, by rw [hz]⟩) rfl h
-- X4_seifertOut: seifertOut(I)I
def fX4_seifertOut_23 (T : gt_T) (s0 : Int) : Option (Int) :=
  some s0
def fX4_seifertOut (T : gt_T) (l1 : Int) : Option (Int) :=
  (fX4_isUpper l1).bind (fun (q5 : Int) => (if q5 = 0 then (fX4_upperOut T (Int.tdiv l1 (4 : Int))).bind (fun (q20 : Int) => fX4_seifertOut_23 T q20) else (fX4_lowerOut (Int.tdiv l1 (4 : Int))).bind (fun (q12 : Int) => fX4_seifertOut_23 T q12)))
set_option maxHeartbeats 4000000 in
theorem gX4_seifertOut_23 {X : ga_X} {D : va_G} {cI cZ : ClassId} {K : Nat} {r : Nat} {res : Int} {T : gt_T} {σ : ga_S} (C : ga_C X cX4_seifertOut yX4_seifertOut wsX4_seifertOut [] (gt_rm 3 63) (D, vwCl, cI, cZ) 3) (hRet : ∀ (pc : Nat) (lv : Nat → Option ga_V) (σ' : ga_S) (z : Int), decode cX4_seifertOut pc = .ok (.ireturn, 1) → z = res → (σ' = σ) → ga_G X 0 0 K pc lv [.inl z] σ') (hr0 : r ≠ 0) {s0 : Int} {lv : Nat → Option ga_V} (hW : gt_O SX4 4 r T σ) (h : fX4_seifertOut_23 T s0 = some res) : ga_G X 0 0 K 23 lv [.inl s0] σ := by
  unfold fX4_seifertOut_23 at h
  cases h
  exact hRet _ _ _ _ dX4_seifertOut_23 rfl rfl
set_option maxHeartbeats 4000000 in
theorem gX4_seifertOut_0 {X : ga_X} {D : va_G} {cI cZ : ClassId} {K : Nat} {r : Nat} {res : Int} {T : gt_T} {σ : ga_S} (C : ga_C X cX4_seifertOut yX4_seifertOut wsX4_seifertOut [] (gt_rm 3 63) (D, vwCl, cI, cZ) 3) (hRet : ∀ (pc : Nat) (lv : Nat → Option ga_V) (σ' : ga_S) (z : Int), decode cX4_seifertOut pc = .ok (.ireturn, 1) → z = res → (σ' = σ) → ga_G X 0 0 K pc lv [.inl z] σ') (hr0 : r ≠ 0) {l1 : Int} {lv : Nat → Option ga_V} (hW : gt_O SX4 4 r T σ) (hl0 : lv 0 = some (.inr r)) (hl1 : lv 1 = some (.inl l1)) (h : fX4_seifertOut T l1 = some res) : ga_G X 0 0 K 0 lv [] σ := by
  unfold fX4_seifertOut at h
  refine ga_iload_n C dX4_seifertOut_0 rfl hl1 ?_
  refine ga_iconst C dX4_seifertOut_1 ⟨by decide, by decide⟩ ?_
  refine ga_idiv C dX4_seifertOut_2 (by decide) ?_
  refine ga_istore_n C dX4_seifertOut_3 rfl (by decide) ?_
  refine ga_iload_n C dX4_seifertOut_4 rfl (gt_un (by decide) hl1) ?_
  obtain ⟨q5, hq, h⟩ := Option.bind_eq_some_iff.mp h
  refine gt_cSi (n := 1) (st := []) C (eX4_isUpper X.2.1 D cI cZ K hq) gX4_seifertOut_X4_isUpper rfl (by decide +kernel) rfl ⟨Nat.le_of_ble_eq_true rfl, Nat.le_of_ble_eq_true rfl⟩ (Nat.le_of_ble_eq_true rfl) rfl dX4_seifertOut_5 (fun σ' hp => ?_)
  subst hp
  refine ga_if_eq (tgt := 18) C dX4_seifertOut_8 (by decide) (fun c1 => ?_) (fun c1 => ?_)
  · have h := gt_ip h c1
    refine ga_aload_n C dX4_seifertOut_18 rfl (gt_un (by decide) hl0) hr0 ?_
    refine ga_iload_n C dX4_seifertOut_19 rfl gt_us ?_
    obtain ⟨q20, hq, h⟩ := Option.bind_eq_some_iff.mp h
    refine gt_cVi (n := 1) (st := []) C (eX4_upperOut X.2.1 D cI cZ K hr0 hW hq) gX4_seifertOut_X4_upperOut rfl (by decide +kernel) rfl ⟨Nat.le_of_ble_eq_true rfl, Nat.le_of_ble_eq_true rfl⟩ hW.1 rfl rfl (Nat.le_of_ble_eq_true rfl) rfl dX4_seifertOut_20 (fun σ' hp => ?_)
    subst hp
    exact gX4_seifertOut_23 C hRet hr0 hW h
  · have h := gt_in h c1
    refine ga_iload_n C dX4_seifertOut_11 rfl gt_us ?_
    obtain ⟨q12, hq, h⟩ := Option.bind_eq_some_iff.mp h
    refine gt_cSi (n := 1) (st := []) C (eX4_lowerOut X.2.1 D cI cZ K hq) gX4_seifertOut_X4_lowerOut rfl (by decide +kernel) rfl ⟨Nat.le_of_ble_eq_true rfl, Nat.le_of_ble_eq_true rfl⟩ (Nat.le_of_ble_eq_true rfl) rfl dX4_seifertOut_12 (fun σ' hp => ?_)
    subst hp
    refine ga_goto (tgt := 23) C dX4_seifertOut_15 (by decide) ?_
    exact gX4_seifertOut_23 C hRet hr0 hW h
set_option maxHeartbeats 4000000 in
theorem eX4_seifertOut (l : Launch) (D : va_G) (cI cZ : ClassId) (K : Nat) {r : Nat} (hr0 : r ≠ 0) {σ : ga_S} {T : gt_T} (hW : gt_O SX4 4 r T σ) {l1 : Int} {res : Int} (h : fX4_seifertOut T l1 = some res) : ga_Ev l (D, vwCl, cI, cZ) yX4_seifertOut wsX4_seifertOut (gt_rm 3 63) [] 0 0 K [.inr r, .inl l1] σ (fun σ' rv => (σ' = σ) ∧ rv = some (.inl res)) := by
  refine ga_ofI (by decide +kernel) rfl gt_hcl (Nat.le_of_ble_eq_true rfl) (fun X hX C hret => ?_)
  exact gX4_seifertOut_0 C (fun pc lv σ' z d hz hp => hret pc lv σ' z d ⟨hp, by rw [hz]⟩) hr0 hW rfl rfl h
-- X4_lowerIn: lowerIn(I)I
def fX4_lowerIn (l0 : Int) : Option (Int) :=
  (if (-2147483648 ≤ (4 : Int) * l0 ∧ (4 : Int) * l0 < 2147483648) then some ((4 : Int) * l0) else none)
set_option maxHeartbeats 4000000 in
theorem gX4_lowerIn_0 {X : ga_X} {D : va_G} {cI cZ : ClassId} {K : Nat} {res : Int} {σ : ga_S} (C : ga_C X cX4_lowerIn yX4_lowerIn wsX4_lowerIn [] (gt_rm 0 0) (D, vwCl, cI, cZ) 1) (hRet : ∀ (pc : Nat) (lv : Nat → Option ga_V) (σ' : ga_S) (z : Int), decode cX4_lowerIn pc = .ok (.ireturn, 1) → z = res → σ' = σ → ga_G X 0 0 K pc lv [.inl z] σ') {l0 : Int} {lv : Nat → Option ga_V} (hl0 : lv 0 = some (.inl l0)) (h : fX4_lowerIn l0 = some res) : ga_G X 0 0 K 0 lv [] σ := by
  unfold fX4_lowerIn at h
  obtain ⟨hg, h⟩ := gt_gd h
  have g2_0 := hg
  refine ga_iconst C dX4_lowerIn_0 ⟨by decide, by decide⟩ ?_
  refine ga_iload_n C dX4_lowerIn_1 rfl hl0 ?_
  refine ga_imul C dX4_lowerIn_2 g2_0 ?_
  cases h
  exact hRet _ _ _ _ dX4_lowerIn_3 rfl rfl
set_option maxHeartbeats 4000000 in
theorem eX4_lowerIn (l : Launch) (D : va_G) (cI cZ : ClassId) (K : Nat) {σ : ga_S} {l0 : Int} {res : Int} (h : fX4_lowerIn l0 = some res) : ga_Ev l (D, vwCl, cI, cZ) yX4_lowerIn wsX4_lowerIn (gt_rm 0 0) [] 0 0 K [.inl l0] σ (fun σ' rv => (σ' = σ) ∧ rv = some (.inl res)) := by
  refine ga_ofI (by decide +kernel) rfl gt_hcl (Nat.le_of_ble_eq_true rfl) (fun X hX C hret => ?_)
  exact gX4_lowerIn_0 C (fun pc lv σ' z d hz hp => hret pc lv σ' z d ⟨hp, by rw [hz]⟩) rfl h
-- X4_upperIn: upperIn(I)I
def fX4_upperIn_17 (T : gt_T) (s0 s1 : Int) : Option (Int) :=
  (if (-2147483648 ≤ s0 + s1 ∧ s0 + s1 < 2147483648) then some (s0 + s1) else none)
def fX4_upperIn (T : gt_T) (l1 : Int) : Option (Int) :=
  (if (-2147483648 ≤ (4 : Int) * l1 ∧ (4 : Int) * l1 < 2147483648) then (fX4_sign T l1).bind (fun (q5 : Int) => (if q5 = (1 : Int) then fX4_upperIn_17 T ((4 : Int) * l1) (3 : Int) else fX4_upperIn_17 T ((4 : Int) * l1) (1 : Int))) else none)
set_option maxHeartbeats 4000000 in
theorem gX4_upperIn_17 {X : ga_X} {D : va_G} {cI cZ : ClassId} {K : Nat} {r : Nat} {res : Int} {T : gt_T} {σ : ga_S} (C : ga_C X cX4_upperIn yX4_upperIn wsX4_upperIn [] (gt_rm 2 42) (D, vwCl, cI, cZ) 2) (hRet : ∀ (pc : Nat) (lv : Nat → Option ga_V) (σ' : ga_S) (z : Int), decode cX4_upperIn pc = .ok (.ireturn, 1) → z = res → (σ' = σ) → ga_G X 0 0 K pc lv [.inl z] σ') (hr0 : r ≠ 0) {s0 s1 : Int} {lv : Nat → Option ga_V} (hW : gt_O SX4 4 r T σ) (h : fX4_upperIn_17 T s0 s1 = some res) : ga_G X 0 0 K 17 lv [.inl s1, .inl s0] σ := by
  unfold fX4_upperIn_17 at h
  obtain ⟨hg, h⟩ := gt_gd h
  have g17_0 := hg
  refine ga_iadd C dX4_upperIn_17 g17_0 ?_
  cases h
  exact hRet _ _ _ _ dX4_upperIn_18 rfl rfl
set_option maxHeartbeats 4000000 in
theorem gX4_upperIn_0 {X : ga_X} {D : va_G} {cI cZ : ClassId} {K : Nat} {r : Nat} {res : Int} {T : gt_T} {σ : ga_S} (C : ga_C X cX4_upperIn yX4_upperIn wsX4_upperIn [] (gt_rm 2 42) (D, vwCl, cI, cZ) 2) (hRet : ∀ (pc : Nat) (lv : Nat → Option ga_V) (σ' : ga_S) (z : Int), decode cX4_upperIn pc = .ok (.ireturn, 1) → z = res → (σ' = σ) → ga_G X 0 0 K pc lv [.inl z] σ') (hr0 : r ≠ 0) {l1 : Int} {lv : Nat → Option ga_V} (hW : gt_O SX4 4 r T σ) (hl0 : lv 0 = some (.inr r)) (hl1 : lv 1 = some (.inl l1)) (h : fX4_upperIn T l1 = some res) : ga_G X 0 0 K 0 lv [] σ := by
  unfold fX4_upperIn at h
  obtain ⟨hg, h⟩ := gt_gd h
  have g2_0 := hg
  refine ga_iconst C dX4_upperIn_0 ⟨by decide, by decide⟩ ?_
  refine ga_iload_n C dX4_upperIn_1 rfl hl1 ?_
  refine ga_imul C dX4_upperIn_2 g2_0 ?_
  refine ga_aload_n C dX4_upperIn_3 rfl hl0 hr0 ?_
  refine ga_iload_n C dX4_upperIn_4 rfl hl1 ?_
  obtain ⟨q5, hq, h⟩ := Option.bind_eq_some_iff.mp h
  refine gt_cVi (n := 1) (st := [.inl ((4 : Int) * l1)]) C (eX4_sign X.2.1 D cI cZ K hr0 hW hq) gX4_upperIn_X4_sign rfl (by decide +kernel) rfl ⟨Nat.le_of_ble_eq_true rfl, Nat.le_of_ble_eq_true rfl⟩ hW.1 rfl rfl (Nat.le_of_ble_eq_true rfl) rfl dX4_upperIn_5 (fun σ' hp => ?_)
  subst hp
  refine ga_iconst C dX4_upperIn_8 ⟨by decide, by decide⟩ ?_
  refine ga_icmp_ne (tgt := 16) C dX4_upperIn_9 (by decide) (fun c1 => ?_) (fun c1 => ?_)
  · have h := gt_in h c1
    refine ga_iconst C dX4_upperIn_16 ⟨by decide, by decide⟩ ?_
    exact gX4_upperIn_17 C hRet hr0 hW h
  · have h := gt_ip h c1
    refine ga_iconst C dX4_upperIn_12 ⟨by decide, by decide⟩ ?_
    refine ga_goto (tgt := 17) C dX4_upperIn_13 (by decide) ?_
    exact gX4_upperIn_17 C hRet hr0 hW h
set_option maxHeartbeats 4000000 in
theorem eX4_upperIn (l : Launch) (D : va_G) (cI cZ : ClassId) (K : Nat) {r : Nat} (hr0 : r ≠ 0) {σ : ga_S} {T : gt_T} (hW : gt_O SX4 4 r T σ) {l1 : Int} {res : Int} (h : fX4_upperIn T l1 = some res) : ga_Ev l (D, vwCl, cI, cZ) yX4_upperIn wsX4_upperIn (gt_rm 2 42) [] 0 0 K [.inr r, .inl l1] σ (fun σ' rv => (σ' = σ) ∧ rv = some (.inl res)) := by
  refine ga_ofI (by decide +kernel) rfl gt_hcl (Nat.le_of_ble_eq_true rfl) (fun X hX C hret => ?_)
  exact gX4_upperIn_0 C (fun pc lv σ' z d hz hp => hret pc lv σ' z d ⟨hp, by rw [hz]⟩) hr0 hW rfl rfl h
-- X4_beginPlacesAt: beginPlacesAt(II)V
def fX4_beginPlacesAt_16 (k16 : gt_T × Int × Int × Int → Option (gt_T)) (a : gt_T × Int × Int × Int) : Option (gt_T) :=
  (if a.2.1 ≤ a.2.2.2 then some a.1 else (if (0 ≤ a.2.2.1 ∧ a.2.2.1 < 80) ∧ (-2147483648 ≤ a.2.2.1 + (1 : Int) ∧ a.2.2.1 + (1 : Int) < 2147483648) ∧ (0 ≤ (a.2.2.1 + (1 : Int)) ∧ (a.2.2.1 + (1 : Int)) < 80) ∧ (-2147483648 ≤ a.2.2.1 + (2 : Int) ∧ a.2.2.1 + (2 : Int) < 2147483648) ∧ (0 ≤ (a.2.2.1 + (2 : Int)) ∧ (a.2.2.1 + (2 : Int)) < 80) ∧ (-2147483648 ≤ a.2.2.1 + (3 : Int) ∧ a.2.2.1 + (3 : Int) < 2147483648) ∧ (0 ≤ (a.2.2.1 + (3 : Int)) ∧ (a.2.2.1 + (3 : Int)) < 80) ∧ (-2147483648 ≤ a.2.2.2 + (1 : Int) ∧ a.2.2.2 + (1 : Int) < 2147483648) then k16 ((a.1.1, (va_up (va_up (va_up (va_up a.1.2 1 (va_up (a.1.2 1) a.2.2.1.toNat (a.1.2 1 (a.2.2.1 + (1 : Int)).toNat))) 1 (va_up ((va_up a.1.2 1 (va_up (a.1.2 1) a.2.2.1.toNat (a.1.2 1 (a.2.2.1 + (1 : Int)).toNat))) 1) (a.2.2.1 + (1 : Int)).toNat ((va_up a.1.2 1 (va_up (a.1.2 1) a.2.2.1.toNat (a.1.2 1 (a.2.2.1 + (1 : Int)).toNat))) 1 (a.2.2.1 + (2 : Int)).toNat))) 1 (va_up ((va_up (va_up a.1.2 1 (va_up (a.1.2 1) a.2.2.1.toNat (a.1.2 1 (a.2.2.1 + (1 : Int)).toNat))) 1 (va_up ((va_up a.1.2 1 (va_up (a.1.2 1) a.2.2.1.toNat (a.1.2 1 (a.2.2.1 + (1 : Int)).toNat))) 1) (a.2.2.1 + (1 : Int)).toNat ((va_up a.1.2 1 (va_up (a.1.2 1) a.2.2.1.toNat (a.1.2 1 (a.2.2.1 + (1 : Int)).toNat))) 1 (a.2.2.1 + (2 : Int)).toNat))) 1) (a.2.2.1 + (2 : Int)).toNat ((va_up (va_up a.1.2 1 (va_up (a.1.2 1) a.2.2.1.toNat (a.1.2 1 (a.2.2.1 + (1 : Int)).toNat))) 1 (va_up ((va_up a.1.2 1 (va_up (a.1.2 1) a.2.2.1.toNat (a.1.2 1 (a.2.2.1 + (1 : Int)).toNat))) 1) (a.2.2.1 + (1 : Int)).toNat ((va_up a.1.2 1 (va_up (a.1.2 1) a.2.2.1.toNat (a.1.2 1 (a.2.2.1 + (1 : Int)).toNat))) 1 (a.2.2.1 + (2 : Int)).toNat))) 1 (a.2.2.1 + (3 : Int)).toNat))) 1 (va_up ((va_up (va_up (va_up a.1.2 1 (va_up (a.1.2 1) a.2.2.1.toNat (a.1.2 1 (a.2.2.1 + (1 : Int)).toNat))) 1 (va_up ((va_up a.1.2 1 (va_up (a.1.2 1) a.2.2.1.toNat (a.1.2 1 (a.2.2.1 + (1 : Int)).toNat))) 1) (a.2.2.1 + (1 : Int)).toNat ((va_up a.1.2 1 (va_up (a.1.2 1) a.2.2.1.toNat (a.1.2 1 (a.2.2.1 + (1 : Int)).toNat))) 1 (a.2.2.1 + (2 : Int)).toNat))) 1 (va_up ((va_up (va_up a.1.2 1 (va_up (a.1.2 1) a.2.2.1.toNat (a.1.2 1 (a.2.2.1 + (1 : Int)).toNat))) 1 (va_up ((va_up a.1.2 1 (va_up (a.1.2 1) a.2.2.1.toNat (a.1.2 1 (a.2.2.1 + (1 : Int)).toNat))) 1) (a.2.2.1 + (1 : Int)).toNat ((va_up a.1.2 1 (va_up (a.1.2 1) a.2.2.1.toNat (a.1.2 1 (a.2.2.1 + (1 : Int)).toNat))) 1 (a.2.2.1 + (2 : Int)).toNat))) 1) (a.2.2.1 + (2 : Int)).toNat ((va_up (va_up a.1.2 1 (va_up (a.1.2 1) a.2.2.1.toNat (a.1.2 1 (a.2.2.1 + (1 : Int)).toNat))) 1 (va_up ((va_up a.1.2 1 (va_up (a.1.2 1) a.2.2.1.toNat (a.1.2 1 (a.2.2.1 + (1 : Int)).toNat))) 1) (a.2.2.1 + (1 : Int)).toNat ((va_up a.1.2 1 (va_up (a.1.2 1) a.2.2.1.toNat (a.1.2 1 (a.2.2.1 + (1 : Int)).toNat))) 1 (a.2.2.1 + (2 : Int)).toNat))) 1 (a.2.2.1 + (3 : Int)).toNat))) 1) (a.2.2.1 + (3 : Int)).toNat (a.1.2 1 a.2.2.1.toNat)))), a.2.1, a.2.2.1, a.2.2.2 + (1 : Int)) else none))
def fX4_beginPlacesAt (T : gt_T) (l1 l2 : Int) : Option (gt_T) :=
  (fX4_has T l1).bind (fun (q2 : Int) => (if q2 = 0 then some T else (if (-2147483648 ≤ (4 : Int) * l1 ∧ (4 : Int) * l1 < 2147483648) then gt_loop (fX4_beginPlacesAt_16) gt_fuel (T, l2, (4 : Int) * l1, (0 : Int)) else none)))
theorem iX4_beginPlacesAt_X4 : ∀ w ∈ u_ws RX4 TX4 3, w ∈ wsX4_beginPlacesAt := by decide +kernel
theorem kX4_beginPlacesAt_15 : Cond.fieldLink yX4_beginPlacesAt.cls 15 (TX4 1).1 (TX4 1).2.1 (TX4 1).2.2.1 ∈ wsX4_beginPlacesAt := by decide +kernel
set_option maxHeartbeats 4000000 in
theorem gX4_beginPlacesAt_16 {X : ga_X} {D : va_G} {cI cZ : ClassId} {K : Nat} {r : Nat} {σ0 : ga_S} {res : gt_T} (C : ga_C X cX4_beginPlacesAt yX4_beginPlacesAt wsX4_beginPlacesAt [] (gt_rm 1 21) (D, vwCl, cI, cZ) 6) (hRet : ∀ (pc : Nat) (lv : Nat → Option ga_V) (σ' : ga_S), decode cX4_beginPlacesAt pc = .ok (.return_, 1) → (gt_O SX4 4 r res σ' ∧ gt_F r (r + 3) σ0 σ') → ga_G X 0 0 K pc lv [] σ') (hr0 : r ≠ 0) : ∀ (n : Nat) (a : gt_T × Int × Int × Int) (σ : ga_S) (lv : Nat → Option ga_V), gt_O SX4 4 r a.1 σ → gt_F r (r + 3) σ0 σ → lv 0 = some (.inr r) → lv 2 = some (.inl a.2.1) → lv 3 = some (.inl a.2.2.1) → lv 4 = some (.inl a.2.2.2) → gt_loop (fX4_beginPlacesAt_16) n a = some res → ga_G X 0 0 K 16 lv [] σ := by
  intro n
  induction n with
  | zero =>
    intro a _ lv _ _ _ _ _ _ h
    exact absurd (show (none : Option _) = some _ from h) (fun q => by cases q)
  | succ n hk16 =>
    intro a σ lv hW hF hl0 hl2 hl3 hl4 h
    have h : fX4_beginPlacesAt_16 (gt_loop (fX4_beginPlacesAt_16) n) a = some res := h
    revert hk16 h
    generalize gt_loop (fX4_beginPlacesAt_16) n = k16
    intro hk16 h
    unfold fX4_beginPlacesAt_16 at h
    refine ga_iload C dX4_beginPlacesAt_16 hl4 ?_
    refine ga_iload_n C dX4_beginPlacesAt_18 rfl hl2 ?_
    refine ga_icmp_ge (tgt := 92) C dX4_beginPlacesAt_19 (by decide) (fun c1 => ?_) (fun c1 => ?_)
    · have h := gt_ip h c1
      cases h
      exact hRet _ _ _ dX4_beginPlacesAt_92 ⟨hW, hF⟩
    · have h := gt_in h c1
      obtain ⟨hg, h⟩ := gt_gd h
      obtain ⟨g27_0, g41_1, g42_2, g57_3, g58_4, g73_5, g74_6, g86_7⟩ := hg
      refine ga_aload_n C dX4_beginPlacesAt_22 rfl hl0 hr0 ?_
      refine gt_geta C (iX4_beginPlacesAt_X4) hW 1 rfl rfl (by decide) kX4_beginPlacesAt_15 dX4_beginPlacesAt_23 ?_
      refine ga_iload_n C dX4_beginPlacesAt_26 rfl hl3 ?_
      refine gt_iald C hW 1 rfl g27_0.1 g27_0.2 dX4_beginPlacesAt_27 ?_
      refine ga_istore C dX4_beginPlacesAt_28 (by decide) ?_
      refine ga_aload_n C dX4_beginPlacesAt_30 rfl (gt_un (by decide) hl0) hr0 ?_
      refine gt_geta C (iX4_beginPlacesAt_X4) hW 1 rfl rfl (by decide) kX4_beginPlacesAt_15 dX4_beginPlacesAt_31 ?_
      refine ga_iload_n C dX4_beginPlacesAt_34 rfl (gt_un (by decide) hl3) ?_
      refine ga_aload_n C dX4_beginPlacesAt_35 rfl (gt_un (by decide) hl0) hr0 ?_
      refine gt_geta C (iX4_beginPlacesAt_X4) hW 1 rfl rfl (by decide) kX4_beginPlacesAt_15 dX4_beginPlacesAt_36 ?_
      refine ga_iload_n C dX4_beginPlacesAt_39 rfl (gt_un (by decide) hl3) ?_
      refine ga_iconst C dX4_beginPlacesAt_40 ⟨by decide, by decide⟩ ?_
      refine ga_iadd C dX4_beginPlacesAt_41 g41_1 ?_
      refine gt_iald C hW 1 rfl g42_2.1 g42_2.2 dX4_beginPlacesAt_42 ?_
      refine gt_iast C okX4 hW hF ⟨Nat.le_refl _, Nat.le_refl _⟩ 1 rfl g27_0.1 g27_0.2 dX4_beginPlacesAt_43 (fun σ hW hF hf => ?_)
      refine ga_aload_n C dX4_beginPlacesAt_44 rfl (gt_un (by decide) hl0) hr0 ?_
      refine gt_geta C (iX4_beginPlacesAt_X4) hW 1 rfl rfl (by decide) kX4_beginPlacesAt_15 dX4_beginPlacesAt_45 ?_
      refine ga_iload_n C dX4_beginPlacesAt_48 rfl (gt_un (by decide) hl3) ?_
      refine ga_iconst C dX4_beginPlacesAt_49 ⟨by decide, by decide⟩ ?_
      refine ga_iadd C dX4_beginPlacesAt_50 g41_1 ?_
      refine ga_aload_n C dX4_beginPlacesAt_51 rfl (gt_un (by decide) hl0) hr0 ?_
      refine gt_geta C (iX4_beginPlacesAt_X4) hW 1 rfl rfl (by decide) kX4_beginPlacesAt_15 dX4_beginPlacesAt_52 ?_
      refine ga_iload_n C dX4_beginPlacesAt_55 rfl (gt_un (by decide) hl3) ?_
      refine ga_iconst C dX4_beginPlacesAt_56 ⟨by decide, by decide⟩ ?_
      refine ga_iadd C dX4_beginPlacesAt_57 g57_3 ?_
      refine gt_iald C hW 1 rfl g58_4.1 g58_4.2 dX4_beginPlacesAt_58 ?_
      refine gt_iast C okX4 hW hF ⟨Nat.le_refl _, Nat.le_refl _⟩ 1 rfl g42_2.1 g42_2.2 dX4_beginPlacesAt_59 (fun σ hW hF hf => ?_)
      refine ga_aload_n C dX4_beginPlacesAt_60 rfl (gt_un (by decide) hl0) hr0 ?_
      refine gt_geta C (iX4_beginPlacesAt_X4) hW 1 rfl rfl (by decide) kX4_beginPlacesAt_15 dX4_beginPlacesAt_61 ?_
      refine ga_iload_n C dX4_beginPlacesAt_64 rfl (gt_un (by decide) hl3) ?_
      refine ga_iconst C dX4_beginPlacesAt_65 ⟨by decide, by decide⟩ ?_
      refine ga_iadd C dX4_beginPlacesAt_66 g57_3 ?_
      refine ga_aload_n C dX4_beginPlacesAt_67 rfl (gt_un (by decide) hl0) hr0 ?_
      refine gt_geta C (iX4_beginPlacesAt_X4) hW 1 rfl rfl (by decide) kX4_beginPlacesAt_15 dX4_beginPlacesAt_68 ?_
      refine ga_iload_n C dX4_beginPlacesAt_71 rfl (gt_un (by decide) hl3) ?_
      refine ga_iconst C dX4_beginPlacesAt_72 ⟨by decide, by decide⟩ ?_
      refine ga_iadd C dX4_beginPlacesAt_73 g73_5 ?_
      refine gt_iald C hW 1 rfl g74_6.1 g74_6.2 dX4_beginPlacesAt_74 ?_
      refine gt_iast C okX4 hW hF ⟨Nat.le_refl _, Nat.le_refl _⟩ 1 rfl g58_4.1 g58_4.2 dX4_beginPlacesAt_75 (fun σ hW hF hf => ?_)
      refine ga_aload_n C dX4_beginPlacesAt_76 rfl (gt_un (by decide) hl0) hr0 ?_
      refine gt_geta C (iX4_beginPlacesAt_X4) hW 1 rfl rfl (by decide) kX4_beginPlacesAt_15 dX4_beginPlacesAt_77 ?_
      refine ga_iload_n C dX4_beginPlacesAt_80 rfl (gt_un (by decide) hl3) ?_
      refine ga_iconst C dX4_beginPlacesAt_81 ⟨by decide, by decide⟩ ?_
      refine ga_iadd C dX4_beginPlacesAt_82 g73_5 ?_
      refine ga_iload C dX4_beginPlacesAt_83 gt_us ?_
      refine gt_iast C okX4 hW hF ⟨Nat.le_refl _, Nat.le_refl _⟩ 1 rfl g74_6.1 g74_6.2 dX4_beginPlacesAt_85 (fun σ hW hF hf => ?_)
      refine ga_iinc C dX4_beginPlacesAt_86 (gt_un (by decide) hl4) g86_7 ?_
      refine ga_goto (tgt := 16) C dX4_beginPlacesAt_89 (by decide) ?_
      exact hk16 ((a.1.1, (va_up (va_up (va_up (va_up a.1.2 1 (va_up (a.1.2 1) a.2.2.1.toNat (a.1.2 1 (a.2.2.1 + (1 : Int)).toNat))) 1 (va_up ((va_up a.1.2 1 (va_up (a.1.2 1) a.2.2.1.toNat (a.1.2 1 (a.2.2.1 + (1 : Int)).toNat))) 1) (a.2.2.1 + (1 : Int)).toNat ((va_up a.1.2 1 (va_up (a.1.2 1) a.2.2.1.toNat (a.1.2 1 (a.2.2.1 + (1 : Int)).toNat))) 1 (a.2.2.1 + (2 : Int)).toNat))) 1 (va_up ((va_up (va_up a.1.2 1 (va_up (a.1.2 1) a.2.2.1.toNat (a.1.2 1 (a.2.2.1 + (1 : Int)).toNat))) 1 (va_up ((va_up a.1.2 1 (va_up (a.1.2 1) a.2.2.1.toNat (a.1.2 1 (a.2.2.1 + (1 : Int)).toNat))) 1) (a.2.2.1 + (1 : Int)).toNat ((va_up a.1.2 1 (va_up (a.1.2 1) a.2.2.1.toNat (a.1.2 1 (a.2.2.1 + (1 : Int)).toNat))) 1 (a.2.2.1 + (2 : Int)).toNat))) 1) (a.2.2.1 + (2 : Int)).toNat ((va_up (va_up a.1.2 1 (va_up (a.1.2 1) a.2.2.1.toNat (a.1.2 1 (a.2.2.1 + (1 : Int)).toNat))) 1 (va_up ((va_up a.1.2 1 (va_up (a.1.2 1) a.2.2.1.toNat (a.1.2 1 (a.2.2.1 + (1 : Int)).toNat))) 1) (a.2.2.1 + (1 : Int)).toNat ((va_up a.1.2 1 (va_up (a.1.2 1) a.2.2.1.toNat (a.1.2 1 (a.2.2.1 + (1 : Int)).toNat))) 1 (a.2.2.1 + (2 : Int)).toNat))) 1 (a.2.2.1 + (3 : Int)).toNat))) 1 (va_up ((va_up (va_up (va_up a.1.2 1 (va_up (a.1.2 1) a.2.2.1.toNat (a.1.2 1 (a.2.2.1 + (1 : Int)).toNat))) 1 (va_up ((va_up a.1.2 1 (va_up (a.1.2 1) a.2.2.1.toNat (a.1.2 1 (a.2.2.1 + (1 : Int)).toNat))) 1) (a.2.2.1 + (1 : Int)).toNat ((va_up a.1.2 1 (va_up (a.1.2 1) a.2.2.1.toNat (a.1.2 1 (a.2.2.1 + (1 : Int)).toNat))) 1 (a.2.2.1 + (2 : Int)).toNat))) 1 (va_up ((va_up (va_up a.1.2 1 (va_up (a.1.2 1) a.2.2.1.toNat (a.1.2 1 (a.2.2.1 + (1 : Int)).toNat))) 1 (va_up ((va_up a.1.2 1 (va_up (a.1.2 1) a.2.2.1.toNat (a.1.2 1 (a.2.2.1 + (1 : Int)).toNat))) 1) (a.2.2.1 + (1 : Int)).toNat ((va_up a.1.2 1 (va_up (a.1.2 1) a.2.2.1.toNat (a.1.2 1 (a.2.2.1 + (1 : Int)).toNat))) 1 (a.2.2.1 + (2 : Int)).toNat))) 1) (a.2.2.1 + (2 : Int)).toNat ((va_up (va_up a.1.2 1 (va_up (a.1.2 1) a.2.2.1.toNat (a.1.2 1 (a.2.2.1 + (1 : Int)).toNat))) 1 (va_up ((va_up a.1.2 1 (va_up (a.1.2 1) a.2.2.1.toNat (a.1.2 1 (a.2.2.1 + (1 : Int)).toNat))) 1) (a.2.2.1 + (1 : Int)).toNat ((va_up a.1.2 1 (va_up (a.1.2 1) a.2.2.1.toNat (a.1.2 1 (a.2.2.1 + (1 : Int)).toNat))) 1 (a.2.2.1 + (2 : Int)).toNat))) 1 (a.2.2.1 + (3 : Int)).toNat))) 1) (a.2.2.1 + (3 : Int)).toNat (a.1.2 1 a.2.2.1.toNat)))), a.2.1, a.2.2.1, a.2.2.2 + (1 : Int)) _ _ hW hF (gt_un (by decide) (gt_un (by decide) hl0)) (gt_un (by decide) (gt_un (by decide) hl2)) (gt_un (by decide) (gt_un (by decide) hl3)) gt_us h
set_option maxHeartbeats 4000000 in
theorem gX4_beginPlacesAt_0 {X : ga_X} {D : va_G} {cI cZ : ClassId} {K : Nat} {r : Nat} {σ0 : ga_S} {res : gt_T} (C : ga_C X cX4_beginPlacesAt yX4_beginPlacesAt wsX4_beginPlacesAt [] (gt_rm 1 21) (D, vwCl, cI, cZ) 6) (hRet : ∀ (pc : Nat) (lv : Nat → Option ga_V) (σ' : ga_S), decode cX4_beginPlacesAt pc = .ok (.return_, 1) → (gt_O SX4 4 r res σ' ∧ gt_F r (r + 3) σ0 σ') → ga_G X 0 0 K pc lv [] σ') (hr0 : r ≠ 0) {T : gt_T} {σ : ga_S} {l1 l2 : Int} {lv : Nat → Option ga_V} (hW : gt_O SX4 4 r T σ) (hF : gt_F r (r + 3) σ0 σ) (hl0 : lv 0 = some (.inr r)) (hl1 : lv 1 = some (.inl l1)) (hl2 : lv 2 = some (.inl l2)) (h : fX4_beginPlacesAt T l1 l2 = some res) : ga_G X 0 0 K 0 lv [] σ := by
  unfold fX4_beginPlacesAt at h
  refine ga_aload_n C dX4_beginPlacesAt_0 rfl hl0 hr0 ?_
  refine ga_iload_n C dX4_beginPlacesAt_1 rfl hl1 ?_
  obtain ⟨q2, hq, h⟩ := Option.bind_eq_some_iff.mp h
  refine gt_cVi (n := 1) (st := []) C (eX4_has X.2.1 D cI cZ K hr0 hW hq) gX4_beginPlacesAt_X4_has rfl (by decide +kernel) rfl ⟨Nat.le_of_ble_eq_true rfl, Nat.le_of_ble_eq_true rfl⟩ hW.1 rfl rfl (Nat.le_of_ble_eq_true rfl) rfl dX4_beginPlacesAt_2 (fun σ' hp => ?_)
  subst hp
  refine ga_if_ne (tgt := 9) C dX4_beginPlacesAt_5 (by decide) (fun c1 => ?_) (fun c1 => ?_)
  · have h := gt_in h c1
    obtain ⟨hg, h⟩ := gt_gd h
    have g11_0 := hg
    refine ga_iconst C dX4_beginPlacesAt_9 ⟨by decide, by decide⟩ ?_
    refine ga_iload_n C dX4_beginPlacesAt_10 rfl hl1 ?_
    refine ga_imul C dX4_beginPlacesAt_11 g11_0 ?_
    refine ga_istore_n C dX4_beginPlacesAt_12 rfl (by decide) ?_
    refine ga_iconst C dX4_beginPlacesAt_13 ⟨by decide, by decide⟩ ?_
    refine ga_istore C dX4_beginPlacesAt_14 (by decide) ?_
    exact gX4_beginPlacesAt_16 C hRet hr0 gt_fuel (T, l2, (4 : Int) * l1, (0 : Int)) _ _ hW hF (gt_un (by decide) (gt_un (by decide) hl0)) (gt_un (by decide) (gt_un (by decide) hl2)) (gt_un (by decide) gt_us) gt_us h
  · have h := gt_ip h c1
    cases h
    exact hRet _ _ _ dX4_beginPlacesAt_8 ⟨hW, hF⟩
set_option maxHeartbeats 4000000 in
theorem eX4_beginPlacesAt (l : Launch) (D : va_G) (cI cZ : ClassId) (K : Nat) {r : Nat} (hr0 : r ≠ 0) {σ : ga_S} {T : gt_T} (hW : gt_O SX4 4 r T σ) {l1 l2 : Int} {res : gt_T} (h : fX4_beginPlacesAt T l1 l2 = some res) : ga_Ev l (D, vwCl, cI, cZ) yX4_beginPlacesAt wsX4_beginPlacesAt (gt_rm 1 21) [] 0 0 K [.inr r, .inl l1, .inl l2] σ (fun σ' rv => (gt_O SX4 4 r res σ' ∧ gt_F r (r + 3) σ σ') ∧ rv = none) := by
  refine ga_ofV (by decide +kernel) rfl gt_hcl (Nat.le_of_ble_eq_true rfl) (fun X hX C hret => ?_)
  exact gX4_beginPlacesAt_0 C (fun pc lv σ' d hp => hret pc lv σ' d ⟨hp, rfl⟩) hr0 hW gt_F.rf rfl rfl rfl h
-- X4_flipSign: flipSign(I)V
def fX4_flipSign_21 (T : gt_T) : Option (gt_T) :=
  some T
def fX4_flipSign (T : gt_T) (l1 : Int) : Option (gt_T) :=
  (fX4_has T l1).bind (fun (q2 : Int) => (if q2 = 0 then fX4_flipSign_21 T else (if (0 ≤ l1 ∧ l1 < 20) ∧ (-2147483648 ≤ (-(T.2 0 l1.toNat)) ∧ (-(T.2 0 l1.toNat)) < 2147483648) then fX4_flipSign_21 (T.1, (va_up T.2 0 (va_up (T.2 0) l1.toNat (-(T.2 0 l1.toNat))))) else none)))
theorem iX4_flipSign_X4 : ∀ w ∈ u_ws RX4 TX4 3, w ∈ wsX4_flipSign := by decide +kernel
theorem kX4_flipSign_9 : Cond.fieldLink yX4_flipSign.cls 9 (TX4 0).1 (TX4 0).2.1 (TX4 0).2.2.1 ∈ wsX4_flipSign := by decide +kernel
set_option maxHeartbeats 4000000 in
theorem gX4_flipSign_21 {X : ga_X} {D : va_G} {cI cZ : ClassId} {K : Nat} {r : Nat} {σ0 : ga_S} {res : gt_T} (C : ga_C X cX4_flipSign yX4_flipSign wsX4_flipSign [] (gt_rm 1 21) (D, vwCl, cI, cZ) 2) (hRet : ∀ (pc : Nat) (lv : Nat → Option ga_V) (σ' : ga_S), decode cX4_flipSign pc = .ok (.return_, 1) → (gt_O SX4 4 r res σ' ∧ gt_F r (r + 3) σ0 σ') → ga_G X 0 0 K pc lv [] σ') (hr0 : r ≠ 0) {T : gt_T} {σ : ga_S} {lv : Nat → Option ga_V} (hW : gt_O SX4 4 r T σ) (hF : gt_F r (r + 3) σ0 σ) (h : fX4_flipSign_21 T = some res) : ga_G X 0 0 K 21 lv [] σ := by
  unfold fX4_flipSign_21 at h
  cases h
  exact hRet _ _ _ dX4_flipSign_21 ⟨hW, hF⟩
set_option maxHeartbeats 4000000 in
theorem gX4_flipSign_0 {X : ga_X} {D : va_G} {cI cZ : ClassId} {K : Nat} {r : Nat} {σ0 : ga_S} {res : gt_T} (C : ga_C X cX4_flipSign yX4_flipSign wsX4_flipSign [] (gt_rm 1 21) (D, vwCl, cI, cZ) 2) (hRet : ∀ (pc : Nat) (lv : Nat → Option ga_V) (σ' : ga_S), decode cX4_flipSign pc = .ok (.return_, 1) → (gt_O SX4 4 r res σ' ∧ gt_F r (r + 3) σ0 σ') → ga_G X 0 0 K pc lv [] σ') (hr0 : r ≠ 0) {T : gt_T} {σ : ga_S} {l1 : Int} {lv : Nat → Option ga_V} (hW : gt_O SX4 4 r T σ) (hF : gt_F r (r + 3) σ0 σ) (hl0 : lv 0 = some (.inr r)) (hl1 : lv 1 = some (.inl l1)) (h : fX4_flipSign T l1 = some res) : ga_G X 0 0 K 0 lv [] σ := by
  unfold fX4_flipSign at h
  refine ga_aload_n C dX4_flipSign_0 rfl hl0 hr0 ?_
  refine ga_iload_n C dX4_flipSign_1 rfl hl1 ?_
  obtain ⟨q2, hq, h⟩ := Option.bind_eq_some_iff.mp h
  refine gt_cVi (n := 1) (st := []) C (eX4_has X.2.1 D cI cZ K hr0 hW hq) gX4_flipSign_X4_has rfl (by decide +kernel) rfl ⟨Nat.le_of_ble_eq_true rfl, Nat.le_of_ble_eq_true rfl⟩ hW.1 rfl rfl (Nat.le_of_ble_eq_true rfl) rfl dX4_flipSign_2 (fun σ' hp => ?_)
  subst hp
  refine ga_if_eq (tgt := 21) C dX4_flipSign_5 (by decide) (fun c1 => ?_) (fun c1 => ?_)
  · have h := gt_ip h c1
    exact gX4_flipSign_21 C hRet hr0 hW hF h
  · have h := gt_in h c1
    obtain ⟨hg, h⟩ := gt_gd h
    obtain ⟨g18_0, g19_1⟩ := hg
    refine ga_aload_n C dX4_flipSign_8 rfl hl0 hr0 ?_
    refine gt_geta C (iX4_flipSign_X4) hW 0 rfl rfl (by decide) kX4_flipSign_9 dX4_flipSign_9 ?_
    refine ga_iload_n C dX4_flipSign_12 rfl hl1 ?_
    refine ga_aload_n C dX4_flipSign_13 rfl hl0 hr0 ?_
    refine gt_geta C (iX4_flipSign_X4) hW 0 rfl rfl (by decide) kX4_flipSign_9 dX4_flipSign_14 ?_
    refine ga_iload_n C dX4_flipSign_17 rfl hl1 ?_
    refine gt_iald C hW 0 rfl g18_0.1 g18_0.2 dX4_flipSign_18 ?_
    refine ga_ineg C dX4_flipSign_19 g19_1 ?_
    refine gt_iast C okX4 hW hF ⟨Nat.le_refl _, Nat.le_refl _⟩ 0 rfl g18_0.1 g18_0.2 dX4_flipSign_20 (fun σ hW hF hf => ?_)
    exact gX4_flipSign_21 C hRet hr0 hW hF h
set_option maxHeartbeats 4000000 in
theorem eX4_flipSign (l : Launch) (D : va_G) (cI cZ : ClassId) (K : Nat) {r : Nat} (hr0 : r ≠ 0) {σ : ga_S} {T : gt_T} (hW : gt_O SX4 4 r T σ) {l1 : Int} {res : gt_T} (h : fX4_flipSign T l1 = some res) : ga_Ev l (D, vwCl, cI, cZ) yX4_flipSign wsX4_flipSign (gt_rm 1 21) [] 0 0 K [.inr r, .inl l1] σ (fun σ' rv => (gt_O SX4 4 r res σ' ∧ gt_F r (r + 3) σ σ') ∧ rv = none) := by
  refine ga_ofV (by decide +kernel) rfl gt_hcl (Nat.le_of_ble_eq_true rfl) (fun X hX C hret => ?_)
  exact gX4_flipSign_0 C (fun pc lv σ' d hp => hret pc lv σ' d ⟨hp, rfl⟩) hr0 hW gt_F.rf rfl rfl h
-- X4_turnStrands: turnStrands(IZZ)V
def fX4_turnStrands_20 (T : gt_T) : Option (gt_T) :=
  some T
def fX4_turnStrands_10 (T : gt_T) (l1 l2 l3 : Int) : Option (gt_T) :=
  (if l2 = l3 then fX4_turnStrands_20 T else (fX4_flipSign T l1).bind (fun (q17 : gt_T) => fX4_turnStrands_20 q17))
def fX4_turnStrands (T : gt_T) (l1 l2 l3 : Int) : Option (gt_T) :=
  (if l2 = 0 then fX4_turnStrands_10 T l1 l2 l3 else (fX4_beginPlacesAt T l1 (2 : Int)).bind (fun (q7 : gt_T) => fX4_turnStrands_10 q7 l1 l2 l3))
set_option maxHeartbeats 4000000 in
theorem gX4_turnStrands_20 {X : ga_X} {D : va_G} {cI cZ : ClassId} {K : Nat} {r : Nat} {σ0 : ga_S} {res : gt_T} (C : ga_C X cX4_turnStrands yX4_turnStrands wsX4_turnStrands [] (gt_rm 2 46) (D, vwCl, cI, cZ) 4) (hRet : ∀ (pc : Nat) (lv : Nat → Option ga_V) (σ' : ga_S), decode cX4_turnStrands pc = .ok (.return_, 1) → (gt_O SX4 4 r res σ' ∧ gt_F r (r + 3) σ0 σ') → ga_G X 0 0 K pc lv [] σ') (hr0 : r ≠ 0) {T : gt_T} {σ : ga_S} {lv : Nat → Option ga_V} (hW : gt_O SX4 4 r T σ) (hF : gt_F r (r + 3) σ0 σ) (h : fX4_turnStrands_20 T = some res) : ga_G X 0 0 K 20 lv [] σ := by
  unfold fX4_turnStrands_20 at h
  cases h
  exact hRet _ _ _ dX4_turnStrands_20 ⟨hW, hF⟩
set_option maxHeartbeats 4000000 in
theorem gX4_turnStrands_10 {X : ga_X} {D : va_G} {cI cZ : ClassId} {K : Nat} {r : Nat} {σ0 : ga_S} {res : gt_T} (C : ga_C X cX4_turnStrands yX4_turnStrands wsX4_turnStrands [] (gt_rm 2 46) (D, vwCl, cI, cZ) 4) (hRet : ∀ (pc : Nat) (lv : Nat → Option ga_V) (σ' : ga_S), decode cX4_turnStrands pc = .ok (.return_, 1) → (gt_O SX4 4 r res σ' ∧ gt_F r (r + 3) σ0 σ') → ga_G X 0 0 K pc lv [] σ') (hr0 : r ≠ 0) {T : gt_T} {σ : ga_S} {l1 l2 l3 : Int} {lv : Nat → Option ga_V} (hW : gt_O SX4 4 r T σ) (hF : gt_F r (r + 3) σ0 σ) (hl0 : lv 0 = some (.inr r)) (hl1 : lv 1 = some (.inl l1)) (hl2 : lv 2 = some (.inl l2)) (hl3 : lv 3 = some (.inl l3)) (h : fX4_turnStrands_10 T l1 l2 l3 = some res) : ga_G X 0 0 K 10 lv [] σ := by
  unfold fX4_turnStrands_10 at h
  refine ga_iload_n C dX4_turnStrands_10 rfl hl2 ?_
  refine ga_iload_n C dX4_turnStrands_11 rfl hl3 ?_
  refine ga_icmp_eq (tgt := 20) C dX4_turnStrands_12 (by decide) (fun c1 => ?_) (fun c1 => ?_)
  · have h := gt_ip h c1
    exact gX4_turnStrands_20 C hRet hr0 hW hF h
  · have h := gt_in h c1
    refine ga_aload_n C dX4_turnStrands_15 rfl hl0 hr0 ?_
    refine ga_iload_n C dX4_turnStrands_16 rfl hl1 ?_
    obtain ⟨q17, hq, h⟩ := Option.bind_eq_some_iff.mp h
    refine gt_cVv (n := 1) (st := []) C (eX4_flipSign X.2.1 D cI cZ K hr0 hW hq) gX4_turnStrands_X4_flipSign rfl (by decide +kernel) rfl ⟨Nat.le_of_ble_eq_true rfl, Nat.le_of_ble_eq_true rfl⟩ hW.1 rfl rfl (Nat.le_of_ble_eq_true rfl) rfl dX4_turnStrands_17 (fun σ' hp => ?_)
    obtain ⟨hw, hf⟩ := hp
    have hF := hF.tr hf (Nat.le_refl _) (Nat.le_refl _)
    have hW := hw
    clear hf
    exact gX4_turnStrands_20 C hRet hr0 hW hF h
set_option maxHeartbeats 4000000 in
theorem gX4_turnStrands_0 {X : ga_X} {D : va_G} {cI cZ : ClassId} {K : Nat} {r : Nat} {σ0 : ga_S} {res : gt_T} (C : ga_C X cX4_turnStrands yX4_turnStrands wsX4_turnStrands [] (gt_rm 2 46) (D, vwCl, cI, cZ) 4) (hRet : ∀ (pc : Nat) (lv : Nat → Option ga_V) (σ' : ga_S), decode cX4_turnStrands pc = .ok (.return_, 1) → (gt_O SX4 4 r res σ' ∧ gt_F r (r + 3) σ0 σ') → ga_G X 0 0 K pc lv [] σ') (hr0 : r ≠ 0) {T : gt_T} {σ : ga_S} {l1 l2 l3 : Int} {lv : Nat → Option ga_V} (hW : gt_O SX4 4 r T σ) (hF : gt_F r (r + 3) σ0 σ) (hl0 : lv 0 = some (.inr r)) (hl1 : lv 1 = some (.inl l1)) (hl2 : lv 2 = some (.inl l2)) (hl3 : lv 3 = some (.inl l3)) (h : fX4_turnStrands T l1 l2 l3 = some res) : ga_G X 0 0 K 0 lv [] σ := by
  unfold fX4_turnStrands at h
  refine ga_iload_n C dX4_turnStrands_0 rfl hl2 ?_
  refine ga_if_eq (tgt := 10) C dX4_turnStrands_1 (by decide) (fun c1 => ?_) (fun c1 => ?_)
  · have h := gt_ip h c1
    exact gX4_turnStrands_10 C hRet hr0 hW hF hl0 hl1 hl2 hl3 h
  · have h := gt_in h c1
    refine ga_aload_n C dX4_turnStrands_4 rfl hl0 hr0 ?_
    refine ga_iload_n C dX4_turnStrands_5 rfl hl1 ?_
    refine ga_iconst C dX4_turnStrands_6 ⟨by decide, by decide⟩ ?_
    obtain ⟨q7, hq, h⟩ := Option.bind_eq_some_iff.mp h
    refine gt_cVv (n := 2) (st := []) C (eX4_beginPlacesAt X.2.1 D cI cZ K hr0 hW hq) gX4_turnStrands_X4_beginPlacesAt rfl (by decide +kernel) rfl ⟨Nat.le_of_ble_eq_true rfl, Nat.le_of_ble_eq_true rfl⟩ hW.1 rfl rfl (Nat.le_of_ble_eq_true rfl) rfl dX4_turnStrands_7 (fun σ' hp => ?_)
    obtain ⟨hw, hf⟩ := hp
    have hF := hF.tr hf (Nat.le_refl _) (Nat.le_refl _)
    have hW := hw
    clear hf
    exact gX4_turnStrands_10 C hRet hr0 hW hF hl0 hl1 hl2 hl3 h
set_option maxHeartbeats 4000000 in
theorem eX4_turnStrands (l : Launch) (D : va_G) (cI cZ : ClassId) (K : Nat) {r : Nat} (hr0 : r ≠ 0) {σ : ga_S} {T : gt_T} (hW : gt_O SX4 4 r T σ) {l1 l2 l3 : Int} {res : gt_T} (h : fX4_turnStrands T l1 l2 l3 = some res) : ga_Ev l (D, vwCl, cI, cZ) yX4_turnStrands wsX4_turnStrands (gt_rm 2 46) [] 0 0 K [.inr r, .inl l1, .inl l2, .inl l3] σ (fun σ' rv => (gt_O SX4 4 r res σ' ∧ gt_F r (r + 3) σ σ') ∧ rv = none) := by
  refine ga_ofV (by decide +kernel) rfl gt_hcl (Nat.le_of_ble_eq_true rfl) (fun X hX C hret => ?_)
  exact gX4_turnStrands_0 C (fun pc lv σ' d hp => hret pc lv σ' d ⟨hp, rfl⟩) hr0 hW gt_F.rf rfl rfl rfl rfl h
-- X4_setLabel: setLabel(II)V
def fX4_setLabel_19 (T : gt_T) : Option (gt_T) :=
  some T
def fX4_setLabel (T : gt_T) (l1 l2 : Int) : Option (gt_T) :=
  (if l1 < 0 then fX4_setLabel_19 T else (fX4_spots T).bind (fun (q6 : Int) => (if q6 ≤ l1 then fX4_setLabel_19 T else (if (0 ≤ l1 ∧ l1 < 80) then fX4_setLabel_19 (T.1, (va_up T.2 1 (va_up (T.2 1) l1.toNat l2))) else none))))
theorem iX4_setLabel_X4 : ∀ w ∈ u_ws RX4 TX4 3, w ∈ wsX4_setLabel := by decide +kernel
theorem kX4_setLabel_15 : Cond.fieldLink yX4_setLabel.cls 15 (TX4 1).1 (TX4 1).2.1 (TX4 1).2.2.1 ∈ wsX4_setLabel := by decide +kernel
set_option maxHeartbeats 4000000 in
theorem gX4_setLabel_19 {X : ga_X} {D : va_G} {cI cZ : ClassId} {K : Nat} {r : Nat} {σ0 : ga_S} {res : gt_T} (C : ga_C X cX4_setLabel yX4_setLabel wsX4_setLabel [] (gt_rm 1 20) (D, vwCl, cI, cZ) 3) (hRet : ∀ (pc : Nat) (lv : Nat → Option ga_V) (σ' : ga_S), decode cX4_setLabel pc = .ok (.return_, 1) → (gt_O SX4 4 r res σ' ∧ gt_F r (r + 3) σ0 σ') → ga_G X 0 0 K pc lv [] σ') (hr0 : r ≠ 0) {T : gt_T} {σ : ga_S} {lv : Nat → Option ga_V} (hW : gt_O SX4 4 r T σ) (hF : gt_F r (r + 3) σ0 σ) (h : fX4_setLabel_19 T = some res) : ga_G X 0 0 K 19 lv [] σ := by
  unfold fX4_setLabel_19 at h
  cases h
  exact hRet _ _ _ dX4_setLabel_19 ⟨hW, hF⟩
set_option maxHeartbeats 4000000 in
theorem gX4_setLabel_0 {X : ga_X} {D : va_G} {cI cZ : ClassId} {K : Nat} {r : Nat} {σ0 : ga_S} {res : gt_T} (C : ga_C X cX4_setLabel yX4_setLabel wsX4_setLabel [] (gt_rm 1 20) (D, vwCl, cI, cZ) 3) (hRet : ∀ (pc : Nat) (lv : Nat → Option ga_V) (σ' : ga_S), decode cX4_setLabel pc = .ok (.return_, 1) → (gt_O SX4 4 r res σ' ∧ gt_F r (r + 3) σ0 σ') → ga_G X 0 0 K pc lv [] σ') (hr0 : r ≠ 0) {T : gt_T} {σ : ga_S} {l1 l2 : Int} {lv : Nat → Option ga_V} (hW : gt_O SX4 4 r T σ) (hF : gt_F r (r + 3) σ0 σ) (hl0 : lv 0 = some (.inr r)) (hl1 : lv 1 = some (.inl l1)) (hl2 : lv 2 = some (.inl l2)) (h : fX4_setLabel T l1 l2 = some res) : ga_G X 0 0 K 0 lv [] σ := by
  unfold fX4_setLabel at h
  refine ga_iload_n C dX4_setLabel_0 rfl hl1 ?_
  refine ga_if_lt (tgt := 19) C dX4_setLabel_1 (by decide) (fun c1 => ?_) (fun c1 => ?_)
  · have h := gt_ip h c1
    exact gX4_setLabel_19 C hRet hr0 hW hF h
  · have h := gt_in h c1
    refine ga_iload_n C dX4_setLabel_4 rfl hl1 ?_
    refine ga_aload_n C dX4_setLabel_5 rfl hl0 hr0 ?_
    obtain ⟨q6, hq, h⟩ := Option.bind_eq_some_iff.mp h
    refine gt_cVi (n := 0) (st := [.inl l1]) C (eX4_spots X.2.1 D cI cZ K hr0 hW hq) gX4_setLabel_X4_spots rfl (by decide +kernel) rfl ⟨Nat.le_of_ble_eq_true rfl, Nat.le_of_ble_eq_true rfl⟩ hW.1 rfl rfl (Nat.le_of_ble_eq_true rfl) rfl dX4_setLabel_6 (fun σ' hp => ?_)
    subst hp
    refine ga_icmp_ge (tgt := 19) C dX4_setLabel_9 (by decide) (fun c1 => ?_) (fun c1 => ?_)
    · have h := gt_ip h c1
      exact gX4_setLabel_19 C hRet hr0 hW hF h
    · have h := gt_in h c1
      obtain ⟨hg, h⟩ := gt_gd h
      have g18_0 := hg
      refine ga_aload_n C dX4_setLabel_12 rfl hl0 hr0 ?_
      refine gt_geta C (iX4_setLabel_X4) hW 1 rfl rfl (by decide) kX4_setLabel_15 dX4_setLabel_13 ?_
      refine ga_iload_n C dX4_setLabel_16 rfl hl1 ?_
      refine ga_iload_n C dX4_setLabel_17 rfl hl2 ?_
      refine gt_iast C okX4 hW hF ⟨Nat.le_refl _, Nat.le_refl _⟩ 1 rfl g18_0.1 g18_0.2 dX4_setLabel_18 (fun σ hW hF hf => ?_)
      exact gX4_setLabel_19 C hRet hr0 hW hF h
set_option maxHeartbeats 4000000 in
theorem eX4_setLabel (l : Launch) (D : va_G) (cI cZ : ClassId) (K : Nat) {r : Nat} (hr0 : r ≠ 0) {σ : ga_S} {T : gt_T} (hW : gt_O SX4 4 r T σ) {l1 l2 : Int} {res : gt_T} (h : fX4_setLabel T l1 l2 = some res) : ga_Ev l (D, vwCl, cI, cZ) yX4_setLabel wsX4_setLabel (gt_rm 1 20) [] 0 0 K [.inr r, .inl l1, .inl l2] σ (fun σ' rv => (gt_O SX4 4 r res σ' ∧ gt_F r (r + 3) σ σ') ∧ rv = none) := by
  refine ga_ofV (by decide +kernel) rfl gt_hcl (Nat.le_of_ble_eq_true rfl) (fun X hX C hret => ?_)
  exact gX4_setLabel_0 C (fun pc lv σ' d hp => hret pc lv σ' d ⟨hp, rfl⟩) hr0 hW gt_F.rf rfl rfl rfl h
-- X4_clear: clear()V
def fX4_clear (T : gt_T) : Option (gt_T) :=
  some ((va_up T.1 2 (0 : Int)), T.2)
theorem iX4_clear_X4 : ∀ w ∈ u_ws RX4 TX4 3, w ∈ wsX4_clear := by decide +kernel
theorem kX4_clear_18 : Cond.fieldLink yX4_clear.cls 18 (TX4 2).1 (TX4 2).2.1 (TX4 2).2.2.1 ∈ wsX4_clear := by decide +kernel
set_option maxHeartbeats 4000000 in
theorem gX4_clear_0 {X : ga_X} {D : va_G} {cI cZ : ClassId} {K : Nat} {r : Nat} {σ0 : ga_S} {res : gt_T} (C : ga_C X cX4_clear yX4_clear wsX4_clear [] (gt_rm 0 0) (D, vwCl, cI, cZ) 1) (hRet : ∀ (pc : Nat) (lv : Nat → Option ga_V) (σ' : ga_S), decode cX4_clear pc = .ok (.return_, 1) → (gt_O SX4 4 r res σ' ∧ gt_F r (r + 3) σ0 σ') → ga_G X 0 0 K pc lv [] σ') (hr0 : r ≠ 0) {T : gt_T} {σ : ga_S} {lv : Nat → Option ga_V} (hW : gt_O SX4 4 r T σ) (hF : gt_F r (r + 3) σ0 σ) (hl0 : lv 0 = some (.inr r)) (h : fX4_clear T = some res) : ga_G X 0 0 K 0 lv [] σ := by
  unfold fX4_clear at h
  refine ga_aload_n C dX4_clear_0 rfl hl0 hr0 ?_
  refine ga_iconst C dX4_clear_1 ⟨by decide, by decide⟩ ?_
  refine gt_puti C okX4 (by decide) (iX4_clear_X4) tyX4 tyX4_ok nmX4 hW hF ⟨Nat.le_refl _, Nat.le_refl _⟩ 2 rfl rfl (by decide) kX4_clear_18 rfl (by decide +kernel) dX4_clear_2 (fun σ hW hF hf => ?_)
  cases h
  exact hRet _ _ _ dX4_clear_5 ⟨hW, hF⟩
set_option maxHeartbeats 4000000 in
theorem eX4_clear (l : Launch) (D : va_G) (cI cZ : ClassId) (K : Nat) {r : Nat} (hr0 : r ≠ 0) {σ : ga_S} {T : gt_T} (hW : gt_O SX4 4 r T σ) {res : gt_T} (h : fX4_clear T = some res) : ga_Ev l (D, vwCl, cI, cZ) yX4_clear wsX4_clear (gt_rm 0 0) [] 0 0 K [.inr r] σ (fun σ' rv => (gt_O SX4 4 r res σ' ∧ gt_F r (r + 3) σ σ') ∧ rv = none) := by
  refine ga_ofV (by decide +kernel) rfl gt_hcl (Nat.le_of_ble_eq_true rfl) (fun X hX C hret => ?_)
  exact gX4_clear_0 C (fun pc lv σ' d hp => hret pc lv σ' d ⟨hp, rfl⟩) hr0 hW gt_F.rf rfl h
-- X4_append: append(IIIII)Z
def fX4_append (T : gt_T) (l1 l2 l3 l4 l5 : Int) : Option (gt_T × Int) :=
  (if (T.1 2) < (20 : Int) then (if (-2147483648 ≤ (4 : Int) * (T.1 2) ∧ (4 : Int) * (T.1 2) < 2147483648) ∧ (0 ≤ (T.1 2) ∧ (T.1 2) < 20) ∧ (0 ≤ ((4 : Int) * (T.1 2)) ∧ ((4 : Int) * (T.1 2)) < 80) ∧ (-2147483648 ≤ ((4 : Int) * (T.1 2)) + (1 : Int) ∧ ((4 : Int) * (T.1 2)) + (1 : Int) < 2147483648) ∧ (0 ≤ (((4 : Int) * (T.1 2)) + (1 : Int)) ∧ (((4 : Int) * (T.1 2)) + (1 : Int)) < 80) ∧ (-2147483648 ≤ ((4 : Int) * (T.1 2)) + (2 : Int) ∧ ((4 : Int) * (T.1 2)) + (2 : Int) < 2147483648) ∧ (0 ≤ (((4 : Int) * (T.1 2)) + (2 : Int)) ∧ (((4 : Int) * (T.1 2)) + (2 : Int)) < 80) ∧ (-2147483648 ≤ ((4 : Int) * (T.1 2)) + (3 : Int) ∧ ((4 : Int) * (T.1 2)) + (3 : Int) < 2147483648) ∧ (0 ≤ (((4 : Int) * (T.1 2)) + (3 : Int)) ∧ (((4 : Int) * (T.1 2)) + (3 : Int)) < 80) ∧ (-2147483648 ≤ (T.1 2) + (1 : Int) ∧ (T.1 2) + (1 : Int) < 2147483648) ∧ ((1 : Int) = 0 ∨ (1 : Int) = 1) then some (((va_up T.1 2 ((T.1 2) + (1 : Int))), (va_up (va_up (va_up (va_up (va_up T.2 0 (va_up (T.2 0) (T.1 2).toNat l1)) 1 (va_up ((va_up T.2 0 (va_up (T.2 0) (T.1 2).toNat l1)) 1) ((4 : Int) * (T.1 2)).toNat l2)) 1 (va_up ((va_up (va_up T.2 0 (va_up (T.2 0) (T.1 2).toNat l1)) 1 (va_up ((va_up T.2 0 (va_up (T.2 0) (T.1 2).toNat l1)) 1) ((4 : Int) * (T.1 2)).toNat l2)) 1) (((4 : Int) * (T.1 2)) + (1 : Int)).toNat l3)) 1 (va_up ((va_up (va_up (va_up T.2 0 (va_up (T.2 0) (T.1 2).toNat l1)) 1 (va_up ((va_up T.2 0 (va_up (T.2 0) (T.1 2).toNat l1)) 1) ((4 : Int) * (T.1 2)).toNat l2)) 1 (va_up ((va_up (va_up T.2 0 (va_up (T.2 0) (T.1 2).toNat l1)) 1 (va_up ((va_up T.2 0 (va_up (T.2 0) (T.1 2).toNat l1)) 1) ((4 : Int) * (T.1 2)).toNat l2)) 1) (((4 : Int) * (T.1 2)) + (1 : Int)).toNat l3)) 1) (((4 : Int) * (T.1 2)) + (2 : Int)).toNat l4)) 1 (va_up ((va_up (va_up (va_up (va_up T.2 0 (va_up (T.2 0) (T.1 2).toNat l1)) 1 (va_up ((va_up T.2 0 (va_up (T.2 0) (T.1 2).toNat l1)) 1) ((4 : Int) * (T.1 2)).toNat l2)) 1 (va_up ((va_up (va_up T.2 0 (va_up (T.2 0) (T.1 2).toNat l1)) 1 (va_up ((va_up T.2 0 (va_up (T.2 0) (T.1 2).toNat l1)) 1) ((4 : Int) * (T.1 2)).toNat l2)) 1) (((4 : Int) * (T.1 2)) + (1 : Int)).toNat l3)) 1 (va_up ((va_up (va_up (va_up T.2 0 (va_up (T.2 0) (T.1 2).toNat l1)) 1 (va_up ((va_up T.2 0 (va_up (T.2 0) (T.1 2).toNat l1)) 1) ((4 : Int) * (T.1 2)).toNat l2)) 1 (va_up ((va_up (va_up T.2 0 (va_up (T.2 0) (T.1 2).toNat l1)) 1 (va_up ((va_up T.2 0 (va_up (T.2 0) (T.1 2).toNat l1)) 1) ((4 : Int) * (T.1 2)).toNat l2)) 1) (((4 : Int) * (T.1 2)) + (1 : Int)).toNat l3)) 1) (((4 : Int) * (T.1 2)) + (2 : Int)).toNat l4)) 1) (((4 : Int) * (T.1 2)) + (3 : Int)).toNat l5))), (1 : Int)) else none) else (if ((0 : Int) = 0 ∨ (0 : Int) = 1) then some (T, (0 : Int)) else none))
theorem iX4_append_X4 : ∀ w ∈ u_ws RX4 TX4 3, w ∈ wsX4_append := by decide +kernel
theorem kX4_append_9 : Cond.fieldLink yX4_append.cls 9 (TX4 0).1 (TX4 0).2.1 (TX4 0).2.2.1 ∈ wsX4_append := by decide +kernel
theorem kX4_append_15 : Cond.fieldLink yX4_append.cls 15 (TX4 1).1 (TX4 1).2.1 (TX4 1).2.2.1 ∈ wsX4_append := by decide +kernel
theorem kX4_append_18 : Cond.fieldLink yX4_append.cls 18 (TX4 2).1 (TX4 2).2.1 (TX4 2).2.2.1 ∈ wsX4_append := by decide +kernel
set_option maxHeartbeats 4000000 in
theorem gX4_append_0 {X : ga_X} {D : va_G} {cI cZ : ClassId} {K : Nat} {r : Nat} {σ0 : ga_S} {res : gt_T × Int} (C : ga_C X cX4_append yX4_append wsX4_append [] (gt_rm 0 0) (D, vwCl, cI, cZ) 7) (hRet : ∀ (pc : Nat) (lv : Nat → Option ga_V) (σ' : ga_S) (z : Int), decode cX4_append pc = .ok (.ireturn, 1) → (z = 0 ∨ z = 1) → z = res.2 → (gt_O SX4 4 r res.1 σ' ∧ gt_F r (r + 3) σ0 σ') → ga_G X 0 0 K pc lv [.inl z] σ') (hr0 : r ≠ 0) {T : gt_T} {σ : ga_S} {l1 l2 l3 l4 l5 : Int} {lv : Nat → Option ga_V} (hW : gt_O SX4 4 r T σ) (hF : gt_F r (r + 3) σ0 σ) (hl0 : lv 0 = some (.inr r)) (hl1 : lv 1 = some (.inl l1)) (hl2 : lv 2 = some (.inl l2)) (hl3 : lv 3 = some (.inl l3)) (hl4 : lv 4 = some (.inl l4)) (hl5 : lv 5 = some (.inl l5)) (h : fX4_append T l1 l2 l3 l4 l5 = some res) : ga_G X 0 0 K 0 lv [] σ := by
  unfold fX4_append at h
  refine ga_aload_n C dX4_append_0 rfl hl0 hr0 ?_
  refine gt_geti C (iX4_append_X4) hW 2 rfl rfl (by decide) kX4_append_18 dX4_append_1 ?_
  refine ga_bipush C dX4_append_4 ⟨by decide, by decide⟩ (by decide) ?_
  refine ga_icmp_lt (tgt := 11) C dX4_append_6 (by decide) (fun c1 => ?_) (fun c1 => ?_)
  · have h := gt_ip h c1
    obtain ⟨hg, h⟩ := gt_gd h
    obtain ⟨g16_0, g28_1, g36_2, g44_3, g46_4, g54_5, g57_6, g65_7, g68_8, g75_9, g80_10⟩ := hg
    refine ga_iconst C dX4_append_11 ⟨by decide, by decide⟩ ?_
    refine ga_aload_n C dX4_append_12 rfl hl0 hr0 ?_
    refine gt_geti C (iX4_append_X4) hW 2 rfl rfl (by decide) kX4_append_18 dX4_append_13 ?_
    refine ga_imul C dX4_append_16 g16_0 ?_
    refine ga_istore C dX4_append_17 (by decide) ?_
    refine ga_aload_n C dX4_append_19 rfl (gt_un (by decide) hl0) hr0 ?_
    refine gt_geta C (iX4_append_X4) hW 0 rfl rfl (by decide) kX4_append_9 dX4_append_20 ?_
    refine ga_aload_n C dX4_append_23 rfl (gt_un (by decide) hl0) hr0 ?_
    refine gt_geti C (iX4_append_X4) hW 2 rfl rfl (by decide) kX4_append_18 dX4_append_24 ?_
    refine ga_iload_n C dX4_append_27 rfl (gt_un (by decide) hl1) ?_
    refine gt_iast C okX4 hW hF ⟨Nat.le_refl _, Nat.le_refl _⟩ 0 rfl g28_1.1 g28_1.2 dX4_append_28 (fun σ hW hF hf => ?_)
    refine ga_aload_n C dX4_append_29 rfl (gt_un (by decide) hl0) hr0 ?_
    refine gt_geta C (iX4_append_X4) hW 1 rfl rfl (by decide) kX4_append_15 dX4_append_30 ?_
    refine ga_iload C dX4_append_33 gt_us ?_
    refine ga_iload_n C dX4_append_35 rfl (gt_un (by decide) hl2) ?_
    refine gt_iast C okX4 hW hF ⟨Nat.le_refl _, Nat.le_refl _⟩ 1 rfl g36_2.1 g36_2.2 dX4_append_36 (fun σ hW hF hf => ?_)
    refine ga_aload_n C dX4_append_37 rfl (gt_un (by decide) hl0) hr0 ?_
    refine gt_geta C (iX4_append_X4) hW 1 rfl rfl (by decide) kX4_append_15 dX4_append_38 ?_
    refine ga_iload C dX4_append_41 gt_us ?_
    refine ga_iconst C dX4_append_43 ⟨by decide, by decide⟩ ?_
    refine ga_iadd C dX4_append_44 g44_3 ?_
    refine ga_iload_n C dX4_append_45 rfl (gt_un (by decide) hl3) ?_
    refine gt_iast C okX4 hW hF ⟨Nat.le_refl _, Nat.le_refl _⟩ 1 rfl g46_4.1 g46_4.2 dX4_append_46 (fun σ hW hF hf => ?_)
    refine ga_aload_n C dX4_append_47 rfl (gt_un (by decide) hl0) hr0 ?_
    refine gt_geta C (iX4_append_X4) hW 1 rfl rfl (by decide) kX4_append_15 dX4_append_48 ?_
    refine ga_iload C dX4_append_51 gt_us ?_
    refine ga_iconst C dX4_append_53 ⟨by decide, by decide⟩ ?_
    refine ga_iadd C dX4_append_54 g54_5 ?_
    refine ga_iload C dX4_append_55 (gt_un (by decide) hl4) ?_
    refine gt_iast C okX4 hW hF ⟨Nat.le_refl _, Nat.le_refl _⟩ 1 rfl g57_6.1 g57_6.2 dX4_append_57 (fun σ hW hF hf => ?_)
    refine ga_aload_n C dX4_append_58 rfl (gt_un (by decide) hl0) hr0 ?_
    refine gt_geta C (iX4_append_X4) hW 1 rfl rfl (by decide) kX4_append_15 dX4_append_59 ?_
    refine ga_iload C dX4_append_62 gt_us ?_
    refine ga_iconst C dX4_append_64 ⟨by decide, by decide⟩ ?_
    refine ga_iadd C dX4_append_65 g65_7 ?_
    refine ga_iload C dX4_append_66 (gt_un (by decide) hl5) ?_
    refine gt_iast C okX4 hW hF ⟨Nat.le_refl _, Nat.le_refl _⟩ 1 rfl g68_8.1 g68_8.2 dX4_append_68 (fun σ hW hF hf => ?_)
    refine ga_aload_n C dX4_append_69 rfl (gt_un (by decide) hl0) hr0 ?_
    refine ga_dup C dX4_append_70 ?_
    refine gt_geti C (iX4_append_X4) hW 2 rfl rfl (by decide) kX4_append_18 dX4_append_71 ?_
    refine ga_iconst C dX4_append_74 ⟨by decide, by decide⟩ ?_
    refine ga_iadd C dX4_append_75 g75_9 ?_
    refine gt_puti C okX4 (by decide) (iX4_append_X4) tyX4 tyX4_ok nmX4 hW hF ⟨Nat.le_refl _, Nat.le_refl _⟩ 2 rfl rfl (by decide) kX4_append_18 rfl (by decide +kernel) dX4_append_76 (fun σ hW hF hf => ?_)
    refine ga_iconst C dX4_append_79 ⟨by decide, by decide⟩ ?_
    cases h
    exact hRet _ _ _ _ dX4_append_80 g80_10 rfl ⟨hW, hF⟩
  · have h := gt_in h c1
    obtain ⟨hg, h⟩ := gt_gd h
    have g10_0 := hg
    refine ga_iconst C dX4_append_9 ⟨by decide, by decide⟩ ?_
    cases h
    exact hRet _ _ _ _ dX4_append_10 g10_0 rfl ⟨hW, hF⟩
set_option maxHeartbeats 4000000 in
theorem eX4_append (l : Launch) (D : va_G) (cI cZ : ClassId) (K : Nat) {r : Nat} (hr0 : r ≠ 0) {σ : ga_S} {T : gt_T} (hW : gt_O SX4 4 r T σ) {l1 l2 l3 l4 l5 : Int} {res : gt_T × Int} (h : fX4_append T l1 l2 l3 l4 l5 = some res) : ga_Ev l (D, vwCl, cI, cZ) yX4_append wsX4_append (gt_rm 0 0) [] 0 0 K [.inr r, .inl l1, .inl l2, .inl l3, .inl l4, .inl l5] σ (fun σ' rv => (gt_O SX4 4 r res.1 σ' ∧ gt_F r (r + 3) σ σ') ∧ rv = some (.inl res.2)) := by
  refine ga_ofZ (by decide +kernel) rfl gt_hcl (Nat.le_of_ble_eq_true rfl) (fun X hX C hret => ?_)
  exact gX4_append_0 C (fun pc lv σ' z d h01 hz hp => hret pc lv σ' z d h01 ⟨hp, by rw [hz]⟩) hr0 hW gt_F.rf rfl rfl rfl rfl rfl rfl h
-- X4_sumOfSigns: sumOfSigns()I
def fX4_sumOfSigns_4 (T : gt_T) (k4 : Int × Int → Option (Int)) (a : Int × Int) : Option (Int) :=
  (if (T.1 2) ≤ a.2 then some a.1 else (if (0 ≤ a.2 ∧ a.2 < 20) ∧ (-2147483648 ≤ a.1 + (T.2 0 a.2.toNat) ∧ a.1 + (T.2 0 a.2.toNat) < 2147483648) ∧ (-2147483648 ≤ a.2 + (1 : Int) ∧ a.2 + (1 : Int) < 2147483648) then k4 (a.1 + (T.2 0 a.2.toNat), a.2 + (1 : Int)) else none))
def fX4_sumOfSigns (T : gt_T) : Option (Int) :=
  gt_loop (fX4_sumOfSigns_4 T) gt_fuel ((0 : Int), (0 : Int))
theorem iX4_sumOfSigns_X4 : ∀ w ∈ u_ws RX4 TX4 3, w ∈ wsX4_sumOfSigns := by decide +kernel
theorem kX4_sumOfSigns_9 : Cond.fieldLink yX4_sumOfSigns.cls 9 (TX4 0).1 (TX4 0).2.1 (TX4 0).2.2.1 ∈ wsX4_sumOfSigns := by decide +kernel
theorem kX4_sumOfSigns_18 : Cond.fieldLink yX4_sumOfSigns.cls 18 (TX4 2).1 (TX4 2).2.1 (TX4 2).2.2.1 ∈ wsX4_sumOfSigns := by decide +kernel
set_option maxHeartbeats 4000000 in
theorem gX4_sumOfSigns_4 {X : ga_X} {D : va_G} {cI cZ : ClassId} {K : Nat} {r : Nat} {res : Int} {T : gt_T} {σ : ga_S} (C : ga_C X cX4_sumOfSigns yX4_sumOfSigns wsX4_sumOfSigns [] (gt_rm 0 0) (D, vwCl, cI, cZ) 3) (hRet : ∀ (pc : Nat) (lv : Nat → Option ga_V) (σ' : ga_S) (z : Int), decode cX4_sumOfSigns pc = .ok (.ireturn, 1) → z = res → (σ' = σ) → ga_G X 0 0 K pc lv [.inl z] σ') (hr0 : r ≠ 0) : ∀ (n : Nat) (a : Int × Int) (lv : Nat → Option ga_V), gt_O SX4 4 r T σ → lv 0 = some (.inr r) → lv 1 = some (.inl a.1) → lv 2 = some (.inl a.2) → gt_loop (fX4_sumOfSigns_4 T) n a = some res → ga_G X 0 0 K 4 lv [] σ := by
  intro n
  induction n with
  | zero =>
    intro a lv _ _ _ _ h
    exact absurd (show (none : Option _) = some _ from h) (fun q => by cases q)
  | succ n hk4 =>
    intro a lv hW hl0 hl1 hl2 h
    have h : fX4_sumOfSigns_4 T (gt_loop (fX4_sumOfSigns_4 T) n) a = some res := h
    revert hk4 h
    generalize gt_loop (fX4_sumOfSigns_4 T) n = k4
    intro hk4 h
    unfold fX4_sumOfSigns_4 at h
    refine ga_iload_n C dX4_sumOfSigns_4 rfl hl2 ?_
    refine ga_aload_n C dX4_sumOfSigns_5 rfl hl0 hr0 ?_
    refine gt_geti C (iX4_sumOfSigns_X4) hW 2 rfl rfl (by decide) kX4_sumOfSigns_18 dX4_sumOfSigns_6 ?_
    refine ga_icmp_ge (tgt := 27) C dX4_sumOfSigns_9 (by decide) (fun c1 => ?_) (fun c1 => ?_)
    · have h := gt_ip h c1
      refine ga_iload_n C dX4_sumOfSigns_27 rfl hl1 ?_
      cases h
      exact hRet _ _ _ _ dX4_sumOfSigns_28 rfl rfl
    · have h := gt_in h c1
      obtain ⟨hg, h⟩ := gt_gd h
      obtain ⟨g18_0, g19_1, g21_2⟩ := hg
      refine ga_iload_n C dX4_sumOfSigns_12 rfl hl1 ?_
      refine ga_aload_n C dX4_sumOfSigns_13 rfl hl0 hr0 ?_
      refine gt_geta C (iX4_sumOfSigns_X4) hW 0 rfl rfl (by decide) kX4_sumOfSigns_9 dX4_sumOfSigns_14 ?_
      refine ga_iload_n C dX4_sumOfSigns_17 rfl hl2 ?_
      refine gt_iald C hW 0 rfl g18_0.1 g18_0.2 dX4_sumOfSigns_18 ?_
      refine ga_iadd C dX4_sumOfSigns_19 g19_1 ?_
      refine ga_istore_n C dX4_sumOfSigns_20 rfl (by decide) ?_
      refine ga_iinc C dX4_sumOfSigns_21 (gt_un (by decide) hl2) g21_2 ?_
      refine ga_goto (tgt := 4) C dX4_sumOfSigns_24 (by decide) ?_
      exact hk4 (a.1 + (T.2 0 a.2.toNat), a.2 + (1 : Int)) _ hW (gt_un (by decide) (gt_un (by decide) hl0)) (gt_un (by decide) gt_us) gt_us h
set_option maxHeartbeats 4000000 in
theorem gX4_sumOfSigns_0 {X : ga_X} {D : va_G} {cI cZ : ClassId} {K : Nat} {r : Nat} {res : Int} {T : gt_T} {σ : ga_S} (C : ga_C X cX4_sumOfSigns yX4_sumOfSigns wsX4_sumOfSigns [] (gt_rm 0 0) (D, vwCl, cI, cZ) 3) (hRet : ∀ (pc : Nat) (lv : Nat → Option ga_V) (σ' : ga_S) (z : Int), decode cX4_sumOfSigns pc = .ok (.ireturn, 1) → z = res → (σ' = σ) → ga_G X 0 0 K pc lv [.inl z] σ') (hr0 : r ≠ 0) {lv : Nat → Option ga_V} (hW : gt_O SX4 4 r T σ) (hl0 : lv 0 = some (.inr r)) (h : fX4_sumOfSigns T = some res) : ga_G X 0 0 K 0 lv [] σ := by
  unfold fX4_sumOfSigns at h
  refine ga_iconst C dX4_sumOfSigns_0 ⟨by decide, by decide⟩ ?_
  refine ga_istore_n C dX4_sumOfSigns_1 rfl (by decide) ?_
  refine ga_iconst C dX4_sumOfSigns_2 ⟨by decide, by decide⟩ ?_
  refine ga_istore_n C dX4_sumOfSigns_3 rfl (by decide) ?_
  exact gX4_sumOfSigns_4 C hRet hr0 gt_fuel ((0 : Int), (0 : Int)) _ hW (gt_un (by decide) (gt_un (by decide) hl0)) (gt_un (by decide) gt_us) gt_us h
set_option maxHeartbeats 4000000 in
theorem eX4_sumOfSigns (l : Launch) (D : va_G) (cI cZ : ClassId) (K : Nat) {r : Nat} (hr0 : r ≠ 0) {σ : ga_S} {T : gt_T} (hW : gt_O SX4 4 r T σ) {res : Int} (h : fX4_sumOfSigns T = some res) : ga_Ev l (D, vwCl, cI, cZ) yX4_sumOfSigns wsX4_sumOfSigns (gt_rm 0 0) [] 0 0 K [.inr r] σ (fun σ' rv => (σ' = σ) ∧ rv = some (.inl res)) := by
  refine ga_ofI (by decide +kernel) rfl gt_hcl (Nat.le_of_ble_eq_true rfl) (fun X hX C hret => ?_)
  exact gX4_sumOfSigns_0 C (fun pc lv σ' z d hz hp => hret pc lv σ' z d ⟨hp, by rw [hz]⟩) hr0 hW rfl h
-- X4_exchangeStrands: exchangeStrands(I)V
def fX4_exchangeStrands (T : gt_T) (l1 : Int) : Option (gt_T) :=
  (fX4_upperIn T l1).bind (fun (q4 : Int) => (if 0 ≤ q4 then (fX4_beginPlacesAt T l1 (q4 % (4 : Int))).bind (fun (q9 : gt_T) => (fX4_flipSign q9 l1).bind (fun (q14 : gt_T) => some q14)) else none))
set_option maxHeartbeats 4000000 in
theorem gX4_exchangeStrands_0 {X : ga_X} {D : va_G} {cI cZ : ClassId} {K : Nat} {r : Nat} {σ0 : ga_S} {res : gt_T} (C : ga_C X cX4_exchangeStrands yX4_exchangeStrands wsX4_exchangeStrands [] (gt_rm 3 63) (D, vwCl, cI, cZ) 2) (hRet : ∀ (pc : Nat) (lv : Nat → Option ga_V) (σ' : ga_S), decode cX4_exchangeStrands pc = .ok (.return_, 1) → (gt_O SX4 4 r res σ' ∧ gt_F r (r + 3) σ0 σ') → ga_G X 0 0 K pc lv [] σ') (hr0 : r ≠ 0) {T : gt_T} {σ : ga_S} {l1 : Int} {lv : Nat → Option ga_V} (hW : gt_O SX4 4 r T σ) (hF : gt_F r (r + 3) σ0 σ) (hl0 : lv 0 = some (.inr r)) (hl1 : lv 1 = some (.inl l1)) (h : fX4_exchangeStrands T l1 = some res) : ga_G X 0 0 K 0 lv [] σ := by
  unfold fX4_exchangeStrands at h
  refine ga_aload_n C dX4_exchangeStrands_0 rfl hl0 hr0 ?_
  refine ga_iload_n C dX4_exchangeStrands_1 rfl hl1 ?_
  refine ga_aload_n C dX4_exchangeStrands_2 rfl hl0 hr0 ?_
  refine ga_iload_n C dX4_exchangeStrands_3 rfl hl1 ?_
  obtain ⟨q4, hq, h⟩ := Option.bind_eq_some_iff.mp h
  refine gt_cVi (n := 1) (st := [.inl l1, .inr r]) C (eX4_upperIn X.2.1 D cI cZ K hr0 hW hq) gX4_exchangeStrands_X4_upperIn rfl (by decide +kernel) rfl ⟨Nat.le_of_ble_eq_true rfl, Nat.le_of_ble_eq_true rfl⟩ hW.1 rfl rfl (Nat.le_of_ble_eq_true rfl) rfl dX4_exchangeStrands_4 (fun σ' hp => ?_)
  subst hp
  obtain ⟨hg, h⟩ := gt_gd h
  have g8_0 := hg
  refine ga_iconst C dX4_exchangeStrands_7 ⟨by decide, by decide⟩ ?_
  refine ga_irem C dX4_exchangeStrands_8 (by decide) g8_0 ?_
  obtain ⟨q9, hq, h⟩ := Option.bind_eq_some_iff.mp h
  refine gt_cVv (n := 2) (st := []) C (eX4_beginPlacesAt X.2.1 D cI cZ K hr0 hW hq) gX4_exchangeStrands_X4_beginPlacesAt rfl (by decide +kernel) rfl ⟨Nat.le_of_ble_eq_true rfl, Nat.le_of_ble_eq_true rfl⟩ hW.1 rfl rfl (Nat.le_of_ble_eq_true rfl) rfl dX4_exchangeStrands_9 (fun σ' hp => ?_)
  obtain ⟨hw, hf⟩ := hp
  have hF := hF.tr hf (Nat.le_refl _) (Nat.le_refl _)
  have hW := hw
  clear hf
  refine ga_aload_n C dX4_exchangeStrands_12 rfl hl0 hr0 ?_
  refine ga_iload_n C dX4_exchangeStrands_13 rfl hl1 ?_
  obtain ⟨q14, hq, h⟩ := Option.bind_eq_some_iff.mp h
  refine gt_cVv (n := 1) (st := []) C (eX4_flipSign X.2.1 D cI cZ K hr0 hW hq) gX4_exchangeStrands_X4_flipSign rfl (by decide +kernel) rfl ⟨Nat.le_of_ble_eq_true rfl, Nat.le_of_ble_eq_true rfl⟩ hW.1 rfl rfl (Nat.le_of_ble_eq_true rfl) rfl dX4_exchangeStrands_14 (fun σ' hp => ?_)
  obtain ⟨hw, hf⟩ := hp
  have hF := hF.tr hf (Nat.le_refl _) (Nat.le_refl _)
  have hW := hw
  clear hf
  cases h
  exact hRet _ _ _ dX4_exchangeStrands_17 ⟨hW, hF⟩
set_option maxHeartbeats 4000000 in
theorem eX4_exchangeStrands (l : Launch) (D : va_G) (cI cZ : ClassId) (K : Nat) {r : Nat} (hr0 : r ≠ 0) {σ : ga_S} {T : gt_T} (hW : gt_O SX4 4 r T σ) {l1 : Int} {res : gt_T} (h : fX4_exchangeStrands T l1 = some res) : ga_Ev l (D, vwCl, cI, cZ) yX4_exchangeStrands wsX4_exchangeStrands (gt_rm 3 63) [] 0 0 K [.inr r, .inl l1] σ (fun σ' rv => (gt_O SX4 4 r res σ' ∧ gt_F r (r + 3) σ σ') ∧ rv = none) := by
  refine ga_ofV (by decide +kernel) rfl gt_hcl (Nat.le_of_ble_eq_true rfl) (fun X hX C hret => ?_)
  exact gX4_exchangeStrands_0 C (fun pc lv σ' d hp => hret pc lv σ' d ⟨hp, rfl⟩) hr0 hW gt_F.rf rfl rfl h
-- X4_exchangeAllStrands: exchangeAllStrands()V
def fX4_exchangeAllStrands_2 (k2 : gt_T × Int → Option (gt_T)) (a : gt_T × Int) : Option (gt_T) :=
  (if (a.1.1 2) ≤ a.2 then some a.1 else (fX4_exchangeStrands a.1 a.2).bind (fun (q12 : gt_T) => (if (-2147483648 ≤ a.2 + (1 : Int) ∧ a.2 + (1 : Int) < 2147483648) then k2 (q12, a.2 + (1 : Int)) else none)))
def fX4_exchangeAllStrands (T : gt_T) : Option (gt_T) :=
  gt_loop (fX4_exchangeAllStrands_2) gt_fuel (T, (0 : Int))
theorem iX4_exchangeAllStrands_X4 : ∀ w ∈ u_ws RX4 TX4 3, w ∈ wsX4_exchangeAllStrands := by decide +kernel
theorem kX4_exchangeAllStrands_18 : Cond.fieldLink yX4_exchangeAllStrands.cls 18 (TX4 2).1 (TX4 2).2.1 (TX4 2).2.2.1 ∈ wsX4_exchangeAllStrands := by decide +kernel
set_option maxHeartbeats 4000000 in
theorem gX4_exchangeAllStrands_2 {X : ga_X} {D : va_G} {cI cZ : ClassId} {K : Nat} {r : Nat} {σ0 : ga_S} {res : gt_T} (C : ga_C X cX4_exchangeAllStrands yX4_exchangeAllStrands wsX4_exchangeAllStrands [] (gt_rm 4 84) (D, vwCl, cI, cZ) 2) (hRet : ∀ (pc : Nat) (lv : Nat → Option ga_V) (σ' : ga_S), decode cX4_exchangeAllStrands pc = .ok (.return_, 1) → (gt_O SX4 4 r res σ' ∧ gt_F r (r + 3) σ0 σ') → ga_G X 0 0 K pc lv [] σ') (hr0 : r ≠ 0) : ∀ (n : Nat) (a : gt_T × Int) (σ : ga_S) (lv : Nat → Option ga_V), gt_O SX4 4 r a.1 σ → gt_F r (r + 3) σ0 σ → lv 0 = some (.inr r) → lv 1 = some (.inl a.2) → gt_loop (fX4_exchangeAllStrands_2) n a = some res → ga_G X 0 0 K 2 lv [] σ := by
  intro n
  induction n with
  | zero =>
    intro a _ lv _ _ _ _ h
    exact absurd (show (none : Option _) = some _ from h) (fun q => by cases q)
  | succ n hk2 =>
    intro a σ lv hW hF hl0 hl1 h
    have h : fX4_exchangeAllStrands_2 (gt_loop (fX4_exchangeAllStrands_2) n) a = some res := h
    revert hk2 h
    generalize gt_loop (fX4_exchangeAllStrands_2) n = k2
    intro hk2 h
    unfold fX4_exchangeAllStrands_2 at h
    refine ga_iload_n C dX4_exchangeAllStrands_2 rfl hl1 ?_
    refine ga_aload_n C dX4_exchangeAllStrands_3 rfl hl0 hr0 ?_
    refine gt_geti C (iX4_exchangeAllStrands_X4) hW 2 rfl rfl (by decide) kX4_exchangeAllStrands_18 dX4_exchangeAllStrands_4 ?_
    refine ga_icmp_ge (tgt := 21) C dX4_exchangeAllStrands_7 (by decide) (fun c1 => ?_) (fun c1 => ?_)
    · have h := gt_ip h c1
      cases h
      exact hRet _ _ _ dX4_exchangeAllStrands_21 ⟨hW, hF⟩
    · have h := gt_in h c1
      refine ga_aload_n C dX4_exchangeAllStrands_10 rfl hl0 hr0 ?_
      refine ga_iload_n C dX4_exchangeAllStrands_11 rfl hl1 ?_
      obtain ⟨q12, hq, h⟩ := Option.bind_eq_some_iff.mp h
      refine gt_cVv (n := 1) (st := []) C (eX4_exchangeStrands X.2.1 D cI cZ K hr0 hW hq) gX4_exchangeAllStrands_X4_exchangeStrands rfl (by decide +kernel) rfl ⟨Nat.le_of_ble_eq_true rfl, Nat.le_of_ble_eq_true rfl⟩ hW.1 rfl rfl (Nat.le_of_ble_eq_true rfl) rfl dX4_exchangeAllStrands_12 (fun σ' hp => ?_)
      obtain ⟨hw, hf⟩ := hp
      have hF := hF.tr hf (Nat.le_refl _) (Nat.le_refl _)
      have hW := hw
      clear hf
      obtain ⟨hg, h⟩ := gt_gd h
      have g15_0 := hg
      refine ga_iinc C dX4_exchangeAllStrands_15 hl1 g15_0 ?_
      refine ga_goto (tgt := 2) C dX4_exchangeAllStrands_18 (by decide) ?_
      exact hk2 (q12, a.2 + (1 : Int)) _ _ hW hF (gt_un (by decide) hl0) gt_us h
set_option maxHeartbeats 4000000 in
theorem gX4_exchangeAllStrands_0 {X : ga_X} {D : va_G} {cI cZ : ClassId} {K : Nat} {r : Nat} {σ0 : ga_S} {res : gt_T} (C : ga_C X cX4_exchangeAllStrands yX4_exchangeAllStrands wsX4_exchangeAllStrands [] (gt_rm 4 84) (D, vwCl, cI, cZ) 2) (hRet : ∀ (pc : Nat) (lv : Nat → Option ga_V) (σ' : ga_S), decode cX4_exchangeAllStrands pc = .ok (.return_, 1) → (gt_O SX4 4 r res σ' ∧ gt_F r (r + 3) σ0 σ') → ga_G X 0 0 K pc lv [] σ') (hr0 : r ≠ 0) {T : gt_T} {σ : ga_S} {lv : Nat → Option ga_V} (hW : gt_O SX4 4 r T σ) (hF : gt_F r (r + 3) σ0 σ) (hl0 : lv 0 = some (.inr r)) (h : fX4_exchangeAllStrands T = some res) : ga_G X 0 0 K 0 lv [] σ := by
  unfold fX4_exchangeAllStrands at h
  refine ga_iconst C dX4_exchangeAllStrands_0 ⟨by decide, by decide⟩ ?_
  refine ga_istore_n C dX4_exchangeAllStrands_1 rfl (by decide) ?_
  exact gX4_exchangeAllStrands_2 C hRet hr0 gt_fuel (T, (0 : Int)) _ _ hW hF (gt_un (by decide) hl0) gt_us h
set_option maxHeartbeats 4000000 in
theorem eX4_exchangeAllStrands (l : Launch) (D : va_G) (cI cZ : ClassId) (K : Nat) {r : Nat} (hr0 : r ≠ 0) {σ : ga_S} {T : gt_T} (hW : gt_O SX4 4 r T σ) {res : gt_T} (h : fX4_exchangeAllStrands T = some res) : ga_Ev l (D, vwCl, cI, cZ) yX4_exchangeAllStrands wsX4_exchangeAllStrands (gt_rm 4 84) [] 0 0 K [.inr r] σ (fun σ' rv => (gt_O SX4 4 r res σ' ∧ gt_F r (r + 3) σ σ') ∧ rv = none) := by
  refine ga_ofV (by decide +kernel) rfl gt_hcl (Nat.le_of_ble_eq_true rfl) (fun X hX C hret => ?_)
  exact gX4_exchangeAllStrands_0 C (fun pc lv σ' d hp => hret pc lv σ' d ⟨hp, rfl⟩) hr0 hW gt_F.rf rfl h
-- X4_joinEdges: joinEdges(II)I
def fX4_joinEdges_52 (k23 : gt_T × Int × Int × Int → Option (gt_T × Int)) (T : gt_T) (l3 l4 l5 : Int) : Option (gt_T × Int) :=
  (if (-2147483648 ≤ l5 + (1 : Int) ∧ l5 + (1 : Int) < 2147483648) then k23 (T, l3, l4, l5 + (1 : Int)) else none)
def fX4_joinEdges_23 (k23 : gt_T × Int × Int × Int → Option (gt_T × Int)) (a : gt_T × Int × Int × Int) : Option (gt_T × Int) :=
  (fX4_spots a.1).bind (fun (q26 : Int) => (if q26 ≤ a.2.2.2 then some (a.1, (0 : Int)) else (if (0 ≤ a.2.2.2 ∧ a.2.2.2 < 80) then (if (a.1.2 1 a.2.2.2.toNat) = a.2.2.1 then (if (0 ≤ a.2.2.2 ∧ a.2.2.2 < 80) then fX4_joinEdges_52 k23 (a.1.1, (va_up a.1.2 1 (va_up (a.1.2 1) a.2.2.2.toNat a.2.1))) a.2.1 a.2.2.1 a.2.2.2 else none) else fX4_joinEdges_52 k23 a.1 a.2.1 a.2.2.1 a.2.2.2) else none)))
def fX4_joinEdges (T : gt_T) (l1 l2 : Int) : Option (gt_T × Int) :=
  (if l1 = l2 then some (T, (1 : Int)) else gt_loop (fX4_joinEdges_23) gt_fuel (T, min l1 l2, max l1 l2, (0 : Int)))
theorem iX4_joinEdges_X4 : ∀ w ∈ u_ws RX4 TX4 3, w ∈ wsX4_joinEdges := by decide +kernel
theorem kX4_joinEdges_15 : Cond.fieldLink yX4_joinEdges.cls 15 (TX4 1).1 (TX4 1).2.1 (TX4 1).2.2.1 ∈ wsX4_joinEdges := by decide +kernel
set_option maxHeartbeats 4000000 in
theorem gX4_joinEdges_52 {X : ga_X} {D : va_G} {cI cZ : ClassId} {K : Nat} {r : Nat} {σ0 : ga_S} {res : gt_T × Int} {k23 : gt_T × Int × Int × Int → Option (gt_T × Int)} (C : ga_C X cX4_joinEdges yX4_joinEdges wsX4_joinEdges [] (gt_rm 1 21) (D, vwCl, cI, cZ) 6) (hRet : ∀ (pc : Nat) (lv : Nat → Option ga_V) (σ' : ga_S) (z : Int), decode cX4_joinEdges pc = .ok (.ireturn, 1) → z = res.2 → (gt_O SX4 4 r res.1 σ' ∧ gt_F r (r + 3) σ0 σ') → ga_G X 0 0 K pc lv [.inl z] σ') (hr0 : r ≠ 0) (hk23 : ∀ (a : gt_T × Int × Int × Int) (σ : ga_S) (lv : Nat → Option ga_V), gt_O SX4 4 r a.1 σ → gt_F r (r + 3) σ0 σ → lv 0 = some (.inr r) → lv 3 = some (.inl a.2.1) → lv 4 = some (.inl a.2.2.1) → lv 5 = some (.inl a.2.2.2) → k23 a = some res → ga_G X 0 0 K 23 lv [] σ) {T : gt_T} {σ : ga_S} {l3 l4 l5 : Int} {lv : Nat → Option ga_V} (hW : gt_O SX4 4 r T σ) (hF : gt_F r (r + 3) σ0 σ) (hl0 : lv 0 = some (.inr r)) (hl3 : lv 3 = some (.inl l3)) (hl4 : lv 4 = some (.inl l4)) (hl5 : lv 5 = some (.inl l5)) (h : fX4_joinEdges_52 k23 T l3 l4 l5 = some res) : ga_G X 0 0 K 52 lv [] σ := by
  unfold fX4_joinEdges_52 at h
  obtain ⟨hg, h⟩ := gt_gd h
  have g52_0 := hg
  refine ga_iinc C dX4_joinEdges_52 hl5 g52_0 ?_
  refine ga_goto (tgt := 23) C dX4_joinEdges_55 (by decide) ?_
  exact hk23 (T, l3, l4, l5 + (1 : Int)) _ _ hW hF (gt_un (by decide) hl0) (gt_un (by decide) hl3) (gt_un (by decide) hl4) gt_us h
set_option maxHeartbeats 4000000 in
theorem gX4_joinEdges_23 {X : ga_X} {D : va_G} {cI cZ : ClassId} {K : Nat} {r : Nat} {σ0 : ga_S} {res : gt_T × Int} (C : ga_C X cX4_joinEdges yX4_joinEdges wsX4_joinEdges [] (gt_rm 1 21) (D, vwCl, cI, cZ) 6) (hRet : ∀ (pc : Nat) (lv : Nat → Option ga_V) (σ' : ga_S) (z : Int), decode cX4_joinEdges pc = .ok (.ireturn, 1) → z = res.2 → (gt_O SX4 4 r res.1 σ' ∧ gt_F r (r + 3) σ0 σ') → ga_G X 0 0 K pc lv [.inl z] σ') (hr0 : r ≠ 0) : ∀ (n : Nat) (a : gt_T × Int × Int × Int) (σ : ga_S) (lv : Nat → Option ga_V), gt_O SX4 4 r a.1 σ → gt_F r (r + 3) σ0 σ → lv 0 = some (.inr r) → lv 3 = some (.inl a.2.1) → lv 4 = some (.inl a.2.2.1) → lv 5 = some (.inl a.2.2.2) → gt_loop (fX4_joinEdges_23) n a = some res → ga_G X 0 0 K 23 lv [] σ := by
  intro n
  induction n with
  | zero =>
    intro a _ lv _ _ _ _ _ _ h
    exact absurd (show (none : Option _) = some _ from h) (fun q => by cases q)
  | succ n hk23 =>
    intro a σ lv hW hF hl0 hl3 hl4 hl5 h
    have h : fX4_joinEdges_23 (gt_loop (fX4_joinEdges_23) n) a = some res := h
    revert hk23 h
    generalize gt_loop (fX4_joinEdges_23) n = k23
    intro hk23 h
    unfold fX4_joinEdges_23 at h
    refine ga_iload C dX4_joinEdges_23 hl5 ?_
    refine ga_aload_n C dX4_joinEdges_25 rfl hl0 hr0 ?_
    obtain ⟨q26, hq, h⟩ := Option.bind_eq_some_iff.mp h
    refine gt_cVi (n := 0) (st := [.inl a.2.2.2]) C (eX4_spots X.2.1 D cI cZ K hr0 hW hq) gX4_joinEdges_X4_spots rfl (by decide +kernel) rfl ⟨Nat.le_of_ble_eq_true rfl, Nat.le_of_ble_eq_true rfl⟩ hW.1 rfl rfl (Nat.le_of_ble_eq_true rfl) rfl dX4_joinEdges_26 (fun σ' hp => ?_)
    subst hp
    refine ga_icmp_ge (tgt := 58) C dX4_joinEdges_29 (by decide) (fun c1 => ?_) (fun c1 => ?_)
    · have h := gt_ip h c1
      refine ga_iconst C dX4_joinEdges_58 ⟨by decide, by decide⟩ ?_
      cases h
      exact hRet _ _ _ _ dX4_joinEdges_59 rfl ⟨hW, hF⟩
    · have h := gt_in h c1
      obtain ⟨hg, h⟩ := gt_gd h
      have g38_0 := hg
      refine ga_aload_n C dX4_joinEdges_32 rfl hl0 hr0 ?_
      refine gt_geta C (iX4_joinEdges_X4) hW 1 rfl rfl (by decide) kX4_joinEdges_15 dX4_joinEdges_33 ?_
      refine ga_iload C dX4_joinEdges_36 hl5 ?_
      refine gt_iald C hW 1 rfl g38_0.1 g38_0.2 dX4_joinEdges_38 ?_
      refine ga_iload C dX4_joinEdges_39 hl4 ?_
      refine ga_icmp_ne (tgt := 52) C dX4_joinEdges_41 (by decide) (fun c1 => ?_) (fun c1 => ?_)
      · have h := gt_in h c1
        exact gX4_joinEdges_52 C hRet hr0 hk23 hW hF hl0 hl3 hl4 hl5 h
      · have h := gt_ip h c1
        obtain ⟨hg, h⟩ := gt_gd h
        have g51_0 := hg
        refine ga_aload_n C dX4_joinEdges_44 rfl hl0 hr0 ?_
        refine gt_geta C (iX4_joinEdges_X4) hW 1 rfl rfl (by decide) kX4_joinEdges_15 dX4_joinEdges_45 ?_
        refine ga_iload C dX4_joinEdges_48 hl5 ?_
        refine ga_iload_n C dX4_joinEdges_50 rfl hl3 ?_
        refine gt_iast C okX4 hW hF ⟨Nat.le_refl _, Nat.le_refl _⟩ 1 rfl g51_0.1 g51_0.2 dX4_joinEdges_51 (fun σ hW hF hf => ?_)
        exact gX4_joinEdges_52 C hRet hr0 hk23 hW hF hl0 hl3 hl4 hl5 h
set_option maxHeartbeats 4000000 in
theorem gX4_joinEdges_0 {X : ga_X} {D : va_G} {cI cZ : ClassId} {K : Nat} {r : Nat} {σ0 : ga_S} {res : gt_T × Int} (C : ga_C X cX4_joinEdges yX4_joinEdges wsX4_joinEdges [] (gt_rm 1 21) (D, vwCl, cI, cZ) 6) (hRet : ∀ (pc : Nat) (lv : Nat → Option ga_V) (σ' : ga_S) (z : Int), decode cX4_joinEdges pc = .ok (.ireturn, 1) → z = res.2 → (gt_O SX4 4 r res.1 σ' ∧ gt_F r (r + 3) σ0 σ') → ga_G X 0 0 K pc lv [.inl z] σ') (hr0 : r ≠ 0) {T : gt_T} {σ : ga_S} {l1 l2 : Int} {lv : Nat → Option ga_V} (hW : gt_O SX4 4 r T σ) (hF : gt_F r (r + 3) σ0 σ) (hl0 : lv 0 = some (.inr r)) (hl1 : lv 1 = some (.inl l1)) (hl2 : lv 2 = some (.inl l2)) (h : fX4_joinEdges T l1 l2 = some res) : ga_G X 0 0 K 0 lv [] σ := by
  unfold fX4_joinEdges at h
  refine ga_iload_n C dX4_joinEdges_0 rfl hl1 ?_
  refine ga_iload_n C dX4_joinEdges_1 rfl hl2 ?_
  refine ga_icmp_ne (tgt := 7) C dX4_joinEdges_2 (by decide) (fun c1 => ?_) (fun c1 => ?_)
  · have h := gt_in h c1
    refine ga_iload_n C dX4_joinEdges_7 rfl hl1 ?_
    refine ga_iload_n C dX4_joinEdges_8 rfl hl2 ?_
    refine gt_mmin C (by decide +kernel) (by decide +kernel) (by decide +kernel) (by decide +kernel) ⟨Nat.le_of_ble_eq_true rfl, Nat.le_of_ble_eq_true rfl, Nat.le_of_ble_eq_true rfl, Nat.le_of_ble_eq_true rfl⟩ dX4_joinEdges_9 ?_
    refine ga_istore_n C dX4_joinEdges_12 rfl (by decide) ?_
    refine ga_iload_n C dX4_joinEdges_13 rfl (gt_un (by decide) hl1) ?_
    refine ga_iload_n C dX4_joinEdges_14 rfl (gt_un (by decide) hl2) ?_
    refine gt_mmax C (by decide +kernel) (by decide +kernel) (by decide +kernel) (by decide +kernel) ⟨Nat.le_of_ble_eq_true rfl, Nat.le_of_ble_eq_true rfl, Nat.le_of_ble_eq_true rfl, Nat.le_of_ble_eq_true rfl⟩ dX4_joinEdges_15 ?_
    refine ga_istore C dX4_joinEdges_18 (by decide) ?_
    refine ga_iconst C dX4_joinEdges_20 ⟨by decide, by decide⟩ ?_
    refine ga_istore C dX4_joinEdges_21 (by decide) ?_
    exact gX4_joinEdges_23 C hRet hr0 gt_fuel (T, min l1 l2, max l1 l2, (0 : Int)) _ _ hW hF (gt_un (by decide) (gt_un (by decide) (gt_un (by decide) hl0))) (gt_un (by decide) (gt_un (by decide) gt_us)) (gt_un (by decide) gt_us) gt_us h
  · have h := gt_ip h c1
    refine ga_iconst C dX4_joinEdges_5 ⟨by decide, by decide⟩ ?_
    cases h
    exact hRet _ _ _ _ dX4_joinEdges_6 rfl ⟨hW, hF⟩
set_option maxHeartbeats 4000000 in
theorem eX4_joinEdges (l : Launch) (D : va_G) (cI cZ : ClassId) (K : Nat) {r : Nat} (hr0 : r ≠ 0) {σ : ga_S} {T : gt_T} (hW : gt_O SX4 4 r T σ) {l1 l2 : Int} {res : gt_T × Int} (h : fX4_joinEdges T l1 l2 = some res) : ga_Ev l (D, vwCl, cI, cZ) yX4_joinEdges wsX4_joinEdges (gt_rm 1 21) [] 0 0 K [.inr r, .inl l1, .inl l2] σ (fun σ' rv => (gt_O SX4 4 r res.1 σ' ∧ gt_F r (r + 3) σ σ') ∧ rv = some (.inl res.2)) := by
  refine ga_ofI (by decide +kernel) rfl gt_hcl (Nat.le_of_ble_eq_true rfl) (fun X hX C hret => ?_)
  exact gX4_joinEdges_0 C (fun pc lv σ' z d hz hp => hret pc lv σ' z d ⟨hp, by rw [hz]⟩) hr0 hW gt_F.rf rfl rfl rfl h
-- X4_dropCrossing: dropCrossing(I)V
def fX4_dropCrossing_38 (k38 : gt_T × Int → Option (gt_T)) (a : gt_T × Int) : Option (gt_T) :=
  (fX4_spots a.1).bind (fun (q40 : Int) => (if q40 ≤ a.2 then (if (-2147483648 ≤ (a.1.1 2) - (1 : Int) ∧ (a.1.1 2) - (1 : Int) < 2147483648) then some ((va_up a.1.1 2 ((a.1.1 2) - (1 : Int))), a.1.2) else none) else (if (-2147483648 ≤ a.2 - (4 : Int) ∧ a.2 - (4 : Int) < 2147483648) ∧ (0 ≤ a.2 ∧ a.2 < 80) ∧ (0 ≤ (a.2 - (4 : Int)) ∧ (a.2 - (4 : Int)) < 80) ∧ (-2147483648 ≤ a.2 + (1 : Int) ∧ a.2 + (1 : Int) < 2147483648) then k38 ((a.1.1, (va_up a.1.2 1 (va_up (a.1.2 1) (a.2 - (4 : Int)).toNat (a.1.2 1 a.2.toNat)))), a.2 + (1 : Int)) else none)))
def fX4_dropCrossing_4 (k4 : gt_T × Int × Int → Option (gt_T)) (a : gt_T × Int × Int) : Option (gt_T) :=
  (if (a.1.1 2) ≤ a.2.2 then (if (-2147483648 ≤ (4 : Int) * a.2.1 ∧ (4 : Int) * a.2.1 < 2147483648) ∧ (-2147483648 ≤ ((4 : Int) * a.2.1) + (4 : Int) ∧ ((4 : Int) * a.2.1) + (4 : Int) < 2147483648) then gt_loop (fX4_dropCrossing_38) gt_fuel (a.1, ((4 : Int) * a.2.1) + (4 : Int)) else none) else (if (-2147483648 ≤ a.2.2 - (1 : Int) ∧ a.2.2 - (1 : Int) < 2147483648) ∧ (0 ≤ a.2.2 ∧ a.2.2 < 20) ∧ (0 ≤ (a.2.2 - (1 : Int)) ∧ (a.2.2 - (1 : Int)) < 20) ∧ (-2147483648 ≤ a.2.2 + (1 : Int) ∧ a.2.2 + (1 : Int) < 2147483648) then k4 ((a.1.1, (va_up a.1.2 0 (va_up (a.1.2 0) (a.2.2 - (1 : Int)).toNat (a.1.2 0 a.2.2.toNat)))), a.2.1, a.2.2 + (1 : Int)) else none))
def fX4_dropCrossing (T : gt_T) (l1 : Int) : Option (gt_T) :=
  (if (-2147483648 ≤ l1 + (1 : Int) ∧ l1 + (1 : Int) < 2147483648) then gt_loop (fX4_dropCrossing_4) gt_fuel (T, l1, l1 + (1 : Int)) else none)
theorem iX4_dropCrossing_X4 : ∀ w ∈ u_ws RX4 TX4 3, w ∈ wsX4_dropCrossing := by decide +kernel
theorem kX4_dropCrossing_9 : Cond.fieldLink yX4_dropCrossing.cls 9 (TX4 0).1 (TX4 0).2.1 (TX4 0).2.2.1 ∈ wsX4_dropCrossing := by decide +kernel
theorem kX4_dropCrossing_15 : Cond.fieldLink yX4_dropCrossing.cls 15 (TX4 1).1 (TX4 1).2.1 (TX4 1).2.2.1 ∈ wsX4_dropCrossing := by decide +kernel
theorem kX4_dropCrossing_18 : Cond.fieldLink yX4_dropCrossing.cls 18 (TX4 2).1 (TX4 2).2.1 (TX4 2).2.2.1 ∈ wsX4_dropCrossing := by decide +kernel
set_option maxHeartbeats 4000000 in
theorem gX4_dropCrossing_38 {X : ga_X} {D : va_G} {cI cZ : ClassId} {K : Nat} {r : Nat} {σ0 : ga_S} {res : gt_T} (C : ga_C X cX4_dropCrossing yX4_dropCrossing wsX4_dropCrossing [] (gt_rm 1 20) (D, vwCl, cI, cZ) 3) (hRet : ∀ (pc : Nat) (lv : Nat → Option ga_V) (σ' : ga_S), decode cX4_dropCrossing pc = .ok (.return_, 1) → (gt_O SX4 4 r res σ' ∧ gt_F r (r + 3) σ0 σ') → ga_G X 0 0 K pc lv [] σ') (hr0 : r ≠ 0) : ∀ (n : Nat) (a : gt_T × Int) (σ : ga_S) (lv : Nat → Option ga_V), gt_O SX4 4 r a.1 σ → gt_F r (r + 3) σ0 σ → lv 0 = some (.inr r) → lv 2 = some (.inl a.2) → gt_loop (fX4_dropCrossing_38) n a = some res → ga_G X 0 0 K 38 lv [] σ := by
  intro n
  induction n with
  | zero =>
    intro a _ lv _ _ _ _ h
    exact absurd (show (none : Option _) = some _ from h) (fun q => by cases q)
  | succ n hk38 =>
    intro a σ lv hW hF hl0 hl2 h
    have h : fX4_dropCrossing_38 (gt_loop (fX4_dropCrossing_38) n) a = some res := h
    revert hk38 h
    generalize gt_loop (fX4_dropCrossing_38) n = k38
    intro hk38 h
    unfold fX4_dropCrossing_38 at h
    refine ga_iload_n C dX4_dropCrossing_38 rfl hl2 ?_
    refine ga_aload_n C dX4_dropCrossing_39 rfl hl0 hr0 ?_
    obtain ⟨q40, hq, h⟩ := Option.bind_eq_some_iff.mp h
    refine gt_cVi (n := 0) (st := [.inl a.2]) C (eX4_spots X.2.1 D cI cZ K hr0 hW hq) gX4_dropCrossing_X4_spots rfl (by decide +kernel) rfl ⟨Nat.le_of_ble_eq_true rfl, Nat.le_of_ble_eq_true rfl⟩ hW.1 rfl rfl (Nat.le_of_ble_eq_true rfl) rfl dX4_dropCrossing_40 (fun σ' hp => ?_)
    subst hp
    refine ga_icmp_ge (tgt := 66) C dX4_dropCrossing_43 (by decide) (fun c1 => ?_) (fun c1 => ?_)
    · have h := gt_ip h c1
      obtain ⟨hg, h⟩ := gt_gd h
      have g72_0 := hg
      refine ga_aload_n C dX4_dropCrossing_66 rfl hl0 hr0 ?_
      refine ga_dup C dX4_dropCrossing_67 ?_
      refine gt_geti C (iX4_dropCrossing_X4) hW 2 rfl rfl (by decide) kX4_dropCrossing_18 dX4_dropCrossing_68 ?_
      refine ga_iconst C dX4_dropCrossing_71 ⟨by decide, by decide⟩ ?_
      refine ga_isub C dX4_dropCrossing_72 g72_0 ?_
      refine gt_puti C okX4 (by decide) (iX4_dropCrossing_X4) tyX4 tyX4_ok nmX4 hW hF ⟨Nat.le_refl _, Nat.le_refl _⟩ 2 rfl rfl (by decide) kX4_dropCrossing_18 rfl (by decide +kernel) dX4_dropCrossing_73 (fun σ hW hF hf => ?_)
      cases h
      exact hRet _ _ _ dX4_dropCrossing_76 ⟨hW, hF⟩
    · have h := gt_in h c1
      obtain ⟨hg, h⟩ := gt_gd h
      obtain ⟨g52_0, g58_1, g59_2, g60_3⟩ := hg
      refine ga_aload_n C dX4_dropCrossing_46 rfl hl0 hr0 ?_
      refine gt_geta C (iX4_dropCrossing_X4) hW 1 rfl rfl (by decide) kX4_dropCrossing_15 dX4_dropCrossing_47 ?_
      refine ga_iload_n C dX4_dropCrossing_50 rfl hl2 ?_
      refine ga_iconst C dX4_dropCrossing_51 ⟨by decide, by decide⟩ ?_
      refine ga_isub C dX4_dropCrossing_52 g52_0 ?_
      refine ga_aload_n C dX4_dropCrossing_53 rfl hl0 hr0 ?_
      refine gt_geta C (iX4_dropCrossing_X4) hW 1 rfl rfl (by decide) kX4_dropCrossing_15 dX4_dropCrossing_54 ?_
      refine ga_iload_n C dX4_dropCrossing_57 rfl hl2 ?_
      refine gt_iald C hW 1 rfl g58_1.1 g58_1.2 dX4_dropCrossing_58 ?_
      refine gt_iast C okX4 hW hF ⟨Nat.le_refl _, Nat.le_refl _⟩ 1 rfl g59_2.1 g59_2.2 dX4_dropCrossing_59 (fun σ hW hF hf => ?_)
      refine ga_iinc C dX4_dropCrossing_60 hl2 g60_3 ?_
      refine ga_goto (tgt := 38) C dX4_dropCrossing_63 (by decide) ?_
      exact hk38 ((a.1.1, (va_up a.1.2 1 (va_up (a.1.2 1) (a.2 - (4 : Int)).toNat (a.1.2 1 a.2.toNat)))), a.2 + (1 : Int)) _ _ hW hF (gt_un (by decide) hl0) gt_us h
set_option maxHeartbeats 4000000 in
theorem gX4_dropCrossing_4 {X : ga_X} {D : va_G} {cI cZ : ClassId} {K : Nat} {r : Nat} {σ0 : ga_S} {res : gt_T} (C : ga_C X cX4_dropCrossing yX4_dropCrossing wsX4_dropCrossing [] (gt_rm 1 20) (D, vwCl, cI, cZ) 3) (hRet : ∀ (pc : Nat) (lv : Nat → Option ga_V) (σ' : ga_S), decode cX4_dropCrossing pc = .ok (.return_, 1) → (gt_O SX4 4 r res σ' ∧ gt_F r (r + 3) σ0 σ') → ga_G X 0 0 K pc lv [] σ') (hr0 : r ≠ 0) : ∀ (n : Nat) (a : gt_T × Int × Int) (σ : ga_S) (lv : Nat → Option ga_V), gt_O SX4 4 r a.1 σ → gt_F r (r + 3) σ0 σ → lv 0 = some (.inr r) → lv 1 = some (.inl a.2.1) → lv 2 = some (.inl a.2.2) → gt_loop (fX4_dropCrossing_4) n a = some res → ga_G X 0 0 K 4 lv [] σ := by
  intro n
  induction n with
  | zero =>
    intro a _ lv _ _ _ _ _ h
    exact absurd (show (none : Option _) = some _ from h) (fun q => by cases q)
  | succ n hk4 =>
    intro a σ lv hW hF hl0 hl1 hl2 h
    have h : fX4_dropCrossing_4 (gt_loop (fX4_dropCrossing_4) n) a = some res := h
    revert hk4 h
    generalize gt_loop (fX4_dropCrossing_4) n = k4
    intro hk4 h
    unfold fX4_dropCrossing_4 at h
    refine ga_iload_n C dX4_dropCrossing_4 rfl hl2 ?_
    refine ga_aload_n C dX4_dropCrossing_5 rfl hl0 hr0 ?_
    refine gt_geti C (iX4_dropCrossing_X4) hW 2 rfl rfl (by decide) kX4_dropCrossing_18 dX4_dropCrossing_6 ?_
    refine ga_icmp_ge (tgt := 32) C dX4_dropCrossing_9 (by decide) (fun c1 => ?_) (fun c1 => ?_)
    · have h := gt_ip h c1
      obtain ⟨hg, h⟩ := gt_gd h
      obtain ⟨g34_0, g36_1⟩ := hg
      refine ga_iconst C dX4_dropCrossing_32 ⟨by decide, by decide⟩ ?_
      refine ga_iload_n C dX4_dropCrossing_33 rfl hl1 ?_
      refine ga_imul C dX4_dropCrossing_34 g34_0 ?_
      refine ga_iconst C dX4_dropCrossing_35 ⟨by decide, by decide⟩ ?_
      refine ga_iadd C dX4_dropCrossing_36 g36_1 ?_
      refine ga_istore_n C dX4_dropCrossing_37 rfl (by decide) ?_
      exact gX4_dropCrossing_38 C hRet hr0 gt_fuel (a.1, ((4 : Int) * a.2.1) + (4 : Int)) _ _ hW hF (gt_un (by decide) hl0) gt_us h
    · have h := gt_in h c1
      obtain ⟨hg, h⟩ := gt_gd h
      obtain ⟨g18_0, g24_1, g25_2, g26_3⟩ := hg
      refine ga_aload_n C dX4_dropCrossing_12 rfl hl0 hr0 ?_
      refine gt_geta C (iX4_dropCrossing_X4) hW 0 rfl rfl (by decide) kX4_dropCrossing_9 dX4_dropCrossing_13 ?_
      refine ga_iload_n C dX4_dropCrossing_16 rfl hl2 ?_
      refine ga_iconst C dX4_dropCrossing_17 ⟨by decide, by decide⟩ ?_
      refine ga_isub C dX4_dropCrossing_18 g18_0 ?_
      refine ga_aload_n C dX4_dropCrossing_19 rfl hl0 hr0 ?_
      refine gt_geta C (iX4_dropCrossing_X4) hW 0 rfl rfl (by decide) kX4_dropCrossing_9 dX4_dropCrossing_20 ?_
      refine ga_iload_n C dX4_dropCrossing_23 rfl hl2 ?_
      refine gt_iald C hW 0 rfl g24_1.1 g24_1.2 dX4_dropCrossing_24 ?_
      refine gt_iast C okX4 hW hF ⟨Nat.le_refl _, Nat.le_refl _⟩ 0 rfl g25_2.1 g25_2.2 dX4_dropCrossing_25 (fun σ hW hF hf => ?_)
      refine ga_iinc C dX4_dropCrossing_26 hl2 g26_3 ?_
      refine ga_goto (tgt := 4) C dX4_dropCrossing_29 (by decide) ?_
      exact hk4 ((a.1.1, (va_up a.1.2 0 (va_up (a.1.2 0) (a.2.2 - (1 : Int)).toNat (a.1.2 0 a.2.2.toNat)))), a.2.1, a.2.2 + (1 : Int)) _ _ hW hF (gt_un (by decide) hl0) (gt_un (by decide) hl1) gt_us h
set_option maxHeartbeats 4000000 in
theorem gX4_dropCrossing_0 {X : ga_X} {D : va_G} {cI cZ : ClassId} {K : Nat} {r : Nat} {σ0 : ga_S} {res : gt_T} (C : ga_C X cX4_dropCrossing yX4_dropCrossing wsX4_dropCrossing [] (gt_rm 1 20) (D, vwCl, cI, cZ) 3) (hRet : ∀ (pc : Nat) (lv : Nat → Option ga_V) (σ' : ga_S), decode cX4_dropCrossing pc = .ok (.return_, 1) → (gt_O SX4 4 r res σ' ∧ gt_F r (r + 3) σ0 σ') → ga_G X 0 0 K pc lv [] σ') (hr0 : r ≠ 0) {T : gt_T} {σ : ga_S} {l1 : Int} {lv : Nat → Option ga_V} (hW : gt_O SX4 4 r T σ) (hF : gt_F r (r + 3) σ0 σ) (hl0 : lv 0 = some (.inr r)) (hl1 : lv 1 = some (.inl l1)) (h : fX4_dropCrossing T l1 = some res) : ga_G X 0 0 K 0 lv [] σ := by
  unfold fX4_dropCrossing at h
  obtain ⟨hg, h⟩ := gt_gd h
  have g2_0 := hg
  refine ga_iload_n C dX4_dropCrossing_0 rfl hl1 ?_
  refine ga_iconst C dX4_dropCrossing_1 ⟨by decide, by decide⟩ ?_
  refine ga_iadd C dX4_dropCrossing_2 g2_0 ?_
  refine ga_istore_n C dX4_dropCrossing_3 rfl (by decide) ?_
  exact gX4_dropCrossing_4 C hRet hr0 gt_fuel (T, l1, l1 + (1 : Int)) _ _ hW hF (gt_un (by decide) hl0) (gt_un (by decide) hl1) gt_us h
set_option maxHeartbeats 4000000 in
theorem eX4_dropCrossing (l : Launch) (D : va_G) (cI cZ : ClassId) (K : Nat) {r : Nat} (hr0 : r ≠ 0) {σ : ga_S} {T : gt_T} (hW : gt_O SX4 4 r T σ) {l1 : Int} {res : gt_T} (h : fX4_dropCrossing T l1 = some res) : ga_Ev l (D, vwCl, cI, cZ) yX4_dropCrossing wsX4_dropCrossing (gt_rm 1 20) [] 0 0 K [.inr r, .inl l1] σ (fun σ' rv => (gt_O SX4 4 r res σ' ∧ gt_F r (r + 3) σ σ') ∧ rv = none) := by
  refine ga_ofV (by decide +kernel) rfl gt_hcl (Nat.le_of_ble_eq_true rfl) (fun X hX C hret => ?_)
  exact gX4_dropCrossing_0 C (fun pc lv σ' d hp => hret pc lv σ' d ⟨hp, rfl⟩) hr0 hW gt_F.rf rfl rfl h
