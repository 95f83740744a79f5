-- X3_begin: begin(I)V
def fX3_begin (T : gt_T) (l1 : Int) : Option (gt_T) :=
  some ((va_up (va_up T.1 4 (min l1 (80 : Int))) 5 (0 : Int)), T.2)
theorem iX3_begin_X3 : ∀ w ∈ u_ws RX3 TX3 6, w ∈ wsX3_begin := by decide +kernel
theorem kX3_begin_24 : Cond.fieldLink yX3_begin.cls 24 (TX3 4).1 (TX3 4).2.1 (TX3 4).2.2.1 ∈ wsX3_begin := by decide +kernel
theorem kX3_begin_28 : Cond.fieldLink yX3_begin.cls 28 (TX3 5).1 (TX3 5).2.1 (TX3 5).2.2.1 ∈ wsX3_begin := by decide +kernel
set_option maxHeartbeats 4000000 in
theorem gX3_begin_0 {X : ga_X} {D : va_G} {cI cZ : ClassId} {K : Nat} {r : Nat} {σ0 : ga_S} {res : gt_T} (C : ga_C X cX3_begin yX3_begin wsX3_begin [] (gt_rm 1 21) (D, vwCl, cI, cZ) 2) (hRet : ∀ (pc : Nat) (lv : Nat → Option ga_V) (σ' : ga_S), decode cX3_begin pc = .ok (.return_, 1) → (gt_O SX3 3 r res σ' ∧ gt_F r (r + 5) σ0 σ') → ga_G X 0 0 K pc lv [] σ') (hr0 : r ≠ 0) {T : gt_T} {σ : ga_S} {l1 : Int} {lv : Nat → Option ga_V} (hW : gt_O SX3 3 r T σ) (hF : gt_F r (r + 5) σ0 σ) (hl0 : lv 0 = some (.inr r)) (hl1 : lv 1 = some (.inl l1)) (h : fX3_begin T l1 = some res) : ga_G X 0 0 K 0 lv [] σ := by
  unfold fX3_begin at h
  refine ga_aload_n C dX3_begin_0 rfl hl0 hr0 ?_
  refine ga_iload_n C dX3_begin_1 rfl hl1 ?_
  refine ga_bipush C dX3_begin_2 ⟨by decide, by decide⟩ (by decide) ?_
  refine gt_mmin C (by decide +kernel) (by decide +kernel) (by decide +kernel) (by decide +kernel) ⟨Nat.le_of_ble_eq_true rfl, Nat.le_of_ble_eq_true rfl, Nat.le_of_ble_eq_true rfl, Nat.le_of_ble_eq_true rfl⟩ dX3_begin_4 ?_
  refine gt_puti C okX3 (by decide) (iX3_begin_X3) tyX3 tyX3_ok nmX3 hW hF ⟨Nat.le_refl _, Nat.le_refl _⟩ 4 rfl rfl (by decide) kX3_begin_24 rfl (by decide +kernel) dX3_begin_7 (fun σ hW hF hf => ?_)
  refine ga_aload_n C dX3_begin_10 rfl hl0 hr0 ?_
  refine ga_iconst C dX3_begin_11 ⟨by decide, by decide⟩ ?_
  refine gt_puti C okX3 (by decide) (iX3_begin_X3) tyX3 tyX3_ok nmX3 hW hF ⟨Nat.le_refl _, Nat.le_refl _⟩ 5 rfl rfl (by decide) kX3_begin_28 rfl (by decide +kernel) dX3_begin_12 (fun σ hW hF hf => ?_)
  cases h
  exact hRet _ _ _ dX3_begin_15 ⟨hW, hF⟩
set_option maxHeartbeats 4000000 in
theorem eX3_begin (l : Launch) (D : va_G) (cI cZ : ClassId) (K : Nat) {r : Nat} (hr0 : r ≠ 0) {σ : ga_S} {T : gt_T} (hW : gt_O SX3 3 r T σ) {l1 : Int} {res : gt_T} (h : fX3_begin T l1 = some res) : ga_Ev l (D, vwCl, cI, cZ) yX3_begin wsX3_begin (gt_rm 1 21) [] 0 0 K [.inr r, .inl l1] σ (fun σ' rv => (gt_O SX3 3 r res σ' ∧ gt_F r (r + 5) σ σ') ∧ rv = none) := by
  refine ga_ofV (by decide +kernel) rfl gt_hcl (Nat.le_of_ble_eq_true rfl) (fun X hX C hret => ?_)
  exact gX3_begin_0 C (fun pc lv σ' d hp => hret pc lv σ' d ⟨hp, rfl⟩) hr0 hW gt_F.rf rfl rfl h
-- X3_hasMember: hasMember(I)Z
def fX3_hasMember_17 (T : gt_T) (s0 : Int) : Option (Int) :=
  (if (s0 = 0 ∨ s0 = 1) then some s0 else none)
def fX3_hasMember_16 (T : gt_T) : Option (Int) :=
  fX3_hasMember_17 T (0 : Int)
def fX3_hasMember (T : gt_T) (l1 : Int) : Option (Int) :=
  (if l1 < 0 then fX3_hasMember_16 T else (if (T.1 4) ≤ l1 then fX3_hasMember_16 T else fX3_hasMember_17 T (1 : Int)))
theorem iX3_hasMember_X3 : ∀ w ∈ u_ws RX3 TX3 6, w ∈ wsX3_hasMember := by decide +kernel
theorem kX3_hasMember_24 : Cond.fieldLink yX3_hasMember.cls 24 (TX3 4).1 (TX3 4).2.1 (TX3 4).2.2.1 ∈ wsX3_hasMember := by decide +kernel
set_option maxHeartbeats 4000000 in
theorem gX3_hasMember_17 {X : ga_X} {D : va_G} {cI cZ : ClassId} {K : Nat} {r : Nat} {res : Int} {T : gt_T} {σ : ga_S} (C : ga_C X cX3_hasMember yX3_hasMember wsX3_hasMember [] (gt_rm 0 0) (D, vwCl, cI, cZ) 2) (hRet : ∀ (pc : Nat) (lv : Nat → Option ga_V) (σ' : ga_S) (z : Int), decode cX3_hasMember pc = .ok (.ireturn, 1) → (z = 0 ∨ z = 1) → z = res → (σ' = σ) → ga_G X 0 0 K pc lv [.inl z] σ') (hr0 : r ≠ 0) {s0 : Int} {lv : Nat → Option ga_V} (hW : gt_O SX3 3 r T σ) (h : fX3_hasMember_17 T s0 = some res) : ga_G X 0 0 K 17 lv [.inl s0] σ := by
  unfold fX3_hasMember_17 at h
  obtain ⟨hg, h⟩ := gt_gd h
  have g17_0 := hg
  cases h
  exact hRet _ _ _ _ dX3_hasMember_17 g17_0 rfl rfl
set_option maxHeartbeats 4000000 in
theorem gX3_hasMember_16 {X : ga_X} {D : va_G} {cI cZ : ClassId} {K : Nat} {r : Nat} {res : Int} {T : gt_T} {σ : ga_S} (C : ga_C X cX3_hasMember yX3_hasMember wsX3_hasMember [] (gt_rm 0 0) (D, vwCl, cI, cZ) 2) (hRet : ∀ (pc : Nat) (lv : Nat → Option ga_V) (σ' : ga_S) (z : Int), decode cX3_hasMember pc = .ok (.ireturn, 1) → (z = 0 ∨ z = 1) → z = res → (σ' = σ) → ga_G X 0 0 K pc lv [.inl z] σ') (hr0 : r ≠ 0) {lv : Nat → Option ga_V} (hW : gt_O SX3 3 r T σ) (h : fX3_hasMember_16 T = some res) : ga_G X 0 0 K 16 lv [] σ := by
  unfold fX3_hasMember_16 at h
  refine ga_iconst C dX3_hasMember_16 ⟨by decide, by decide⟩ ?_
  exact gX3_hasMember_17 C hRet hr0 hW h
set_option maxHeartbeats 4000000 in
theorem gX3_hasMember_0 {X : ga_X} {D : va_G} {cI cZ : ClassId} {K : Nat} {r : Nat} {res : Int} {T : gt_T} {σ : ga_S} (C : ga_C X cX3_hasMember yX3_hasMember wsX3_hasMember [] (gt_rm 0 0) (D, vwCl, cI, cZ) 2) (hRet : ∀ (pc : Nat) (lv : Nat → Option ga_V) (σ' : ga_S) (z : Int), decode cX3_hasMember pc = .ok (.ireturn, 1) → (z = 0 ∨ z = 1) → z = res → (σ' = σ) → ga_G X 0 0 K pc lv [.inl z] σ') (hr0 : r ≠ 0) {l1 : Int} {lv : Nat → Option ga_V} (hW : gt_O SX3 3 r T σ) (hl0 : lv 0 = some (.inr r)) (hl1 : lv 1 = some (.inl l1)) (h : fX3_hasMember T l1 = some res) : ga_G X 0 0 K 0 lv [] σ := by
  unfold fX3_hasMember at h
  refine ga_iload_n C dX3_hasMember_0 rfl hl1 ?_
  refine ga_if_lt (tgt := 16) C dX3_hasMember_1 (by decide) (fun c1 => ?_) (fun c1 => ?_)
  · have h := gt_ip h c1
    exact gX3_hasMember_16 C hRet hr0 hW h
  · have h := gt_in h c1
    refine ga_iload_n C dX3_hasMember_4 rfl hl1 ?_
    refine ga_aload_n C dX3_hasMember_5 rfl hl0 hr0 ?_
    refine gt_geti C (iX3_hasMember_X3) hW 4 rfl rfl (by decide) kX3_hasMember_24 dX3_hasMember_6 ?_
    refine ga_icmp_ge (tgt := 16) C dX3_hasMember_9 (by decide) (fun c1 => ?_) (fun c1 => ?_)
    · have h := gt_ip h c1
      exact gX3_hasMember_16 C hRet hr0 hW h
    · have h := gt_in h c1
      refine ga_iconst C dX3_hasMember_12 ⟨by decide, by decide⟩ ?_
      refine ga_goto (tgt := 17) C dX3_hasMember_13 (by decide) ?_
      exact gX3_hasMember_17 C hRet hr0 hW h
set_option maxHeartbeats 4000000 in
theorem eX3_hasMember (l : Launch) (D : va_G) (cI cZ : ClassId) (K : Nat) {r : Nat} (hr0 : r ≠ 0) {σ : ga_S} {T : gt_T} (hW : gt_O SX3 3 r T σ) {l1 : Int} {res : Int} (h : fX3_hasMember T l1 = some res) : ga_Ev l (D, vwCl, cI, cZ) yX3_hasMember wsX3_hasMember (gt_rm 0 0) [] 0 0 K [.inr r, .inl l1] σ (fun σ' rv => (σ' = σ) ∧ rv = some (.inl res)) := by
  refine ga_ofZ (by decide +kernel) rfl gt_hcl (Nat.le_of_ble_eq_true rfl) (fun X hX C hret => ?_)
  exact gX3_hasMember_0 C (fun pc lv σ' z d h01 hz hp => hret pc lv σ' z d h01 ⟨hp, by rw [hz]⟩) hr0 hW rfl rfl h
-- X3_link: link(II)V
def fX3_link_15 (T : gt_T) : Option (gt_T) :=
  some T
def fX3_link (T : gt_T) (l1 l2 : Int) : Option (gt_T) :=
  (fX3_hasMember T l1).bind (fun (q2 : Int) => (if q2 = 0 then fX3_link_15 T else (if (0 ≤ l1 ∧ l1 < 80) then fX3_link_15 (T.1, (va_up T.2 0 (va_up (T.2 0) l1.toNat l2))) else none)))
theorem iX3_link_X3 : ∀ w ∈ u_ws RX3 TX3 6, w ∈ wsX3_link := by decide +kernel
theorem kX3_link_9 : Cond.fieldLink yX3_link.cls 9 (TX3 0).1 (TX3 0).2.1 (TX3 0).2.2.1 ∈ wsX3_link := by decide +kernel
set_option maxHeartbeats 4000000 in
theorem gX3_link_15 {X : ga_X} {D : va_G} {cI cZ : ClassId} {K : Nat} {r : Nat} {σ0 : ga_S} {res : gt_T} (C : ga_C X cX3_link yX3_link wsX3_link [] (gt_rm 1 21) (D, vwCl, cI, cZ) 3) (hRet : ∀ (pc : Nat) (lv : Nat → Option ga_V) (σ' : ga_S), decode cX3_link pc = .ok (.return_, 1) → (gt_O SX3 3 r res σ' ∧ gt_F r (r + 5) σ0 σ') → ga_G X 0 0 K pc lv [] σ') (hr0 : r ≠ 0) {T : gt_T} {σ : ga_S} {lv : Nat → Option ga_V} (hW : gt_O SX3 3 r T σ) (hF : gt_F r (r + 5) σ0 σ) (h : fX3_link_15 T = some res) : ga_G X 0 0 K 15 lv [] σ := by
  unfold fX3_link_15 at h
  cases h
  exact hRet _ _ _ dX3_link_15 ⟨hW, hF⟩
set_option maxHeartbeats 4000000 in
theorem gX3_link_0 {X : ga_X} {D : va_G} {cI cZ : ClassId} {K : Nat} {r : Nat} {σ0 : ga_S} {res : gt_T} (C : ga_C X cX3_link yX3_link wsX3_link [] (gt_rm 1 21) (D, vwCl, cI, cZ) 3) (hRet : ∀ (pc : Nat) (lv : Nat → Option ga_V) (σ' : ga_S), decode cX3_link pc = .ok (.return_, 1) → (gt_O SX3 3 r res σ' ∧ gt_F r (r + 5) σ0 σ') → ga_G X 0 0 K pc lv [] σ') (hr0 : r ≠ 0) {T : gt_T} {σ : ga_S} {l1 l2 : Int} {lv : Nat → Option ga_V} (hW : gt_O SX3 3 r T σ) (hF : gt_F r (r + 5) σ0 σ) (hl0 : lv 0 = some (.inr r)) (hl1 : lv 1 = some (.inl l1)) (hl2 : lv 2 = some (.inl l2)) (h : fX3_link T l1 l2 = some res) : ga_G X 0 0 K 0 lv [] σ := by
  unfold fX3_link at h
  refine ga_aload_n C dX3_link_0 rfl hl0 hr0 ?_
  refine ga_iload_n C dX3_link_1 rfl hl1 ?_
  obtain ⟨q2, hq, h⟩ := Option.bind_eq_some_iff.mp h
  refine gt_cVi (n := 1) (st := []) C (eX3_hasMember X.2.1 D cI cZ K hr0 hW hq) gX3_link_X3_hasMember rfl (by decide +kernel) rfl ⟨Nat.le_of_ble_eq_true rfl, Nat.le_of_ble_eq_true rfl⟩ hW.1 rfl rfl (Nat.le_of_ble_eq_true rfl) rfl dX3_link_2 (fun σ' hp => ?_)
  subst hp
  refine ga_if_eq (tgt := 15) C dX3_link_5 (by decide) (fun c1 => ?_) (fun c1 => ?_)
  · have h := gt_ip h c1
    exact gX3_link_15 C hRet hr0 hW hF h
  · have h := gt_in h c1
    obtain ⟨hg, h⟩ := gt_gd h
    have g14_0 := hg
    refine ga_aload_n C dX3_link_8 rfl hl0 hr0 ?_
    refine gt_geta C (iX3_link_X3) hW 0 rfl rfl (by decide) kX3_link_9 dX3_link_9 ?_
    refine ga_iload_n C dX3_link_12 rfl hl1 ?_
    refine ga_iload_n C dX3_link_13 rfl hl2 ?_
    refine gt_iast C okX3 hW hF ⟨Nat.le_refl _, Nat.le_refl _⟩ 0 rfl g14_0.1 g14_0.2 dX3_link_14 (fun σ hW hF hf => ?_)
    exact gX3_link_15 C hRet hr0 hW hF h
set_option maxHeartbeats 4000000 in
theorem eX3_link (l : Launch) (D : va_G) (cI cZ : ClassId) (K : Nat) {r : Nat} (hr0 : r ≠ 0) {σ : ga_S} {T : gt_T} (hW : gt_O SX3 3 r T σ) {l1 l2 : Int} {res : gt_T} (h : fX3_link T l1 l2 = some res) : ga_Ev l (D, vwCl, cI, cZ) yX3_link wsX3_link (gt_rm 1 21) [] 0 0 K [.inr r, .inl l1, .inl l2] σ (fun σ' rv => (gt_O SX3 3 r res σ' ∧ gt_F r (r + 5) σ σ') ∧ rv = none) := by
  refine ga_ofV (by decide +kernel) rfl gt_hcl (Nat.le_of_ble_eq_true rfl) (fun X hX C hret => ?_)
  exact gX3_link_0 C (fun pc lv σ' d hp => hret pc lv σ' d ⟨hp, rfl⟩) hr0 hW gt_F.rf rfl rfl rfl h
-- X3_walk: walk(I)V
def fX3_walk_62 (T : gt_T) (l1 l2 : Int) : Option (gt_T) :=
  (if (0 ≤ (T.1 5) ∧ (T.1 5) < 80) ∧ (-2147483648 ≤ (T.1 5) + (1 : Int) ∧ (T.1 5) + (1 : Int) < 2147483648) then some ((va_up T.1 5 ((T.1 5) + (1 : Int))), (va_up (va_up T.2 2 (va_up (T.2 2) (T.1 5).toNat l1)) 3 (va_up ((va_up T.2 2 (va_up (T.2 2) (T.1 5).toNat l1)) 3) (T.1 5).toNat l2))) else none)
def fX3_walk_14 (k14 : gt_T × Int × Int × Int → Option (gt_T)) (a : gt_T × Int × Int × Int) : Option (gt_T) :=
  (if (a.1.1 4) ≤ a.2.2.1 then fX3_walk_62 a.1 a.2.1 a.2.2.1 else (fX3_hasMember a.1 a.2.2.2).bind (fun (q24 : Int) => (if q24 = 0 then fX3_walk_62 a.1 a.2.1 a.2.2.1 else (if (0 ≤ a.2.2.2 ∧ a.2.2.2 < 80) then (if 0 ≤ (a.1.2 1 a.2.2.2.toNat) then fX3_walk_62 a.1 a.2.1 a.2.2.1 else (if (0 ≤ a.2.2.2 ∧ a.2.2.2 < 80) ∧ (-2147483648 ≤ a.2.2.1 + (1 : Int) ∧ a.2.2.1 + (1 : Int) < 2147483648) then k14 ((a.1.1, (va_up a.1.2 1 (va_up (a.1.2 1) a.2.2.2.toNat (a.1.1 5)))), a.2.1, a.2.2.1 + (1 : Int), (va_up a.1.2 1 (va_up (a.1.2 1) a.2.2.2.toNat (a.1.1 5))) 0 a.2.2.2.toNat) else none)) else none))))
def fX3_walk (T : gt_T) (l1 : Int) : Option (gt_T) :=
  (if (T.1 5) < (80 : Int) then gt_loop (fX3_walk_14) gt_fuel (T, l1, (0 : Int), l1) else some T)
theorem iX3_walk_X3 : ∀ w ∈ u_ws RX3 TX3 6, w ∈ wsX3_walk := by decide +kernel
theorem kX3_walk_9 : Cond.fieldLink yX3_walk.cls 9 (TX3 0).1 (TX3 0).2.1 (TX3 0).2.2.1 ∈ wsX3_walk := by decide +kernel
theorem kX3_walk_15 : Cond.fieldLink yX3_walk.cls 15 (TX3 1).1 (TX3 1).2.1 (TX3 1).2.2.1 ∈ wsX3_walk := by decide +kernel
theorem kX3_walk_18 : Cond.fieldLink yX3_walk.cls 18 (TX3 2).1 (TX3 2).2.1 (TX3 2).2.2.1 ∈ wsX3_walk := by decide +kernel
theorem kX3_walk_21 : Cond.fieldLink yX3_walk.cls 21 (TX3 3).1 (TX3 3).2.1 (TX3 3).2.2.1 ∈ wsX3_walk := by decide +kernel
theorem kX3_walk_24 : Cond.fieldLink yX3_walk.cls 24 (TX3 4).1 (TX3 4).2.1 (TX3 4).2.2.1 ∈ wsX3_walk := by decide +kernel
theorem kX3_walk_28 : Cond.fieldLink yX3_walk.cls 28 (TX3 5).1 (TX3 5).2.1 (TX3 5).2.2.1 ∈ wsX3_walk := by decide +kernel
set_option maxHeartbeats 4000000 in
theorem gX3_walk_62 {X : ga_X} {D : va_G} {cI cZ : ClassId} {K : Nat} {r : Nat} {σ0 : ga_S} {res : gt_T} (C : ga_C X cX3_walk yX3_walk wsX3_walk [] (gt_rm 1 21) (D, vwCl, cI, cZ) 4) (hRet : ∀ (pc : Nat) (lv : Nat → Option ga_V) (σ' : ga_S), decode cX3_walk pc = .ok (.return_, 1) → (gt_O SX3 3 r res σ' ∧ gt_F r (r + 5) σ0 σ') → ga_G X 0 0 K pc lv [] σ') (hr0 : r ≠ 0) {T : gt_T} {σ : ga_S} {l1 l2 : Int} {lv : Nat → Option ga_V} (hW : gt_O SX3 3 r T σ) (hF : gt_F r (r + 5) σ0 σ) (hl0 : lv 0 = some (.inr r)) (hl1 : lv 1 = some (.inl l1)) (hl2 : lv 2 = some (.inl l2)) (h : fX3_walk_62 T l1 l2 = some res) : ga_G X 0 0 K 62 lv [] σ := by
  unfold fX3_walk_62 at h
  obtain ⟨hg, h⟩ := gt_gd h
  obtain ⟨g71_0, g88_1⟩ := hg
  refine ga_aload_n C dX3_walk_62 rfl hl0 hr0 ?_
  refine gt_geta C (iX3_walk_X3) hW 2 rfl rfl (by decide) kX3_walk_18 dX3_walk_63 ?_
  refine ga_aload_n C dX3_walk_66 rfl hl0 hr0 ?_
  refine gt_geti C (iX3_walk_X3) hW 5 rfl rfl (by decide) kX3_walk_28 dX3_walk_67 ?_
  refine ga_iload_n C dX3_walk_70 rfl hl1 ?_
  refine gt_iast C okX3 hW hF ⟨Nat.le_refl _, Nat.le_refl _⟩ 2 rfl g71_0.1 g71_0.2 dX3_walk_71 (fun σ hW hF hf => ?_)
  refine ga_aload_n C dX3_walk_72 rfl hl0 hr0 ?_
  refine gt_geta C (iX3_walk_X3) hW 3 rfl rfl (by decide) kX3_walk_21 dX3_walk_73 ?_
  refine ga_aload_n C dX3_walk_76 rfl hl0 hr0 ?_
  refine gt_geti C (iX3_walk_X3) hW 5 rfl rfl (by decide) kX3_walk_28 dX3_walk_77 ?_
  refine ga_iload_n C dX3_walk_80 rfl hl2 ?_
  refine gt_iast C okX3 hW hF ⟨Nat.le_refl _, Nat.le_refl _⟩ 3 rfl g71_0.1 g71_0.2 dX3_walk_81 (fun σ hW hF hf => ?_)
  refine ga_aload_n C dX3_walk_82 rfl hl0 hr0 ?_
  refine ga_dup C dX3_walk_83 ?_
  refine gt_geti C (iX3_walk_X3) hW 5 rfl rfl (by decide) kX3_walk_28 dX3_walk_84 ?_
  refine ga_iconst C dX3_walk_87 ⟨by decide, by decide⟩ ?_
  refine ga_iadd C dX3_walk_88 g88_1 ?_
  refine gt_puti C okX3 (by decide) (iX3_walk_X3) tyX3 tyX3_ok nmX3 hW hF ⟨Nat.le_refl _, Nat.le_refl _⟩ 5 rfl rfl (by decide) kX3_walk_28 rfl (by decide +kernel) dX3_walk_89 (fun σ hW hF hf => ?_)
  cases h
  exact hRet _ _ _ dX3_walk_92 ⟨hW, hF⟩
set_option maxHeartbeats 4000000 in
theorem gX3_walk_14 {X : ga_X} {D : va_G} {cI cZ : ClassId} {K : Nat} {r : Nat} {σ0 : ga_S} {res : gt_T} (C : ga_C X cX3_walk yX3_walk wsX3_walk [] (gt_rm 1 21) (D, vwCl, cI, cZ) 4) (hRet : ∀ (pc : Nat) (lv : Nat → Option ga_V) (σ' : ga_S), decode cX3_walk pc = .ok (.return_, 1) → (gt_O SX3 3 r res σ' ∧ gt_F r (r + 5) σ0 σ') → ga_G X 0 0 K pc lv [] σ') (hr0 : r ≠ 0) : ∀ (n : Nat) (a : gt_T × Int × Int × Int) (σ : ga_S) (lv : Nat → Option ga_V), gt_O SX3 3 r a.1 σ → gt_F r (r + 5) σ0 σ → lv 0 = some (.inr r) → lv 1 = some (.inl a.2.1) → lv 2 = some (.inl a.2.2.1) → lv 3 = some (.inl a.2.2.2) → gt_loop (fX3_walk_14) n a = some res → ga_G X 0 0 K 14 lv [] σ := by
  intro n
  induction n with
  | zero =>
    intro a _ lv _ _ _ _ _ _ h
    exact absurd (show (none : Option _) = some _ from h) (fun q => by cases q)
  | succ n hk14 =>
    intro a σ lv hW hF hl0 hl1 hl2 hl3 h
    have h : fX3_walk_14 (gt_loop (fX3_walk_14) n) a = some res := h
    revert hk14 h
    generalize gt_loop (fX3_walk_14) n = k14
    intro hk14 h
    unfold fX3_walk_14 at h
    refine ga_iload_n C dX3_walk_14 rfl hl2 ?_
    refine ga_aload_n C dX3_walk_15 rfl hl0 hr0 ?_
    refine gt_geti C (iX3_walk_X3) hW 4 rfl rfl (by decide) kX3_walk_24 dX3_walk_16 ?_
    refine ga_icmp_ge (tgt := 62) C dX3_walk_19 (by decide) (fun c1 => ?_) (fun c1 => ?_)
    · have h := gt_ip h c1
      exact gX3_walk_62 C hRet hr0 hW hF hl0 hl1 hl2 h
    · have h := gt_in h c1
      refine ga_aload_n C dX3_walk_22 rfl hl0 hr0 ?_
      refine ga_iload_n C dX3_walk_23 rfl hl3 ?_
      obtain ⟨q24, hq, h⟩ := Option.bind_eq_some_iff.mp h
      refine gt_cVi (n := 1) (st := []) C (eX3_hasMember X.2.1 D cI cZ K hr0 hW hq) gX3_walk_X3_hasMember rfl (by decide +kernel) rfl ⟨Nat.le_of_ble_eq_true rfl, Nat.le_of_ble_eq_true rfl⟩ hW.1 rfl rfl (Nat.le_of_ble_eq_true rfl) rfl dX3_walk_24 (fun σ' hp => ?_)
      subst hp
      refine ga_if_eq (tgt := 62) C dX3_walk_27 (by decide) (fun c1 => ?_) (fun c1 => ?_)
      · have h := gt_ip h c1
        exact gX3_walk_62 C hRet hr0 hW hF hl0 hl1 hl2 h
      · have h := gt_in h c1
        obtain ⟨hg, h⟩ := gt_gd h
        have g35_0 := hg
        refine ga_aload_n C dX3_walk_30 rfl hl0 hr0 ?_
        refine gt_geta C (iX3_walk_X3) hW 1 rfl rfl (by decide) kX3_walk_15 dX3_walk_31 ?_
        refine ga_iload_n C dX3_walk_34 rfl hl3 ?_
        refine gt_iald C hW 1 rfl g35_0.1 g35_0.2 dX3_walk_35 ?_
        refine ga_if_ge (tgt := 62) C dX3_walk_36 (by decide) (fun c1 => ?_) (fun c1 => ?_)
        · have h := gt_ip h c1
          exact gX3_walk_62 C hRet hr0 hW hF hl0 hl1 hl2 h
        · have h := gt_in h c1
          obtain ⟨hg, h⟩ := gt_gd h
          obtain ⟨g48_0, g56_1⟩ := hg
          refine ga_aload_n C dX3_walk_39 rfl hl0 hr0 ?_
          refine gt_geta C (iX3_walk_X3) hW 1 rfl rfl (by decide) kX3_walk_15 dX3_walk_40 ?_
          refine ga_iload_n C dX3_walk_43 rfl hl3 ?_
          refine ga_aload_n C dX3_walk_44 rfl hl0 hr0 ?_
          refine gt_geti C (iX3_walk_X3) hW 5 rfl rfl (by decide) kX3_walk_28 dX3_walk_45 ?_
          refine gt_iast C okX3 hW hF ⟨Nat.le_refl _, Nat.le_refl _⟩ 1 rfl g48_0.1 g48_0.2 dX3_walk_48 (fun σ hW hF hf => ?_)
          refine ga_aload_n C dX3_walk_49 rfl hl0 hr0 ?_
          refine gt_geta C (iX3_walk_X3) hW 0 rfl rfl (by decide) kX3_walk_9 dX3_walk_50 ?_
          refine ga_iload_n C dX3_walk_53 rfl hl3 ?_
          refine gt_iald C hW 0 rfl g48_0.1 g48_0.2 dX3_walk_54 ?_
          refine ga_istore_n C dX3_walk_55 rfl (by decide) ?_
          refine ga_iinc C dX3_walk_56 (gt_un (by decide) hl2) g56_1 ?_
          refine ga_goto (tgt := 14) C dX3_walk_59 (by decide) ?_
          exact hk14 ((a.1.1, (va_up a.1.2 1 (va_up (a.1.2 1) a.2.2.2.toNat (a.1.1 5)))), a.2.1, a.2.2.1 + (1 : Int), (va_up a.1.2 1 (va_up (a.1.2 1) a.2.2.2.toNat (a.1.1 5))) 0 a.2.2.2.toNat) _ _ hW hF (gt_un (by decide) (gt_un (by decide) hl0)) (gt_un (by decide) (gt_un (by decide) hl1)) gt_us (gt_un (by decide) gt_us) h
set_option maxHeartbeats 4000000 in
theorem gX3_walk_0 {X : ga_X} {D : va_G} {cI cZ : ClassId} {K : Nat} {r : Nat} {σ0 : ga_S} {res : gt_T} (C : ga_C X cX3_walk yX3_walk wsX3_walk [] (gt_rm 1 21) (D, vwCl, cI, cZ) 4) (hRet : ∀ (pc : Nat) (lv : Nat → Option ga_V) (σ' : ga_S), decode cX3_walk pc = .ok (.return_, 1) → (gt_O SX3 3 r res σ' ∧ gt_F r (r + 5) σ0 σ') → ga_G X 0 0 K pc lv [] σ') (hr0 : r ≠ 0) {T : gt_T} {σ : ga_S} {l1 : Int} {lv : Nat → Option ga_V} (hW : gt_O SX3 3 r T σ) (hF : gt_F r (r + 5) σ0 σ) (hl0 : lv 0 = some (.inr r)) (hl1 : lv 1 = some (.inl l1)) (h : fX3_walk T l1 = some res) : ga_G X 0 0 K 0 lv [] σ := by
  unfold fX3_walk at h
  refine ga_aload_n C dX3_walk_0 rfl hl0 hr0 ?_
  refine gt_geti C (iX3_walk_X3) hW 5 rfl rfl (by decide) kX3_walk_28 dX3_walk_1 ?_
  refine ga_bipush C dX3_walk_4 ⟨by decide, by decide⟩ (by decide) ?_
  refine ga_icmp_lt (tgt := 10) C dX3_walk_6 (by decide) (fun c1 => ?_) (fun c1 => ?_)
  · have h := gt_ip h c1
    refine ga_iconst C dX3_walk_10 ⟨by decide, by decide⟩ ?_
    refine ga_istore_n C dX3_walk_11 rfl (by decide) ?_
    refine ga_iload_n C dX3_walk_12 rfl (gt_un (by decide) hl1) ?_
    refine ga_istore_n C dX3_walk_13 rfl (by decide) ?_
    exact gX3_walk_14 C hRet hr0 gt_fuel (T, l1, (0 : Int), l1) _ _ hW hF (gt_un (by decide) (gt_un (by decide) hl0)) (gt_un (by decide) (gt_un (by decide) hl1)) (gt_un (by decide) gt_us) gt_us h
  · have h := gt_in h c1
    cases h
    exact hRet _ _ _ dX3_walk_9 ⟨hW, hF⟩
set_option maxHeartbeats 4000000 in
theorem eX3_walk (l : Launch) (D : va_G) (cI cZ : ClassId) (K : Nat) {r : Nat} (hr0 : r ≠ 0) {σ : ga_S} {T : gt_T} (hW : gt_O SX3 3 r T σ) {l1 : Int} {res : gt_T} (h : fX3_walk T l1 = some res) : ga_Ev l (D, vwCl, cI, cZ) yX3_walk wsX3_walk (gt_rm 1 21) [] 0 0 K [.inr r, .inl l1] σ (fun σ' rv => (gt_O SX3 3 r res σ' ∧ gt_F r (r + 5) σ σ') ∧ rv = none) := by
  refine ga_ofV (by decide +kernel) rfl gt_hcl (Nat.le_of_ble_eq_true rfl) (fun X hX C hret => ?_)
  exact gX3_walk_0 C (fun pc lv σ' d hp => hret pc lv σ' d ⟨hp, rfl⟩) hr0 hW gt_F.rf rfl rfl h
-- X3_trace: trace()V
def fX3_trace_32 (k10 : gt_T × Int → Option (gt_T)) (T : gt_T) (l1 : Int) : Option (gt_T) :=
  (if (-2147483648 ≤ l1 + (1 : Int) ∧ l1 + (1 : Int) < 2147483648) then k10 (T, l1 + (1 : Int)) else none)
def fX3_trace_10 (k10 : gt_T × Int → Option (gt_T)) (a : gt_T × Int) : Option (gt_T) :=
  (if (a.1.1 4) ≤ a.2 then some a.1 else (if (0 ≤ a.2 ∧ a.2 < 80) then (if 0 ≤ (a.1.2 1 a.2.toNat) then fX3_trace_32 k10 a.1 a.2 else (fX3_walk a.1 a.2).bind (fun (q29 : gt_T) => fX3_trace_32 k10 q29 a.2)) else none))
def fX3_trace (T : gt_T) : Option (gt_T) :=
  gt_loop (fX3_trace_10) gt_fuel ((T.1, (va_up T.2 1 (gt_fill (T.2 1) 80 (-1 : Int)))), (0 : Int))
theorem iX3_trace_X3 : ∀ w ∈ u_ws RX3 TX3 6, w ∈ wsX3_trace := by decide +kernel
theorem kX3_trace_15 : Cond.fieldLink yX3_trace.cls 15 (TX3 1).1 (TX3 1).2.1 (TX3 1).2.2.1 ∈ wsX3_trace := by decide +kernel
theorem kX3_trace_24 : Cond.fieldLink yX3_trace.cls 24 (TX3 4).1 (TX3 4).2.1 (TX3 4).2.2.1 ∈ wsX3_trace := by decide +kernel
set_option maxHeartbeats 4000000 in
theorem gX3_trace_32 {X : ga_X} {D : va_G} {cI cZ : ClassId} {K : Nat} {r : Nat} {σ0 : ga_S} {res : gt_T} {k10 : gt_T × Int → Option (gt_T)} (C : ga_C X cX3_trace yX3_trace wsX3_trace [] (gt_rm 2 44) (D, vwCl, cI, cZ) 2) (hRet : ∀ (pc : Nat) (lv : Nat → Option ga_V) (σ' : ga_S), decode cX3_trace pc = .ok (.return_, 1) → (gt_O SX3 3 r res σ' ∧ gt_F r (r + 5) σ0 σ') → ga_G X 0 0 K pc lv [] σ') (hr0 : r ≠ 0) (hk10 : ∀ (a : gt_T × Int) (σ : ga_S) (lv : Nat → Option ga_V), gt_O SX3 3 r a.1 σ → gt_F r (r + 5) σ0 σ → lv 0 = some (.inr r) → lv 1 = some (.inl a.2) → k10 a = some res → ga_G X 0 0 K 10 lv [] σ) {T : gt_T} {σ : ga_S} {l1 : Int} {lv : Nat → Option ga_V} (hW : gt_O SX3 3 r T σ) (hF : gt_F r (r + 5) σ0 σ) (hl0 : lv 0 = some (.inr r)) (hl1 : lv 1 = some (.inl l1)) (h : fX3_trace_32 k10 T l1 = some res) : ga_G X 0 0 K 32 lv [] σ := by
  unfold fX3_trace_32 at h
  obtain ⟨hg, h⟩ := gt_gd h
  have g32_0 := hg
  refine ga_iinc C dX3_trace_32 hl1 g32_0 ?_
  refine ga_goto (tgt := 10) C dX3_trace_35 (by decide) ?_
  exact hk10 (T, l1 + (1 : Int)) _ _ hW hF (gt_un (by decide) hl0) gt_us h
set_option maxHeartbeats 4000000 in
theorem gX3_trace_10 {X : ga_X} {D : va_G} {cI cZ : ClassId} {K : Nat} {r : Nat} {σ0 : ga_S} {res : gt_T} (C : ga_C X cX3_trace yX3_trace wsX3_trace [] (gt_rm 2 44) (D, vwCl, cI, cZ) 2) (hRet : ∀ (pc : Nat) (lv : Nat → Option ga_V) (σ' : ga_S), decode cX3_trace pc = .ok (.return_, 1) → (gt_O SX3 3 r res σ' ∧ gt_F r (r + 5) σ0 σ') → ga_G X 0 0 K pc lv [] σ') (hr0 : r ≠ 0) : ∀ (n : Nat) (a : gt_T × Int) (σ : ga_S) (lv : Nat → Option ga_V), gt_O SX3 3 r a.1 σ → gt_F r (r + 5) σ0 σ → lv 0 = some (.inr r) → lv 1 = some (.inl a.2) → gt_loop (fX3_trace_10) n a = some res → ga_G X 0 0 K 10 lv [] σ := by
  intro n
  induction n with
  | zero =>
    intro a _ lv _ _ _ _ h
    exact absurd (show (none : Option _) = some _ from h) (fun q => by cases q)
  | succ n hk10 =>
    intro a σ lv hW hF hl0 hl1 h
    have h : fX3_trace_10 (gt_loop (fX3_trace_10) n) a = some res := h
    revert hk10 h
    generalize gt_loop (fX3_trace_10) n = k10
    intro hk10 h
    unfold fX3_trace_10 at h
    refine ga_iload_n C dX3_trace_10 rfl hl1 ?_
    refine ga_aload_n C dX3_trace_11 rfl hl0 hr0 ?_
    refine gt_geti C (iX3_trace_X3) hW 4 rfl rfl (by decide) kX3_trace_24 dX3_trace_12 ?_
    refine ga_icmp_ge (tgt := 38) C dX3_trace_15 (by decide) (fun c1 => ?_) (fun c1 => ?_)
    · have h := gt_ip h c1
      cases h
      exact hRet _ _ _ dX3_trace_38 ⟨hW, hF⟩
    · have h := gt_in h c1
      obtain ⟨hg, h⟩ := gt_gd h
      have g23_0 := hg
      refine ga_aload_n C dX3_trace_18 rfl hl0 hr0 ?_
      refine gt_geta C (iX3_trace_X3) hW 1 rfl rfl (by decide) kX3_trace_15 dX3_trace_19 ?_
      refine ga_iload_n C dX3_trace_22 rfl hl1 ?_
      refine gt_iald C hW 1 rfl g23_0.1 g23_0.2 dX3_trace_23 ?_
      refine ga_if_ge (tgt := 32) C dX3_trace_24 (by decide) (fun c1 => ?_) (fun c1 => ?_)
      · have h := gt_ip h c1
        exact gX3_trace_32 C hRet hr0 hk10 hW hF hl0 hl1 h
      · have h := gt_in h c1
        refine ga_aload_n C dX3_trace_27 rfl hl0 hr0 ?_
        refine ga_iload_n C dX3_trace_28 rfl hl1 ?_
        obtain ⟨q29, hq, h⟩ := Option.bind_eq_some_iff.mp h
        refine gt_cVv (n := 1) (st := []) C (eX3_walk X.2.1 D cI cZ K hr0 hW hq) gX3_trace_X3_walk rfl (by decide +kernel) rfl ⟨Nat.le_of_ble_eq_true rfl, Nat.le_of_ble_eq_true rfl⟩ hW.1 rfl rfl (Nat.le_of_ble_eq_true rfl) rfl dX3_trace_29 (fun σ' hp => ?_)
        obtain ⟨hw, hf⟩ := hp
        have hF := hF.tr hf (Nat.le_refl _) (Nat.le_refl _)
        have hW := hw
        clear hf
        exact gX3_trace_32 C hRet hr0 hk10 hW hF hl0 hl1 h
set_option maxHeartbeats 4000000 in
theorem gX3_trace_0 {X : ga_X} {D : va_G} {cI cZ : ClassId} {K : Nat} {r : Nat} {σ0 : ga_S} {res : gt_T} (C : ga_C X cX3_trace yX3_trace wsX3_trace [] (gt_rm 2 44) (D, vwCl, cI, cZ) 2) (hRet : ∀ (pc : Nat) (lv : Nat → Option ga_V) (σ' : ga_S), decode cX3_trace pc = .ok (.return_, 1) → (gt_O SX3 3 r res σ' ∧ gt_F r (r + 5) σ0 σ') → ga_G X 0 0 K pc lv [] σ') (hr0 : r ≠ 0) {T : gt_T} {σ : ga_S} {lv : Nat → Option ga_V} (hW : gt_O SX3 3 r T σ) (hF : gt_F r (r + 5) σ0 σ) (hl0 : lv 0 = some (.inr r)) (h : fX3_trace T = some res) : ga_G X 0 0 K 0 lv [] σ := by
  unfold fX3_trace at h
  refine ga_aload_n C dX3_trace_0 rfl hl0 hr0 ?_
  refine gt_geta C (iX3_trace_X3) hW 1 rfl rfl (by decide) kX3_trace_15 dX3_trace_1 ?_
  refine ga_iconst C dX3_trace_4 ⟨by decide, by decide⟩ ?_
  refine gt_cSv (n := 2) (st := []) C (eJ7_fill X.2.1 D cI cZ K ((hW.2 1 2 80).1 rfl) (by decide) (Nat.ne_of_gt (Nat.lt_of_lt_of_le (Nat.pos_of_ne_zero hr0) (Nat.le_add_right _ _)))) gX3_trace_J7_fill_53178 rfl (by decide +kernel) rfl ⟨Nat.le_of_ble_eq_true rfl, Nat.le_of_ble_eq_true rfl⟩ (Nat.le_of_ble_eq_true rfl) rfl dX3_trace_5 (fun σ' hp => ?_)
  subst hp
  have hW := hW.ist okX3 (j := 1) (o := 2) (m := 80) rfl (gt_fill ((T).2 1) 80 (-1 : Int))
  have hF := hF.up (i := r + 2) (x := .inl (false, 80, gt_fill ((T).2 1) 80 (-1 : Int))) (by omega) (by omega)
  generalize (va_up _ (r + 2) _ : ga_S) = σ at hW hF ⊢
  refine ga_iconst C dX3_trace_8 ⟨by decide, by decide⟩ ?_
  refine ga_istore_n C dX3_trace_9 rfl (by decide) ?_
  exact gX3_trace_10 C hRet hr0 gt_fuel ((T.1, (va_up T.2 1 (gt_fill (T.2 1) 80 (-1 : Int)))), (0 : Int)) _ _ hW hF (gt_un (by decide) hl0) gt_us h
set_option maxHeartbeats 4000000 in
theorem eX3_trace (l : Launch) (D : va_G) (cI cZ : ClassId) (K : Nat) {r : Nat} (hr0 : r ≠ 0) {σ : ga_S} {T : gt_T} (hW : gt_O SX3 3 r T σ) {res : gt_T} (h : fX3_trace T = some res) : ga_Ev l (D, vwCl, cI, cZ) yX3_trace wsX3_trace (gt_rm 2 44) [] 0 0 K [.inr r] σ (fun σ' rv => (gt_O SX3 3 r res σ' ∧ gt_F r (r + 5) σ σ') ∧ rv = none) := by
  refine ga_ofV (by decide +kernel) rfl gt_hcl (Nat.le_of_ble_eq_true rfl) (fun X hX C hret => ?_)
  exact gX3_trace_0 C (fun pc lv σ' d hp => hret pc lv σ' d ⟨hp, rfl⟩) hr0 hW gt_F.rf rfl h
-- X3_count: count()I
def fX3_count (T : gt_T) : Option (Int) :=
  some (T.1 5)
theorem iX3_count_X3 : ∀ w ∈ u_ws RX3 TX3 6, w ∈ wsX3_count := by decide +kernel
theorem kX3_count_28 : Cond.fieldLink yX3_count.cls 28 (TX3 5).1 (TX3 5).2.1 (TX3 5).2.2.1 ∈ wsX3_count := by decide +kernel
set_option maxHeartbeats 4000000 in
theorem gX3_count_0 {X : ga_X} {D : va_G} {cI cZ : ClassId} {K : Nat} {r : Nat} {res : Int} {T : gt_T} {σ : ga_S} (C : ga_C X cX3_count yX3_count wsX3_count [] (gt_rm 0 0) (D, vwCl, cI, cZ) 1) (hRet : ∀ (pc : Nat) (lv : Nat → Option ga_V) (σ' : ga_S) (z : Int), decode cX3_count pc = .ok (.ireturn, 1) → z = res → (σ' = σ) → ga_G X 0 0 K pc lv [.inl z] σ') (hr0 : r ≠ 0) {lv : Nat → Option ga_V} (hW : gt_O SX3 3 r T σ) (hl0 : lv 0 = some (.inr r)) (h : fX3_count T = some res) : ga_G X 0 0 K 0 lv [] σ := by
  unfold fX3_count at h
  refine ga_aload_n C dX3_count_0 rfl hl0 hr0 ?_
  refine gt_geti C (iX3_count_X3) hW 5 rfl rfl (by decide) kX3_count_28 dX3_count_1 ?_
  cases h
  exact hRet _ _ _ _ dX3_count_4 rfl rfl
set_option maxHeartbeats 4000000 in
theorem eX3_count (l : Launch) (D : va_G) (cI cZ : ClassId) (K : Nat) {r : Nat} (hr0 : r ≠ 0) {σ : ga_S} {T : gt_T} (hW : gt_O SX3 3 r T σ) {res : Int} (h : fX3_count T = some res) : ga_Ev l (D, vwCl, cI, cZ) yX3_count wsX3_count (gt_rm 0 0) [] 0 0 K [.inr r] σ (fun σ' rv => (σ' = σ) ∧ rv = some (.inl res)) := by
  refine ga_ofI (by decide +kernel) rfl gt_hcl (Nat.le_of_ble_eq_true rfl) (fun X hX C hret => ?_)
  exact gX3_count_0 C (fun pc lv σ' z d hz hp => hret pc lv σ' z d ⟨hp, by rw [hz]⟩) hr0 hW rfl h
-- X3_hasRound: hasRound(I)Z
def fX3_hasRound_17 (T : gt_T) (s0 : Int) : Option (Int) :=
  (if (s0 = 0 ∨ s0 = 1) then some s0 else none)
def fX3_hasRound_16 (T : gt_T) : Option (Int) :=
  fX3_hasRound_17 T (0 : Int)
def fX3_hasRound (T : gt_T) (l1 : Int) : Option (Int) :=
  (if l1 < 0 then fX3_hasRound_16 T else (if (T.1 5) ≤ l1 then fX3_hasRound_16 T else fX3_hasRound_17 T (1 : Int)))
theorem iX3_hasRound_X3 : ∀ w ∈ u_ws RX3 TX3 6, w ∈ wsX3_hasRound := by decide +kernel
theorem kX3_hasRound_28 : Cond.fieldLink yX3_hasRound.cls 28 (TX3 5).1 (TX3 5).2.1 (TX3 5).2.2.1 ∈ wsX3_hasRound := by decide +kernel
set_option maxHeartbeats 4000000 in
theorem gX3_hasRound_17 {X : ga_X} {D : va_G} {cI cZ : ClassId} {K : Nat} {r : Nat} {res : Int} {T : gt_T} {σ : ga_S} (C : ga_C X cX3_hasRound yX3_hasRound wsX3_hasRound [] (gt_rm 0 0) (D, vwCl, cI, cZ) 2) (hRet : ∀ (pc : Nat) (lv : Nat → Option ga_V) (σ' : ga_S) (z : Int), decode cX3_hasRound pc = .ok (.ireturn, 1) → (z = 0 ∨ z = 1) → z = res → (σ' = σ) → ga_G X 0 0 K pc lv [.inl z] σ') (hr0 : r ≠ 0) {s0 : Int} {lv : Nat → Option ga_V} (hW : gt_O SX3 3 r T σ) (h : fX3_hasRound_17 T s0 = some res) : ga_G X 0 0 K 17 lv [.inl s0] σ := by
  unfold fX3_hasRound_17 at h
  obtain ⟨hg, h⟩ := gt_gd h
  have g17_0 := hg
  cases h
  exact hRet _ _ _ _ dX3_hasRound_17 g17_0 rfl rfl
set_option maxHeartbeats 4000000 in
theorem gX3_hasRound_16 {X : ga_X} {D : va_G} {cI cZ : ClassId} {K : Nat} {r : Nat} {res : Int} {T : gt_T} {σ : ga_S} (C : ga_C X cX3_hasRound yX3_hasRound wsX3_hasRound [] (gt_rm 0 0) (D, vwCl, cI, cZ) 2) (hRet : ∀ (pc : Nat) (lv : Nat → Option ga_V) (σ' : ga_S) (z : Int), decode cX3_hasRound pc = .ok (.ireturn, 1) → (z = 0 ∨ z = 1) → z = res → (σ' = σ) → ga_G X 0 0 K pc lv [.inl z] σ') (hr0 : r ≠ 0) {lv : Nat → Option ga_V} (hW : gt_O SX3 3 r T σ) (h : fX3_hasRound_16 T = some res) : ga_G X 0 0 K 16 lv [] σ := by
  unfold fX3_hasRound_16 at h
  refine ga_iconst C dX3_hasRound_16 ⟨by decide, by decide⟩ ?_
  exact gX3_hasRound_17 C hRet hr0 hW h
set_option maxHeartbeats 4000000 in
theorem gX3_hasRound_0 {X : ga_X} {D : va_G} {cI cZ : ClassId} {K : Nat} {r : Nat} {res : Int} {T : gt_T} {σ : ga_S} (C : ga_C X cX3_hasRound yX3_hasRound wsX3_hasRound [] (gt_rm 0 0) (D, vwCl, cI, cZ) 2) (hRet : ∀ (pc : Nat) (lv : Nat → Option ga_V) (σ' : ga_S) (z : Int), decode cX3_hasRound pc = .ok (.ireturn, 1) → (z = 0 ∨ z = 1) → z = res → (σ' = σ) → ga_G X 0 0 K pc lv [.inl z] σ') (hr0 : r ≠ 0) {l1 : Int} {lv : Nat → Option ga_V} (hW : gt_O SX3 3 r T σ) (hl0 : lv 0 = some (.inr r)) (hl1 : lv 1 = some (.inl l1)) (h : fX3_hasRound T l1 = some res) : ga_G X 0 0 K 0 lv [] σ := by
  unfold fX3_hasRound at h
  refine ga_iload_n C dX3_hasRound_0 rfl hl1 ?_
  refine ga_if_lt (tgt := 16) C dX3_hasRound_1 (by decide) (fun c1 => ?_) (fun c1 => ?_)
  · have h := gt_ip h c1
    exact gX3_hasRound_16 C hRet hr0 hW h
  · have h := gt_in h c1
    refine ga_iload_n C dX3_hasRound_4 rfl hl1 ?_
    refine ga_aload_n C dX3_hasRound_5 rfl hl0 hr0 ?_
    refine gt_geti C (iX3_hasRound_X3) hW 5 rfl rfl (by decide) kX3_hasRound_28 dX3_hasRound_6 ?_
    refine ga_icmp_ge (tgt := 16) C dX3_hasRound_9 (by decide) (fun c1 => ?_) (fun c1 => ?_)
    · have h := gt_ip h c1
      exact gX3_hasRound_16 C hRet hr0 hW h
    · have h := gt_in h c1
      refine ga_iconst C dX3_hasRound_12 ⟨by decide, by decide⟩ ?_
      refine ga_goto (tgt := 17) C dX3_hasRound_13 (by decide) ?_
      exact gX3_hasRound_17 C hRet hr0 hW h
set_option maxHeartbeats 4000000 in
theorem eX3_hasRound (l : Launch) (D : va_G) (cI cZ : ClassId) (K : Nat) {r : Nat} (hr0 : r ≠ 0) {σ : ga_S} {T : gt_T} (hW : gt_O SX3 3 r T σ) {l1 : Int} {res : Int} (h : fX3_hasRound T l1 = some res) : ga_Ev l (D, vwCl, cI, cZ) yX3_hasRound wsX3_hasRound (gt_rm 0 0) [] 0 0 K [.inr r, .inl l1] σ (fun σ' rv => (σ' = σ) ∧ rv = some (.inl res)) := by
  refine ga_ofZ (by decide +kernel) rfl gt_hcl (Nat.le_of_ble_eq_true rfl) (fun X hX C hret => ?_)
  exact gX3_hasRound_0 C (fun pc lv σ' z d h01 hz hp => hret pc lv σ' z d h01 ⟨hp, by rw [hz]⟩) hr0 hW rfl rfl h
-- X3_first: first(I)I
def fX3_first_18 (T : gt_T) (s0 : Int) : Option (Int) :=
  some s0
def fX3_first (T : gt_T) (l1 : Int) : Option (Int) :=
  (fX3_hasRound T l1).bind (fun (q2 : Int) => (if q2 = 0 then fX3_first_18 T (-1 : Int) else (if (0 ≤ l1 ∧ l1 < 80) then fX3_first_18 T (T.2 2 l1.toNat) else none)))
theorem iX3_first_X3 : ∀ w ∈ u_ws RX3 TX3 6, w ∈ wsX3_first := by decide +kernel
theorem kX3_first_18 : Cond.fieldLink yX3_first.cls 18 (TX3 2).1 (TX3 2).2.1 (TX3 2).2.2.1 ∈ wsX3_first := by decide +kernel
set_option maxHeartbeats 4000000 in
theorem gX3_first_18 {X : ga_X} {D : va_G} {cI cZ : ClassId} {K : Nat} {r : Nat} {res : Int} {T : gt_T} {σ : ga_S} (C : ga_C X cX3_first yX3_first wsX3_first [] (gt_rm 1 21) (D, vwCl, cI, cZ) 2) (hRet : ∀ (pc : Nat) (lv : Nat → Option ga_V) (σ' : ga_S) (z : Int), decode cX3_first pc = .ok (.ireturn, 1) → z = res → (σ' = σ) → ga_G X 0 0 K pc lv [.inl z] σ') (hr0 : r ≠ 0) {s0 : Int} {lv : Nat → Option ga_V} (hW : gt_O SX3 3 r T σ) (h : fX3_first_18 T s0 = some res) : ga_G X 0 0 K 18 lv [.inl s0] σ := by
  unfold fX3_first_18 at h
  cases h
  exact hRet _ _ _ _ dX3_first_18 rfl rfl
set_option maxHeartbeats 4000000 in
theorem gX3_first_0 {X : ga_X} {D : va_G} {cI cZ : ClassId} {K : Nat} {r : Nat} {res : Int} {T : gt_T} {σ : ga_S} (C : ga_C X cX3_first yX3_first wsX3_first [] (gt_rm 1 21) (D, vwCl, cI, cZ) 2) (hRet : ∀ (pc : Nat) (lv : Nat → Option ga_V) (σ' : ga_S) (z : Int), decode cX3_first pc = .ok (.ireturn, 1) → z = res → (σ' = σ) → ga_G X 0 0 K pc lv [.inl z] σ') (hr0 : r ≠ 0) {l1 : Int} {lv : Nat → Option ga_V} (hW : gt_O SX3 3 r T σ) (hl0 : lv 0 = some (.inr r)) (hl1 : lv 1 = some (.inl l1)) (h : fX3_first T l1 = some res) : ga_G X 0 0 K 0 lv [] σ := by
  unfold fX3_first at h
  refine ga_aload_n C dX3_first_0 rfl hl0 hr0 ?_
  refine ga_iload_n C dX3_first_1 rfl hl1 ?_
  obtain ⟨q2, hq, h⟩ := Option.bind_eq_some_iff.mp h
  refine gt_cVi (n := 1) (st := []) C (eX3_hasRound X.2.1 D cI cZ K hr0 hW hq) gX3_first_X3_hasRound rfl (by decide +kernel) rfl ⟨Nat.le_of_ble_eq_true rfl, Nat.le_of_ble_eq_true rfl⟩ hW.1 rfl rfl (Nat.le_of_ble_eq_true rfl) rfl dX3_first_2 (fun σ' hp => ?_)
  subst hp
  refine ga_if_eq (tgt := 17) C dX3_first_5 (by decide) (fun c1 => ?_) (fun c1 => ?_)
  · have h := gt_ip h c1
    refine ga_iconst C dX3_first_17 ⟨by decide, by decide⟩ ?_
    exact gX3_first_18 C hRet hr0 hW h
  · have h := gt_in h c1
    obtain ⟨hg, h⟩ := gt_gd h
    have g13_0 := hg
    refine ga_aload_n C dX3_first_8 rfl hl0 hr0 ?_
    refine gt_geta C (iX3_first_X3) hW 2 rfl rfl (by decide) kX3_first_18 dX3_first_9 ?_
    refine ga_iload_n C dX3_first_12 rfl hl1 ?_
    refine gt_iald C hW 2 rfl g13_0.1 g13_0.2 dX3_first_13 ?_
    refine ga_goto (tgt := 18) C dX3_first_14 (by decide) ?_
    exact gX3_first_18 C hRet hr0 hW h
set_option maxHeartbeats 4000000 in
theorem eX3_first (l : Launch) (D : va_G) (cI cZ : ClassId) (K : Nat) {r : Nat} (hr0 : r ≠ 0) {σ : ga_S} {T : gt_T} (hW : gt_O SX3 3 r T σ) {l1 : Int} {res : Int} (h : fX3_first T l1 = some res) : ga_Ev l (D, vwCl, cI, cZ) yX3_first wsX3_first (gt_rm 1 21) [] 0 0 K [.inr r, .inl l1] σ (fun σ' rv => (σ' = σ) ∧ rv = some (.inl res)) := by
  refine ga_ofI (by decide +kernel) rfl gt_hcl (Nat.le_of_ble_eq_true rfl) (fun X hX C hret => ?_)
  exact gX3_first_0 C (fun pc lv σ' z d hz hp => hret pc lv σ' z d ⟨hp, by rw [hz]⟩) hr0 hW rfl rfl h
-- X3_next: next(I)I
def fX3_next_18 (T : gt_T) (s0 : Int) : Option (Int) :=
  some s0
def fX3_next (T : gt_T) (l1 : Int) : Option (Int) :=
  (fX3_hasMember T l1).bind (fun (q2 : Int) => (if q2 = 0 then fX3_next_18 T (-1 : Int) else (if (0 ≤ l1 ∧ l1 < 80) then fX3_next_18 T (T.2 0 l1.toNat) else none)))
theorem iX3_next_X3 : ∀ w ∈ u_ws RX3 TX3 6, w ∈ wsX3_next := by decide +kernel
theorem kX3_next_9 : Cond.fieldLink yX3_next.cls 9 (TX3 0).1 (TX3 0).2.1 (TX3 0).2.2.1 ∈ wsX3_next := by decide +kernel
set_option maxHeartbeats 4000000 in
theorem gX3_next_18 {X : ga_X} {D : va_G} {cI cZ : ClassId} {K : Nat} {r : Nat} {res : Int} {T : gt_T} {σ : ga_S} (C : ga_C X cX3_next yX3_next wsX3_next [] (gt_rm 1 21) (D, vwCl, cI, cZ) 2) (hRet : ∀ (pc : Nat) (lv : Nat → Option ga_V) (σ' : ga_S) (z : Int), decode cX3_next pc = .ok (.ireturn, 1) → z = res → (σ' = σ) → ga_G X 0 0 K pc lv [.inl z] σ') (hr0 : r ≠ 0) {s0 : Int} {lv : Nat → Option ga_V} (hW : gt_O SX3 3 r T σ) (h : fX3_next_18 T s0 = some res) : ga_G X 0 0 K 18 lv [.inl s0] σ := by
  unfold fX3_next_18 at h
  cases h
  exact hRet _ _ _ _ dX3_next_18 rfl rfl
set_option maxHeartbeats 4000000 in
theorem gX3_next_0 {X : ga_X} {D : va_G} {cI cZ : ClassId} {K : Nat} {r : Nat} {res : Int} {T : gt_T} {σ : ga_S} (C : ga_C X cX3_next yX3_next wsX3_next [] (gt_rm 1 21) (D, vwCl, cI, cZ) 2) (hRet : ∀ (pc : Nat) (lv : Nat → Option ga_V) (σ' : ga_S) (z : Int), decode cX3_next pc = .ok (.ireturn, 1) → z = res → (σ' = σ) → ga_G X 0 0 K pc lv [.inl z] σ') (hr0 : r ≠ 0) {l1 : Int} {lv : Nat → Option ga_V} (hW : gt_O SX3 3 r T σ) (hl0 : lv 0 = some (.inr r)) (hl1 : lv 1 = some (.inl l1)) (h : fX3_next T l1 = some res) : ga_G X 0 0 K 0 lv [] σ := by
  unfold fX3_next at h
  refine ga_aload_n C dX3_next_0 rfl hl0 hr0 ?_
  refine ga_iload_n C dX3_next_1 rfl hl1 ?_
  obtain ⟨q2, hq, h⟩ := Option.bind_eq_some_iff.mp h
  refine gt_cVi (n := 1) (st := []) C (eX3_hasMember X.2.1 D cI cZ K hr0 hW hq) gX3_next_X3_hasMember rfl (by decide +kernel) rfl ⟨Nat.le_of_ble_eq_true rfl, Nat.le_of_ble_eq_true rfl⟩ hW.1 rfl rfl (Nat.le_of_ble_eq_true rfl) rfl dX3_next_2 (fun σ' hp => ?_)
  subst hp
  refine ga_if_eq (tgt := 17) C dX3_next_5 (by decide) (fun c1 => ?_) (fun c1 => ?_)
  · have h := gt_ip h c1
    refine ga_iconst C dX3_next_17 ⟨by decide, by decide⟩ ?_
    exact gX3_next_18 C hRet hr0 hW h
  · have h := gt_in h c1
    obtain ⟨hg, h⟩ := gt_gd h
    have g13_0 := hg
    refine ga_aload_n C dX3_next_8 rfl hl0 hr0 ?_
    refine gt_geta C (iX3_next_X3) hW 0 rfl rfl (by decide) kX3_next_9 dX3_next_9 ?_
    refine ga_iload_n C dX3_next_12 rfl hl1 ?_
    refine gt_iald C hW 0 rfl g13_0.1 g13_0.2 dX3_next_13 ?_
    refine ga_goto (tgt := 18) C dX3_next_14 (by decide) ?_
    exact gX3_next_18 C hRet hr0 hW h
set_option maxHeartbeats 4000000 in
theorem eX3_next (l : Launch) (D : va_G) (cI cZ : ClassId) (K : Nat) {r : Nat} (hr0 : r ≠ 0) {σ : ga_S} {T : gt_T} (hW : gt_O SX3 3 r T σ) {l1 : Int} {res : Int} (h : fX3_next T l1 = some res) : ga_Ev l (D, vwCl, cI, cZ) yX3_next wsX3_next (gt_rm 1 21) [] 0 0 K [.inr r, .inl l1] σ (fun σ' rv => (σ' = σ) ∧ rv = some (.inl res)) := by
  refine ga_ofI (by decide +kernel) rfl gt_hcl (Nat.le_of_ble_eq_true rfl) (fun X hX C hret => ?_)
  exact gX3_next_0 C (fun pc lv σ' z d hz hp => hret pc lv σ' z d ⟨hp, by rw [hz]⟩) hr0 hW rfl rfl h
-- X3_roundOf: roundOf(I)I
def fX3_roundOf_18 (T : gt_T) (s0 : Int) : Option (Int) :=
  some s0
def fX3_roundOf (T : gt_T) (l1 : Int) : Option (Int) :=
  (fX3_hasMember T l1).bind (fun (q2 : Int) => (if q2 = 0 then fX3_roundOf_18 T (-1 : Int) else (if (0 ≤ l1 ∧ l1 < 80) then fX3_roundOf_18 T (T.2 1 l1.toNat) else none)))
theorem iX3_roundOf_X3 : ∀ w ∈ u_ws RX3 TX3 6, w ∈ wsX3_roundOf := by decide +kernel
theorem kX3_roundOf_15 : Cond.fieldLink yX3_roundOf.cls 15 (TX3 1).1 (TX3 1).2.1 (TX3 1).2.2.1 ∈ wsX3_roundOf := by decide +kernel
set_option maxHeartbeats 4000000 in
theorem gX3_roundOf_18 {X : ga_X} {D : va_G} {cI cZ : ClassId} {K : Nat} {r : Nat} {res : Int} {T : gt_T} {σ : ga_S} (C : ga_C X cX3_roundOf yX3_roundOf wsX3_roundOf [] (gt_rm 1 21) (D, vwCl, cI, cZ) 2) (hRet : ∀ (pc : Nat) (lv : Nat → Option ga_V) (σ' : ga_S) (z : Int), decode cX3_roundOf pc = .ok (.ireturn, 1) → z = res → (σ' = σ) → ga_G X 0 0 K pc lv [.inl z] σ') (hr0 : r ≠ 0) {s0 : Int} {lv : Nat → Option ga_V} (hW : gt_O SX3 3 r T σ) (h : fX3_roundOf_18 T s0 = some res) : ga_G X 0 0 K 18 lv [.inl s0] σ := by
  unfold fX3_roundOf_18 at h
  cases h
  exact hRet _ _ _ _ dX3_roundOf_18 rfl rfl
set_option maxHeartbeats 4000000 in
theorem gX3_roundOf_0 {X : ga_X} {D : va_G} {cI cZ : ClassId} {K : Nat} {r : Nat} {res : Int} {T : gt_T} {σ : ga_S} (C : ga_C X cX3_roundOf yX3_roundOf wsX3_roundOf [] (gt_rm 1 21) (D, vwCl, cI, cZ) 2) (hRet : ∀ (pc : Nat) (lv : Nat → Option ga_V) (σ' : ga_S) (z : Int), decode cX3_roundOf pc = .ok (.ireturn, 1) → z = res → (σ' = σ) → ga_G X 0 0 K pc lv [.inl z] σ') (hr0 : r ≠ 0) {l1 : Int} {lv : Nat → Option ga_V} (hW : gt_O SX3 3 r T σ) (hl0 : lv 0 = some (.inr r)) (hl1 : lv 1 = some (.inl l1)) (h : fX3_roundOf T l1 = some res) : ga_G X 0 0 K 0 lv [] σ := by
  unfold fX3_roundOf at h
  refine ga_aload_n C dX3_roundOf_0 rfl hl0 hr0 ?_
  refine ga_iload_n C dX3_roundOf_1 rfl hl1 ?_
  obtain ⟨q2, hq, h⟩ := Option.bind_eq_some_iff.mp h
  refine gt_cVi (n := 1) (st := []) C (eX3_hasMember X.2.1 D cI cZ K hr0 hW hq) gX3_roundOf_X3_hasMember rfl (by decide +kernel) rfl ⟨Nat.le_of_ble_eq_true rfl, Nat.le_of_ble_eq_true rfl⟩ hW.1 rfl rfl (Nat.le_of_ble_eq_true rfl) rfl dX3_roundOf_2 (fun σ' hp => ?_)
  subst hp
  refine ga_if_eq (tgt := 17) C dX3_roundOf_5 (by decide) (fun c1 => ?_) (fun c1 => ?_)
  · have h := gt_ip h c1
    refine ga_iconst C dX3_roundOf_17 ⟨by decide, by decide⟩ ?_
    exact gX3_roundOf_18 C hRet hr0 hW h
  · have h := gt_in h c1
    obtain ⟨hg, h⟩ := gt_gd h
    have g13_0 := hg
    refine ga_aload_n C dX3_roundOf_8 rfl hl0 hr0 ?_
    refine gt_geta C (iX3_roundOf_X3) hW 1 rfl rfl (by decide) kX3_roundOf_15 dX3_roundOf_9 ?_
    refine ga_iload_n C dX3_roundOf_12 rfl hl1 ?_
    refine gt_iald C hW 1 rfl g13_0.1 g13_0.2 dX3_roundOf_13 ?_
    refine ga_goto (tgt := 18) C dX3_roundOf_14 (by decide) ?_
    exact gX3_roundOf_18 C hRet hr0 hW h
set_option maxHeartbeats 4000000 in
theorem eX3_roundOf (l : Launch) (D : va_G) (cI cZ : ClassId) (K : Nat) {r : Nat} (hr0 : r ≠ 0) {σ : ga_S} {T : gt_T} (hW : gt_O SX3 3 r T σ) {l1 : Int} {res : Int} (h : fX3_roundOf T l1 = some res) : ga_Ev l (D, vwCl, cI, cZ) yX3_roundOf wsX3_roundOf (gt_rm 1 21) [] 0 0 K [.inr r, .inl l1] σ (fun σ' rv => (σ' = σ) ∧ rv = some (.inl res)) := by
  refine ga_ofI (by decide +kernel) rfl gt_hcl (Nat.le_of_ble_eq_true rfl) (fun X hX C hret => ?_)
  exact gX3_roundOf_0 C (fun pc lv σ' z d hz hp => hret pc lv σ' z d ⟨hp, by rw [hz]⟩) hr0 hW rfl rfl h
-- X3_size: size(I)I
def fX3_size_18 (T : gt_T) (s0 : Int) : Option (Int) :=
  some s0
def fX3_size (T : gt_T) (l1 : Int) : Option (Int) :=
  (fX3_hasRound T l1).bind (fun (q2 : Int) => (if q2 = 0 then fX3_size_18 T (0 : Int) else (if (0 ≤ l1 ∧ l1 < 80) then fX3_size_18 T (T.2 3 l1.toNat) else none)))
theorem iX3_size_X3 : ∀ w ∈ u_ws RX3 TX3 6, w ∈ wsX3_size := by decide +kernel
theorem kX3_size_21 : Cond.fieldLink yX3_size.cls 21 (TX3 3).1 (TX3 3).2.1 (TX3 3).2.2.1 ∈ wsX3_size := by decide +kernel
set_option maxHeartbeats 4000000 in
theorem gX3_size_18 {X : ga_X} {D : va_G} {cI cZ : ClassId} {K : Nat} {r : Nat} {res : Int} {T : gt_T} {σ : ga_S} (C : ga_C X cX3_size yX3_size wsX3_size [] (gt_rm 1 21) (D, vwCl, cI, cZ) 2) (hRet : ∀ (pc : Nat) (lv : Nat → Option ga_V) (σ' : ga_S) (z : Int), decode cX3_size pc = .ok (.ireturn, 1) → z = res → (σ' = σ) → ga_G X 0 0 K pc lv [.inl z] σ') (hr0 : r ≠ 0) {s0 : Int} {lv : Nat → Option ga_V} (hW : gt_O SX3 3 r T σ) (h : fX3_size_18 T s0 = some res) : ga_G X 0 0 K 18 lv [.inl s0] σ := by
  unfold fX3_size_18 at h
  cases h
  exact hRet _ _ _ _ dX3_size_18 rfl rfl
set_option maxHeartbeats 4000000 in
theorem gX3_size_0 {X : ga_X} {D : va_G} {cI cZ : ClassId} {K : Nat} {r : Nat} {res : Int} {T : gt_T} {σ : ga_S} (C : ga_C X cX3_size yX3_size wsX3_size [] (gt_rm 1 21) (D, vwCl, cI, cZ) 2) (hRet : ∀ (pc : Nat) (lv : Nat → Option ga_V) (σ' : ga_S) (z : Int), decode cX3_size pc = .ok (.ireturn, 1) → z = res → (σ' = σ) → ga_G X 0 0 K pc lv [.inl z] σ') (hr0 : r ≠ 0) {l1 : Int} {lv : Nat → Option ga_V} (hW : gt_O SX3 3 r T σ) (hl0 : lv 0 = some (.inr r)) (hl1 : lv 1 = some (.inl l1)) (h : fX3_size T l1 = some res) : ga_G X 0 0 K 0 lv [] σ := by
  unfold fX3_size at h
  refine ga_aload_n C dX3_size_0 rfl hl0 hr0 ?_
  refine ga_iload_n C dX3_size_1 rfl hl1 ?_
  obtain ⟨q2, hq, h⟩ := Option.bind_eq_some_iff.mp h
  refine gt_cVi (n := 1) (st := []) C (eX3_hasRound X.2.1 D cI cZ K hr0 hW hq) gX3_size_X3_hasRound rfl (by decide +kernel) rfl ⟨Nat.le_of_ble_eq_true rfl, Nat.le_of_ble_eq_true rfl⟩ hW.1 rfl rfl (Nat.le_of_ble_eq_true rfl) rfl dX3_size_2 (fun σ' hp => ?_)
  subst hp
  refine ga_if_eq (tgt := 17) C dX3_size_5 (by decide) (fun c1 => ?_) (fun c1 => ?_)
  · have h := gt_ip h c1
    refine ga_iconst C dX3_size_17 ⟨by decide, by decide⟩ ?_
    exact gX3_size_18 C hRet hr0 hW h
  · have h := gt_in h c1
    obtain ⟨hg, h⟩ := gt_gd h
    have g13_0 := hg
    refine ga_aload_n C dX3_size_8 rfl hl0 hr0 ?_
    refine gt_geta C (iX3_size_X3) hW 3 rfl rfl (by decide) kX3_size_21 dX3_size_9 ?_
    refine ga_iload_n C dX3_size_12 rfl hl1 ?_
    refine gt_iald C hW 3 rfl g13_0.1 g13_0.2 dX3_size_13 ?_
    refine ga_goto (tgt := 18) C dX3_size_14 (by decide) ?_
    exact gX3_size_18 C hRet hr0 hW h
set_option maxHeartbeats 4000000 in
theorem eX3_size (l : Launch) (D : va_G) (cI cZ : ClassId) (K : Nat) {r : Nat} (hr0 : r ≠ 0) {σ : ga_S} {T : gt_T} (hW : gt_O SX3 3 r T σ) {l1 : Int} {res : Int} (h : fX3_size T l1 = some res) : ga_Ev l (D, vwCl, cI, cZ) yX3_size wsX3_size (gt_rm 1 21) [] 0 0 K [.inr r, .inl l1] σ (fun σ' rv => (σ' = σ) ∧ rv = some (.inl res)) := by
  refine ga_ofI (by decide +kernel) rfl gt_hcl (Nat.le_of_ble_eq_true rfl) (fun X hX C hret => ?_)
  exact gX3_size_0 C (fun pc lv σ' z d hz hp => hret pc lv σ' z d ⟨hp, by rw [hz]⟩) hr0 hW rfl rfl h
-- X3_member: member(II)I
def fX3_member_34 (T : gt_T) (l3 : Int) : Option (Int) :=
  some l3
def fX3_member_9 (T : gt_T) (k9 : Int × Int × Int → Option (Int)) (a : Int × Int × Int) : Option (Int) :=
  (if a.1 ≤ a.2.2 then fX3_member_34 T a.2.1 else (if (80 : Int) ≤ a.2.2 then fX3_member_34 T a.2.1 else (fX3_next T a.2.1).bind (fun (q24 : Int) => (if (-2147483648 ≤ a.2.2 + (1 : Int) ∧ a.2.2 + (1 : Int) < 2147483648) then k9 (a.1, q24, a.2.2 + (1 : Int)) else none))))
def fX3_member (T : gt_T) (l1 l2 : Int) : Option (Int) :=
  (fX3_first T l1).bind (fun (q2 : Int) => gt_loop (fX3_member_9 T) gt_fuel (l2, q2, (0 : Int)))
set_option maxHeartbeats 4000000 in
theorem gX3_member_34 {X : ga_X} {D : va_G} {cI cZ : ClassId} {K : Nat} {r : Nat} {res : Int} {T : gt_T} {σ : ga_S} (C : ga_C X cX3_member yX3_member wsX3_member [] (gt_rm 2 42) (D, vwCl, cI, cZ) 5) (hRet : ∀ (pc : Nat) (lv : Nat → Option ga_V) (σ' : ga_S) (z : Int), decode cX3_member pc = .ok (.ireturn, 1) → z = res → (σ' = σ) → ga_G X 0 0 K pc lv [.inl z] σ') (hr0 : r ≠ 0) {l3 : Int} {lv : Nat → Option ga_V} (hW : gt_O SX3 3 r T σ) (hl3 : lv 3 = some (.inl l3)) (h : fX3_member_34 T l3 = some res) : ga_G X 0 0 K 34 lv [] σ := by
  unfold fX3_member_34 at h
  refine ga_iload_n C dX3_member_34 rfl hl3 ?_
  cases h
  exact hRet _ _ _ _ dX3_member_35 rfl rfl
set_option maxHeartbeats 4000000 in
theorem gX3_member_9 {X : ga_X} {D : va_G} {cI cZ : ClassId} {K : Nat} {r : Nat} {res : Int} {T : gt_T} {σ : ga_S} (C : ga_C X cX3_member yX3_member wsX3_member [] (gt_rm 2 42) (D, vwCl, cI, cZ) 5) (hRet : ∀ (pc : Nat) (lv : Nat → Option ga_V) (σ' : ga_S) (z : Int), decode cX3_member pc = .ok (.ireturn, 1) → z = res → (σ' = σ) → ga_G X 0 0 K pc lv [.inl z] σ') (hr0 : r ≠ 0) : ∀ (n : Nat) (a : Int × Int × Int) (lv : Nat → Option ga_V), gt_O SX3 3 r T σ → lv 0 = some (.inr r) → lv 2 = some (.inl a.1) → lv 3 = some (.inl a.2.1) → lv 4 = some (.inl a.2.2) → gt_loop (fX3_member_9 T) n a = some res → ga_G X 0 0 K 9 lv [] σ := by
  intro n
  induction n with
  | zero =>
    intro a lv _ _ _ _ _ h
    exact absurd (show (none : Option _) = some _ from h) (fun q => by cases q)
  | succ n hk9 =>
    intro a lv hW hl0 hl2 hl3 hl4 h
    have h : fX3_member_9 T (gt_loop (fX3_member_9 T) n) a = some res := h
    revert hk9 h
    generalize gt_loop (fX3_member_9 T) n = k9
    intro hk9 h
    unfold fX3_member_9 at h
    refine ga_iload C dX3_member_9 hl4 ?_
    refine ga_iload_n C dX3_member_11 rfl hl2 ?_
    refine ga_icmp_ge (tgt := 34) C dX3_member_12 (by decide) (fun c1 => ?_) (fun c1 => ?_)
    · have h := gt_ip h c1
      exact gX3_member_34 C hRet hr0 hW hl3 h
    · have h := gt_in h c1
      refine ga_iload C dX3_member_15 hl4 ?_
      refine ga_bipush C dX3_member_17 ⟨by decide, by decide⟩ (by decide) ?_
      refine ga_icmp_ge (tgt := 34) C dX3_member_19 (by decide) (fun c1 => ?_) (fun c1 => ?_)
      · have h := gt_ip h c1
        exact gX3_member_34 C hRet hr0 hW hl3 h
      · have h := gt_in h c1
        refine ga_aload_n C dX3_member_22 rfl hl0 hr0 ?_
        refine ga_iload_n C dX3_member_23 rfl hl3 ?_
        obtain ⟨q24, hq, h⟩ := Option.bind_eq_some_iff.mp h
        refine gt_cVi (n := 1) (st := []) C (eX3_next X.2.1 D cI cZ K hr0 hW hq) gX3_member_X3_next rfl (by decide +kernel) rfl ⟨Nat.le_of_ble_eq_true rfl, Nat.le_of_ble_eq_true rfl⟩ hW.1 rfl rfl (Nat.le_of_ble_eq_true rfl) rfl dX3_member_24 (fun σ' hp => ?_)
        subst hp
        obtain ⟨hg, h⟩ := gt_gd h
        have g28_0 := hg
        refine ga_istore_n C dX3_member_27 rfl (by decide) ?_
        refine ga_iinc C dX3_member_28 (gt_un (by decide) hl4) g28_0 ?_
        refine ga_goto (tgt := 9) C dX3_member_31 (by decide) ?_
        exact hk9 (a.1, q24, a.2.2 + (1 : Int)) _ hW (gt_un (by decide) (gt_un (by decide) hl0)) (gt_un (by decide) (gt_un (by decide) hl2)) (gt_un (by decide) gt_us) gt_us h
set_option maxHeartbeats 4000000 in
theorem gX3_member_0 {X : ga_X} {D : va_G} {cI cZ : ClassId} {K : Nat} {r : Nat} {res : Int} {T : gt_T} {σ : ga_S} (C : ga_C X cX3_member yX3_member wsX3_member [] (gt_rm 2 42) (D, vwCl, cI, cZ) 5) (hRet : ∀ (pc : Nat) (lv : Nat → Option ga_V) (σ' : ga_S) (z : Int), decode cX3_member pc = .ok (.ireturn, 1) → z = res → (σ' = σ) → ga_G X 0 0 K pc lv [.inl z] σ') (hr0 : r ≠ 0) {l1 l2 : Int} {lv : Nat → Option ga_V} (hW : gt_O SX3 3 r T σ) (hl0 : lv 0 = some (.inr r)) (hl1 : lv 1 = some (.inl l1)) (hl2 : lv 2 = some (.inl l2)) (h : fX3_member T l1 l2 = some res) : ga_G X 0 0 K 0 lv [] σ := by
  unfold fX3_member at h
  refine ga_aload_n C dX3_member_0 rfl hl0 hr0 ?_
  refine ga_iload_n C dX3_member_1 rfl hl1 ?_
  obtain ⟨q2, hq, h⟩ := Option.bind_eq_some_iff.mp h
  refine gt_cVi (n := 1) (st := []) C (eX3_first X.2.1 D cI cZ K hr0 hW hq) gX3_member_X3_first rfl (by decide +kernel) rfl ⟨Nat.le_of_ble_eq_true rfl, Nat.le_of_ble_eq_true rfl⟩ hW.1 rfl rfl (Nat.le_of_ble_eq_true rfl) rfl dX3_member_2 (fun σ' hp => ?_)
  subst hp
  refine ga_istore_n C dX3_member_5 rfl (by decide) ?_
  refine ga_iconst C dX3_member_6 ⟨by decide, by decide⟩ ?_
  refine ga_istore C dX3_member_7 (by decide) ?_
  exact gX3_member_9 C hRet hr0 gt_fuel (l2, q2, (0 : Int)) _ hW (gt_un (by decide) (gt_un (by decide) hl0)) (gt_un (by decide) (gt_un (by decide) hl2)) (gt_un (by decide) gt_us) gt_us h
set_option maxHeartbeats 4000000 in
theorem eX3_member (l : Launch) (D : va_G) (cI cZ : ClassId) (K : Nat) {r : Nat} (hr0 : r ≠ 0) {σ : ga_S} {T : gt_T} (hW : gt_O SX3 3 r T σ) {l1 l2 : Int} {res : Int} (h : fX3_member T l1 l2 = some res) : ga_Ev l (D, vwCl, cI, cZ) yX3_member wsX3_member (gt_rm 2 42) [] 0 0 K [.inr r, .inl l1, .inl l2] σ (fun σ' rv => (σ' = σ) ∧ rv = some (.inl res)) := by
  refine ga_ofI (by decide +kernel) rfl gt_hcl (Nat.le_of_ble_eq_true rfl) (fun X hX C hret => ?_)
  exact gX3_member_0 C (fun pc lv σ' z d hz hp => hret pc lv σ' z d ⟨hp, by rw [hz]⟩) hr0 hW rfl rfl rfl h
