-- X2_begin: begin(I)V
def fX2_begin_12 (k12 : gt_T × Int → Option (gt_T)) (a : gt_T × Int) : Option (gt_T) :=
  (if (a.1.1 2) ≤ a.2 then some a.1 else (if (0 ≤ a.2 ∧ a.2 < 40) ∧ (-2147483648 ≤ a.2 + (1 : Int) ∧ a.2 + (1 : Int) < 2147483648) then k12 ((a.1.1, (va_up a.1.2 0 (va_up (a.1.2 0) a.2.toNat a.2))), a.2 + (1 : Int)) else none))
def fX2_begin (T : gt_T) (l1 : Int) : Option (gt_T) :=
  gt_loop (fX2_begin_12) gt_fuel (((va_up T.1 2 (min l1 (40 : Int))), T.2), (0 : Int))
theorem iX2_begin_X2 : ∀ w ∈ u_ws RX2 TX2 4, w ∈ wsX2_begin := by decide +kernel
theorem kX2_begin_9 : Cond.fieldLink yX2_begin.cls 9 (TX2 0).1 (TX2 0).2.1 (TX2 0).2.2.1 ∈ wsX2_begin := by decide +kernel
theorem kX2_begin_18 : Cond.fieldLink yX2_begin.cls 18 (TX2 2).1 (TX2 2).2.1 (TX2 2).2.2.1 ∈ wsX2_begin := by decide +kernel
set_option maxHeartbeats 4000000 in
theorem gX2_begin_12 {X : ga_X} {D : va_G} {cI cZ : ClassId} {K : Nat} {r : Nat} {σ0 : ga_S} {res : gt_T} (C : ga_C X cX2_begin yX2_begin wsX2_begin [] (gt_rm 1 21) (D, vwCl, cI, cZ) 3) (hRet : ∀ (pc : Nat) (lv : Nat → Option ga_V) (σ' : ga_S), decode cX2_begin pc = .ok (.return_, 1) → (gt_O SX2 2 r res σ' ∧ gt_F r (r + 3) σ0 σ') → ga_G X 0 0 K pc lv [] σ') (hr0 : r ≠ 0) : ∀ (n : Nat) (a : gt_T × Int) (σ : ga_S) (lv : Nat → Option ga_V), gt_O SX2 2 r a.1 σ → gt_F r (r + 3) σ0 σ → lv 0 = some (.inr r) → lv 2 = some (.inl a.2) → gt_loop (fX2_begin_12) n a = some res → ga_G X 0 0 K 12 lv [] σ := by
  intro n
  induction n with
  | zero =>
    intro a _ lv _ _ _ _ h
    exact absurd (show (none : Option _) = some _ from h) (fun q => by cases q)
  | succ n hk12 =>
    intro a σ lv hW hF hl0 hl2 h
    have h : fX2_begin_12 (gt_loop (fX2_begin_12) n) a = some res := h
    revert hk12 h
    generalize gt_loop (fX2_begin_12) n = k12
    intro hk12 h
    unfold fX2_begin_12 at h
    refine ga_iload_n C dX2_begin_12 rfl hl2 ?_
    refine ga_aload_n C dX2_begin_13 rfl hl0 hr0 ?_
    refine gt_geti C (iX2_begin_X2) hW 2 rfl rfl (by decide) kX2_begin_18 dX2_begin_14 ?_
    refine ga_icmp_ge (tgt := 33) C dX2_begin_17 (by decide) (fun c1 => ?_) (fun c1 => ?_)
    · have h := gt_ip h c1
      cases h
      exact hRet _ _ _ dX2_begin_33 ⟨hW, hF⟩
    · have h := gt_in h c1
      obtain ⟨hg, h⟩ := gt_gd h
      obtain ⟨g26_0, g27_1⟩ := hg
      refine ga_aload_n C dX2_begin_20 rfl hl0 hr0 ?_
      refine gt_geta C (iX2_begin_X2) hW 0 rfl rfl (by decide) kX2_begin_9 dX2_begin_21 ?_
      refine ga_iload_n C dX2_begin_24 rfl hl2 ?_
      refine ga_iload_n C dX2_begin_25 rfl hl2 ?_
      refine gt_iast C okX2 hW hF ⟨Nat.le_refl _, Nat.le_refl _⟩ 0 rfl g26_0.1 g26_0.2 dX2_begin_26 (fun σ hW hF hf => ?_)
      refine ga_iinc C dX2_begin_27 hl2 g27_1 ?_
      refine ga_goto (tgt := 12) C dX2_begin_30 (by decide) ?_
      exact hk12 ((a.1.1, (va_up a.1.2 0 (va_up (a.1.2 0) a.2.toNat a.2))), a.2 + (1 : Int)) _ _ hW hF (gt_un (by decide) hl0) gt_us h
set_option maxHeartbeats 4000000 in
theorem gX2_begin_0 {X : ga_X} {D : va_G} {cI cZ : ClassId} {K : Nat} {r : Nat} {σ0 : ga_S} {res : gt_T} (C : ga_C X cX2_begin yX2_begin wsX2_begin [] (gt_rm 1 21) (D, vwCl, cI, cZ) 3) (hRet : ∀ (pc : Nat) (lv : Nat → Option ga_V) (σ' : ga_S), decode cX2_begin pc = .ok (.return_, 1) → (gt_O SX2 2 r res σ' ∧ gt_F r (r + 3) σ0 σ') → ga_G X 0 0 K pc lv [] σ') (hr0 : r ≠ 0) {T : gt_T} {σ : ga_S} {l1 : Int} {lv : Nat → Option ga_V} (hW : gt_O SX2 2 r T σ) (hF : gt_F r (r + 3) σ0 σ) (hl0 : lv 0 = some (.inr r)) (hl1 : lv 1 = some (.inl l1)) (h : fX2_begin T l1 = some res) : ga_G X 0 0 K 0 lv [] σ := by
  unfold fX2_begin at h
  refine ga_aload_n C dX2_begin_0 rfl hl0 hr0 ?_
  refine ga_iload_n C dX2_begin_1 rfl hl1 ?_
  refine ga_bipush C dX2_begin_2 ⟨by decide, by decide⟩ (by decide) ?_
  refine gt_mmin C (by decide +kernel) (by decide +kernel) (by decide +kernel) (by decide +kernel) ⟨Nat.le_of_ble_eq_true rfl, Nat.le_of_ble_eq_true rfl, Nat.le_of_ble_eq_true rfl, Nat.le_of_ble_eq_true rfl⟩ dX2_begin_4 ?_
  refine gt_puti C okX2 (by decide) (iX2_begin_X2) tyX2 tyX2_ok nmX2 hW hF ⟨Nat.le_refl _, Nat.le_refl _⟩ 2 rfl rfl (by decide) kX2_begin_18 rfl (by decide +kernel) dX2_begin_7 (fun σ hW hF hf => ?_)
  refine ga_iconst C dX2_begin_10 ⟨by decide, by decide⟩ ?_
  refine ga_istore_n C dX2_begin_11 rfl (by decide) ?_
  exact gX2_begin_12 C hRet hr0 gt_fuel (((va_up T.1 2 (min l1 (40 : Int))), T.2), (0 : Int)) _ _ hW hF (gt_un (by decide) hl0) gt_us h
set_option maxHeartbeats 4000000 in
theorem eX2_begin (l : Launch) (D : va_G) (cI cZ : ClassId) (K : Nat) {r : Nat} (hr0 : r ≠ 0) {σ : ga_S} {T : gt_T} (hW : gt_O SX2 2 r T σ) {l1 : Int} {res : gt_T} (h : fX2_begin T l1 = some res) : ga_Ev l (D, vwCl, cI, cZ) yX2_begin wsX2_begin (gt_rm 1 21) [] 0 0 K [.inr r, .inl l1] σ (fun σ' rv => (gt_O SX2 2 r res σ' ∧ gt_F r (r + 3) σ σ') ∧ rv = none) := by
  refine ga_ofV (by decide +kernel) rfl gt_hcl (Nat.le_of_ble_eq_true rfl) (fun X hX C hret => ?_)
  exact gX2_begin_0 C (fun pc lv σ' d hp => hret pc lv σ' d ⟨hp, rfl⟩) hr0 hW gt_F.rf rfl rfl h
-- X2_hasMember: hasMember(I)Z
def fX2_hasMember_17 (T : gt_T) (s0 : Int) : Option (Int) :=
  (if (s0 = 0 ∨ s0 = 1) then some s0 else none)
def fX2_hasMember_16 (T : gt_T) : Option (Int) :=
  fX2_hasMember_17 T (0 : Int)
def fX2_hasMember (T : gt_T) (l1 : Int) : Option (Int) :=
  (if l1 < 0 then fX2_hasMember_16 T else (if (T.1 2) ≤ l1 then fX2_hasMember_16 T else fX2_hasMember_17 T (1 : Int)))
theorem iX2_hasMember_X2 : ∀ w ∈ u_ws RX2 TX2 4, w ∈ wsX2_hasMember := by decide +kernel
theorem kX2_hasMember_18 : Cond.fieldLink yX2_hasMember.cls 18 (TX2 2).1 (TX2 2).2.1 (TX2 2).2.2.1 ∈ wsX2_hasMember := by decide +kernel
set_option maxHeartbeats 4000000 in
theorem gX2_hasMember_17 {X : ga_X} {D : va_G} {cI cZ : ClassId} {K : Nat} {r : Nat} {res : Int} {T : gt_T} {σ : ga_S} (C : ga_C X cX2_hasMember yX2_hasMember wsX2_hasMember [] (gt_rm 0 0) (D, vwCl, cI, cZ) 2) (hRet : ∀ (pc : Nat) (lv : Nat → Option ga_V) (σ' : ga_S) (z : Int), decode cX2_hasMember pc = .ok (.ireturn, 1) → (z = 0 ∨ z = 1) → z = res → (σ' = σ) → ga_G X 0 0 K pc lv [.inl z] σ') (hr0 : r ≠ 0) {s0 : Int} {lv : Nat → Option ga_V} (hW : gt_O SX2 2 r T σ) (h : fX2_hasMember_17 T s0 = some res) : ga_G X 0 0 K 17 lv [.inl s0] σ := by
  unfold fX2_hasMember_17 at h
  obtain ⟨hg, h⟩ := gt_gd h
  have g17_0 := hg
  cases h
  exact hRet _ _ _ _ dX2_hasMember_17 g17_0 rfl rfl
set_option maxHeartbeats 4000000 in
theorem gX2_hasMember_16 {X : ga_X} {D : va_G} {cI cZ : ClassId} {K : Nat} {r : Nat} {res : Int} {T : gt_T} {σ : ga_S} (C : ga_C X cX2_hasMember yX2_hasMember wsX2_hasMember [] (gt_rm 0 0) (D, vwCl, cI, cZ) 2) (hRet : ∀ (pc : Nat) (lv : Nat → Option ga_V) (σ' : ga_S) (z : Int), decode cX2_hasMember pc = .ok (.ireturn, 1) → (z = 0 ∨ z = 1) → z = res → (σ' = σ) → ga_G X 0 0 K pc lv [.inl z] σ') (hr0 : r ≠ 0) {lv : Nat → Option ga_V} (hW : gt_O SX2 2 r T σ) (h : fX2_hasMember_16 T = some res) : ga_G X 0 0 K 16 lv [] σ := by
  unfold fX2_hasMember_16 at h
  refine ga_iconst C dX2_hasMember_16 ⟨by decide, by decide⟩ ?_
  exact gX2_hasMember_17 C hRet hr0 hW h
set_option maxHeartbeats 4000000 in
theorem gX2_hasMember_0 {X : ga_X} {D : va_G} {cI cZ : ClassId} {K : Nat} {r : Nat} {res : Int} {T : gt_T} {σ : ga_S} (C : ga_C X cX2_hasMember yX2_hasMember wsX2_hasMember [] (gt_rm 0 0) (D, vwCl, cI, cZ) 2) (hRet : ∀ (pc : Nat) (lv : Nat → Option ga_V) (σ' : ga_S) (z : Int), decode cX2_hasMember pc = .ok (.ireturn, 1) → (z = 0 ∨ z = 1) → z = res → (σ' = σ) → ga_G X 0 0 K pc lv [.inl z] σ') (hr0 : r ≠ 0) {l1 : Int} {lv : Nat → Option ga_V} (hW : gt_O SX2 2 r T σ) (hl0 : lv 0 = some (.inr r)) (hl1 : lv 1 = some (.inl l1)) (h : fX2_hasMember T l1 = some res) : ga_G X 0 0 K 0 lv [] σ := by
  unfold fX2_hasMember at h
  refine ga_iload_n C dX2_hasMember_0 rfl hl1 ?_
  refine ga_if_lt (tgt := 16) C dX2_hasMember_1 (by decide) (fun c1 => ?_) (fun c1 => ?_)
  · have h := gt_ip h c1
    exact gX2_hasMember_16 C hRet hr0 hW h
  · have h := gt_in h c1
    refine ga_iload_n C dX2_hasMember_4 rfl hl1 ?_
    refine ga_aload_n C dX2_hasMember_5 rfl hl0 hr0 ?_
    refine gt_geti C (iX2_hasMember_X2) hW 2 rfl rfl (by decide) kX2_hasMember_18 dX2_hasMember_6 ?_
    refine ga_icmp_ge (tgt := 16) C dX2_hasMember_9 (by decide) (fun c1 => ?_) (fun c1 => ?_)
    · have h := gt_ip h c1
      exact gX2_hasMember_16 C hRet hr0 hW h
    · have h := gt_in h c1
      refine ga_iconst C dX2_hasMember_12 ⟨by decide, by decide⟩ ?_
      refine ga_goto (tgt := 17) C dX2_hasMember_13 (by decide) ?_
      exact gX2_hasMember_17 C hRet hr0 hW h
set_option maxHeartbeats 4000000 in
theorem eX2_hasMember (l : Launch) (D : va_G) (cI cZ : ClassId) (K : Nat) {r : Nat} (hr0 : r ≠ 0) {σ : ga_S} {T : gt_T} (hW : gt_O SX2 2 r T σ) {l1 : Int} {res : Int} (h : fX2_hasMember T l1 = some res) : ga_Ev l (D, vwCl, cI, cZ) yX2_hasMember wsX2_hasMember (gt_rm 0 0) [] 0 0 K [.inr r, .inl l1] σ (fun σ' rv => (σ' = σ) ∧ rv = some (.inl res)) := by
  refine ga_ofZ (by decide +kernel) rfl gt_hcl (Nat.le_of_ble_eq_true rfl) (fun X hX C hret => ?_)
  exact gX2_hasMember_0 C (fun pc lv σ' z d h01 hz hp => hret pc lv σ' z d h01 ⟨hp, by rw [hz]⟩) hr0 hW rfl rfl h
-- X2_least: least(I)I
def fX2_least_18 (T : gt_T) (s0 : Int) : Option (Int) :=
  some s0
def fX2_least (T : gt_T) (l1 : Int) : Option (Int) :=
  (fX2_hasMember T l1).bind (fun (q2 : Int) => (if q2 = 0 then fX2_least_18 T (-1 : Int) else (if (0 ≤ l1 ∧ l1 < 40) then fX2_least_18 T (T.2 0 l1.toNat) else none)))
theorem iX2_least_X2 : ∀ w ∈ u_ws RX2 TX2 4, w ∈ wsX2_least := by decide +kernel
theorem kX2_least_9 : Cond.fieldLink yX2_least.cls 9 (TX2 0).1 (TX2 0).2.1 (TX2 0).2.2.1 ∈ wsX2_least := by decide +kernel
set_option maxHeartbeats 4000000 in
theorem gX2_least_18 {X : ga_X} {D : va_G} {cI cZ : ClassId} {K : Nat} {r : Nat} {res : Int} {T : gt_T} {σ : ga_S} (C : ga_C X cX2_least yX2_least wsX2_least [] (gt_rm 1 21) (D, vwCl, cI, cZ) 2) (hRet : ∀ (pc : Nat) (lv : Nat → Option ga_V) (σ' : ga_S) (z : Int), decode cX2_least pc = .ok (.ireturn, 1) → z = res → (σ' = σ) → ga_G X 0 0 K pc lv [.inl z] σ') (hr0 : r ≠ 0) {s0 : Int} {lv : Nat → Option ga_V} (hW : gt_O SX2 2 r T σ) (h : fX2_least_18 T s0 = some res) : ga_G X 0 0 K 18 lv [.inl s0] σ := by
  unfold fX2_least_18 at h
  cases h
  exact hRet _ _ _ _ dX2_least_18 rfl rfl
set_option maxHeartbeats 4000000 in
theorem gX2_least_0 {X : ga_X} {D : va_G} {cI cZ : ClassId} {K : Nat} {r : Nat} {res : Int} {T : gt_T} {σ : ga_S} (C : ga_C X cX2_least yX2_least wsX2_least [] (gt_rm 1 21) (D, vwCl, cI, cZ) 2) (hRet : ∀ (pc : Nat) (lv : Nat → Option ga_V) (σ' : ga_S) (z : Int), decode cX2_least pc = .ok (.ireturn, 1) → z = res → (σ' = σ) → ga_G X 0 0 K pc lv [.inl z] σ') (hr0 : r ≠ 0) {l1 : Int} {lv : Nat → Option ga_V} (hW : gt_O SX2 2 r T σ) (hl0 : lv 0 = some (.inr r)) (hl1 : lv 1 = some (.inl l1)) (h : fX2_least T l1 = some res) : ga_G X 0 0 K 0 lv [] σ := by
  unfold fX2_least at h
  refine ga_aload_n C dX2_least_0 rfl hl0 hr0 ?_
  refine ga_iload_n C dX2_least_1 rfl hl1 ?_
  obtain ⟨q2, hq, h⟩ := Option.bind_eq_some_iff.mp h
  refine gt_cVi (n := 1) (st := []) C (eX2_hasMember X.2.1 D cI cZ K hr0 hW hq) gX2_least_X2_hasMember rfl (by decide +kernel) rfl ⟨Nat.le_of_ble_eq_true rfl, Nat.le_of_ble_eq_true rfl⟩ hW.1 rfl rfl (Nat.le_of_ble_eq_true rfl) rfl dX2_least_2 (fun σ' hp => ?_)
  subst hp
  refine ga_if_eq (tgt := 17) C dX2_least_5 (by decide) (fun c1 => ?_) (fun c1 => ?_)
  · have h := gt_ip h c1
    refine ga_iconst C dX2_least_17 ⟨by decide, by decide⟩ ?_
    exact gX2_least_18 C hRet hr0 hW h
  · have h := gt_in h c1
    obtain ⟨hg, h⟩ := gt_gd h
    have g13_0 := hg
    refine ga_aload_n C dX2_least_8 rfl hl0 hr0 ?_
    refine gt_geta C (iX2_least_X2) hW 0 rfl rfl (by decide) kX2_least_9 dX2_least_9 ?_
    refine ga_iload_n C dX2_least_12 rfl hl1 ?_
    refine gt_iald C hW 0 rfl g13_0.1 g13_0.2 dX2_least_13 ?_
    refine ga_goto (tgt := 18) C dX2_least_14 (by decide) ?_
    exact gX2_least_18 C hRet hr0 hW h
set_option maxHeartbeats 4000000 in
theorem eX2_least (l : Launch) (D : va_G) (cI cZ : ClassId) (K : Nat) {r : Nat} (hr0 : r ≠ 0) {σ : ga_S} {T : gt_T} (hW : gt_O SX2 2 r T σ) {l1 : Int} {res : Int} (h : fX2_least T l1 = some res) : ga_Ev l (D, vwCl, cI, cZ) yX2_least wsX2_least (gt_rm 1 21) [] 0 0 K [.inr r, .inl l1] σ (fun σ' rv => (σ' = σ) ∧ rv = some (.inl res)) := by
  refine ga_ofI (by decide +kernel) rfl gt_hcl (Nat.le_of_ble_eq_true rfl) (fun X hX C hret => ?_)
  exact gX2_least_0 C (fun pc lv σ' z d hz hp => hret pc lv σ' z d ⟨hp, by rw [hz]⟩) hr0 hW rfl rfl h
-- X2_join: join(II)V
def fX2_join_39 (T : gt_T) : Option (gt_T) :=
  some T
def fX2_join_72 (k43 : gt_T × Int × Int × Int → Option (gt_T)) (T : gt_T) (l3 l4 l5 : Int) : Option (gt_T) :=
  (if (-2147483648 ≤ l5 + (1 : Int) ∧ l5 + (1 : Int) < 2147483648) then k43 (T, l3, l4, l5 + (1 : Int)) else none)
def fX2_join_43 (k43 : gt_T × Int × Int × Int → Option (gt_T)) (a : gt_T × Int × Int × Int) : Option (gt_T) :=
  (if (a.1.1 2) ≤ a.2.2.2 then some a.1 else (if (0 ≤ a.2.2.2 ∧ a.2.2.2 < 40) then (if (a.1.2 0 a.2.2.2.toNat) = a.2.2.1 then (if (0 ≤ a.2.2.2 ∧ a.2.2.2 < 40) then fX2_join_72 k43 (a.1.1, (va_up a.1.2 0 (va_up (a.1.2 0) a.2.2.2.toNat a.2.1))) a.2.1 a.2.2.1 a.2.2.2 else none) else fX2_join_72 k43 a.1 a.2.1 a.2.2.1 a.2.2.2) else none))
def fX2_join (T : gt_T) (l1 l2 : Int) : Option (gt_T) :=
  (fX2_least T l1).bind (fun (q2 : Int) => (fX2_least T l2).bind (fun (q7 : Int) => (fX2_least T l1).bind (fun (q16 : Int) => (fX2_least T l2).bind (fun (q21 : Int) => (if (min q2 q7) < 0 then fX2_join_39 T else (if (min q2 q7) = (max q16 q21) then fX2_join_39 T else gt_loop (fX2_join_43) gt_fuel (T, min q2 q7, max q16 q21, (0 : Int))))))))
theorem iX2_join_X2 : ∀ w ∈ u_ws RX2 TX2 4, w ∈ wsX2_join := by decide +kernel
theorem kX2_join_9 : Cond.fieldLink yX2_join.cls 9 (TX2 0).1 (TX2 0).2.1 (TX2 0).2.2.1 ∈ wsX2_join := by decide +kernel
theorem kX2_join_18 : Cond.fieldLink yX2_join.cls 18 (TX2 2).1 (TX2 2).2.1 (TX2 2).2.2.1 ∈ wsX2_join := by decide +kernel
set_option maxHeartbeats 4000000 in
theorem gX2_join_39 {X : ga_X} {D : va_G} {cI cZ : ClassId} {K : Nat} {r : Nat} {σ0 : ga_S} {res : gt_T} (C : ga_C X cX2_join yX2_join wsX2_join [] (gt_rm 2 42) (D, vwCl, cI, cZ) 6) (hRet : ∀ (pc : Nat) (lv : Nat → Option ga_V) (σ' : ga_S), decode cX2_join pc = .ok (.return_, 1) → (gt_O SX2 2 r res σ' ∧ gt_F r (r + 3) σ0 σ') → ga_G X 0 0 K pc lv [] σ') (hr0 : r ≠ 0) {T : gt_T} {σ : ga_S} {lv : Nat → Option ga_V} (hW : gt_O SX2 2 r T σ) (hF : gt_F r (r + 3) σ0 σ) (h : fX2_join_39 T = some res) : ga_G X 0 0 K 39 lv [] σ := by
  unfold fX2_join_39 at h
  cases h
  exact hRet _ _ _ dX2_join_39 ⟨hW, hF⟩
set_option maxHeartbeats 4000000 in
theorem gX2_join_72 {X : ga_X} {D : va_G} {cI cZ : ClassId} {K : Nat} {r : Nat} {σ0 : ga_S} {res : gt_T} {k43 : gt_T × Int × Int × Int → Option (gt_T)} (C : ga_C X cX2_join yX2_join wsX2_join [] (gt_rm 2 42) (D, vwCl, cI, cZ) 6) (hRet : ∀ (pc : Nat) (lv : Nat → Option ga_V) (σ' : ga_S), decode cX2_join pc = .ok (.return_, 1) → (gt_O SX2 2 r res σ' ∧ gt_F r (r + 3) σ0 σ') → ga_G X 0 0 K pc lv [] σ') (hr0 : r ≠ 0) (hk43 : ∀ (a : gt_T × Int × Int × Int) (σ : ga_S) (lv : Nat → Option ga_V), gt_O SX2 2 r a.1 σ → gt_F r (r + 3) σ0 σ → lv 0 = some (.inr r) → lv 3 = some (.inl a.2.1) → lv 4 = some (.inl a.2.2.1) → lv 5 = some (.inl a.2.2.2) → k43 a = some res → ga_G X 0 0 K 43 lv [] σ) {T : gt_T} {σ : ga_S} {l3 l4 l5 : Int} {lv : Nat → Option ga_V} (hW : gt_O SX2 2 r T σ) (hF : gt_F r (r + 3) σ0 σ) (hl0 : lv 0 = some (.inr r)) (hl3 : lv 3 = some (.inl l3)) (hl4 : lv 4 = some (.inl l4)) (hl5 : lv 5 = some (.inl l5)) (h : fX2_join_72 k43 T l3 l4 l5 = some res) : ga_G X 0 0 K 72 lv [] σ := by
  unfold fX2_join_72 at h
  obtain ⟨hg, h⟩ := gt_gd h
  have g72_0 := hg
  refine ga_iinc C dX2_join_72 hl5 g72_0 ?_
  refine ga_goto (tgt := 43) C dX2_join_75 (by decide) ?_
  exact hk43 (T, l3, l4, l5 + (1 : Int)) _ _ hW hF (gt_un (by decide) hl0) (gt_un (by decide) hl3) (gt_un (by decide) hl4) gt_us h
set_option maxHeartbeats 4000000 in
theorem gX2_join_43 {X : ga_X} {D : va_G} {cI cZ : ClassId} {K : Nat} {r : Nat} {σ0 : ga_S} {res : gt_T} (C : ga_C X cX2_join yX2_join wsX2_join [] (gt_rm 2 42) (D, vwCl, cI, cZ) 6) (hRet : ∀ (pc : Nat) (lv : Nat → Option ga_V) (σ' : ga_S), decode cX2_join pc = .ok (.return_, 1) → (gt_O SX2 2 r res σ' ∧ gt_F r (r + 3) σ0 σ') → ga_G X 0 0 K pc lv [] σ') (hr0 : r ≠ 0) : ∀ (n : Nat) (a : gt_T × Int × Int × Int) (σ : ga_S) (lv : Nat → Option ga_V), gt_O SX2 2 r a.1 σ → gt_F r (r + 3) σ0 σ → lv 0 = some (.inr r) → lv 3 = some (.inl a.2.1) → lv 4 = some (.inl a.2.2.1) → lv 5 = some (.inl a.2.2.2) → gt_loop (fX2_join_43) n a = some res → ga_G X 0 0 K 43 lv [] σ := by
  intro n
  induction n with
  | zero =>
    intro a _ lv _ _ _ _ _ _ h
    exact absurd (show (none : Option _) = some _ from h) (fun q => by cases q)
  | succ n hk43 =>
    intro a σ lv hW hF hl0 hl3 hl4 hl5 h
    have h : fX2_join_43 (gt_loop (fX2_join_43) n) a = some res := h
    revert hk43 h
    generalize gt_loop (fX2_join_43) n = k43
    intro hk43 h
    unfold fX2_join_43 at h
    refine ga_iload C dX2_join_43 hl5 ?_
    refine ga_aload_n C dX2_join_45 rfl hl0 hr0 ?_
    refine gt_geti C (iX2_join_X2) hW 2 rfl rfl (by decide) kX2_join_18 dX2_join_46 ?_
    refine ga_icmp_ge (tgt := 78) C dX2_join_49 (by decide) (fun c1 => ?_) (fun c1 => ?_)
    · have h := gt_ip h c1
      cases h
      exact hRet _ _ _ dX2_join_78 ⟨hW, hF⟩
    · have h := gt_in h c1
      obtain ⟨hg, h⟩ := gt_gd h
      have g58_0 := hg
      refine ga_aload_n C dX2_join_52 rfl hl0 hr0 ?_
      refine gt_geta C (iX2_join_X2) hW 0 rfl rfl (by decide) kX2_join_9 dX2_join_53 ?_
      refine ga_iload C dX2_join_56 hl5 ?_
      refine gt_iald C hW 0 rfl g58_0.1 g58_0.2 dX2_join_58 ?_
      refine ga_iload C dX2_join_59 hl4 ?_
      refine ga_icmp_ne (tgt := 72) C dX2_join_61 (by decide) (fun c1 => ?_) (fun c1 => ?_)
      · have h := gt_in h c1
        exact gX2_join_72 C hRet hr0 hk43 hW hF hl0 hl3 hl4 hl5 h
      · have h := gt_ip h c1
        obtain ⟨hg, h⟩ := gt_gd h
        have g71_0 := hg
        refine ga_aload_n C dX2_join_64 rfl hl0 hr0 ?_
        refine gt_geta C (iX2_join_X2) hW 0 rfl rfl (by decide) kX2_join_9 dX2_join_65 ?_
        refine ga_iload C dX2_join_68 hl5 ?_
        refine ga_iload_n C dX2_join_70 rfl hl3 ?_
        refine gt_iast C okX2 hW hF ⟨Nat.le_refl _, Nat.le_refl _⟩ 0 rfl g71_0.1 g71_0.2 dX2_join_71 (fun σ hW hF hf => ?_)
        exact gX2_join_72 C hRet hr0 hk43 hW hF hl0 hl3 hl4 hl5 h
set_option maxHeartbeats 4000000 in
theorem gX2_join_0 {X : ga_X} {D : va_G} {cI cZ : ClassId} {K : Nat} {r : Nat} {σ0 : ga_S} {res : gt_T} (C : ga_C X cX2_join yX2_join wsX2_join [] (gt_rm 2 42) (D, vwCl, cI, cZ) 6) (hRet : ∀ (pc : Nat) (lv : Nat → Option ga_V) (σ' : ga_S), decode cX2_join pc = .ok (.return_, 1) → (gt_O SX2 2 r res σ' ∧ gt_F r (r + 3) σ0 σ') → ga_G X 0 0 K pc lv [] σ') (hr0 : r ≠ 0) {T : gt_T} {σ : ga_S} {l1 l2 : Int} {lv : Nat → Option ga_V} (hW : gt_O SX2 2 r T σ) (hF : gt_F r (r + 3) σ0 σ) (hl0 : lv 0 = some (.inr r)) (hl1 : lv 1 = some (.inl l1)) (hl2 : lv 2 = some (.inl l2)) (h : fX2_join T l1 l2 = some res) : ga_G X 0 0 K 0 lv [] σ := by
  unfold fX2_join at h
  refine ga_aload_n C dX2_join_0 rfl hl0 hr0 ?_
  refine ga_iload_n C dX2_join_1 rfl hl1 ?_
  obtain ⟨q2, hq, h⟩ := Option.bind_eq_some_iff.mp h
  refine gt_cVi (n := 1) (st := []) C (eX2_least X.2.1 D cI cZ K hr0 hW hq) gX2_join_X2_least rfl (by decide +kernel) rfl ⟨Nat.le_of_ble_eq_true rfl, Nat.le_of_ble_eq_true rfl⟩ hW.1 rfl rfl (Nat.le_of_ble_eq_true rfl) rfl dX2_join_2 (fun σ' hp => ?_)
  subst hp
  refine ga_aload_n C dX2_join_5 rfl hl0 hr0 ?_
  refine ga_iload_n C dX2_join_6 rfl hl2 ?_
  obtain ⟨q7, hq, h⟩ := Option.bind_eq_some_iff.mp h
  refine gt_cVi (n := 1) (st := [.inl q2]) C (eX2_least X.2.1 D cI cZ K hr0 hW hq) gX2_join_X2_least rfl (by decide +kernel) rfl ⟨Nat.le_of_ble_eq_true rfl, Nat.le_of_ble_eq_true rfl⟩ hW.1 rfl rfl (Nat.le_of_ble_eq_true rfl) rfl dX2_join_7 (fun σ' hp => ?_)
  subst hp
  refine gt_mmin C (by decide +kernel) (by decide +kernel) (by decide +kernel) (by decide +kernel) ⟨Nat.le_of_ble_eq_true rfl, Nat.le_of_ble_eq_true rfl, Nat.le_of_ble_eq_true rfl, Nat.le_of_ble_eq_true rfl⟩ dX2_join_10 ?_
  refine ga_istore_n C dX2_join_13 rfl (by decide) ?_
  refine ga_aload_n C dX2_join_14 rfl (gt_un (by decide) hl0) hr0 ?_
  refine ga_iload_n C dX2_join_15 rfl (gt_un (by decide) hl1) ?_
  obtain ⟨q16, hq, h⟩ := Option.bind_eq_some_iff.mp h
  refine gt_cVi (n := 1) (st := []) C (eX2_least X.2.1 D cI cZ K hr0 hW hq) gX2_join_X2_least rfl (by decide +kernel) rfl ⟨Nat.le_of_ble_eq_true rfl, Nat.le_of_ble_eq_true rfl⟩ hW.1 rfl rfl (Nat.le_of_ble_eq_true rfl) rfl dX2_join_16 (fun σ' hp => ?_)
  subst hp
  refine ga_aload_n C dX2_join_19 rfl (gt_un (by decide) hl0) hr0 ?_
  refine ga_iload_n C dX2_join_20 rfl (gt_un (by decide) hl2) ?_
  obtain ⟨q21, hq, h⟩ := Option.bind_eq_some_iff.mp h
  refine gt_cVi (n := 1) (st := [.inl q16]) C (eX2_least X.2.1 D cI cZ K hr0 hW hq) gX2_join_X2_least rfl (by decide +kernel) rfl ⟨Nat.le_of_ble_eq_true rfl, Nat.le_of_ble_eq_true rfl⟩ hW.1 rfl rfl (Nat.le_of_ble_eq_true rfl) rfl dX2_join_21 (fun σ' hp => ?_)
  subst hp
  refine gt_mmax C (by decide +kernel) (by decide +kernel) (by decide +kernel) (by decide +kernel) ⟨Nat.le_of_ble_eq_true rfl, Nat.le_of_ble_eq_true rfl, Nat.le_of_ble_eq_true rfl, Nat.le_of_ble_eq_true rfl⟩ dX2_join_24 ?_
  refine ga_istore C dX2_join_27 (by decide) ?_
  refine ga_iload_n C dX2_join_29 rfl (gt_un (by decide) gt_us) ?_
  refine ga_if_lt (tgt := 39) C dX2_join_30 (by decide) (fun c1 => ?_) (fun c1 => ?_)
  · have h := gt_ip h c1
    exact gX2_join_39 C hRet hr0 hW hF h
  · have h := gt_in h c1
    refine ga_iload_n C dX2_join_33 rfl (gt_un (by decide) gt_us) ?_
    refine ga_iload C dX2_join_34 gt_us ?_
    refine ga_icmp_ne (tgt := 40) C dX2_join_36 (by decide) (fun c1 => ?_) (fun c1 => ?_)
    · have h := gt_in h c1
      refine ga_iconst C dX2_join_40 ⟨by decide, by decide⟩ ?_
      refine ga_istore C dX2_join_41 (by decide) ?_
      exact gX2_join_43 C hRet hr0 gt_fuel (T, min q2 q7, max q16 q21, (0 : Int)) _ _ hW hF (gt_un (by decide) (gt_un (by decide) (gt_un (by decide) hl0))) (gt_un (by decide) (gt_un (by decide) gt_us)) (gt_un (by decide) gt_us) gt_us h
    · have h := gt_ip h c1
      exact gX2_join_39 C hRet hr0 hW hF h
set_option maxHeartbeats 4000000 in
theorem eX2_join (l : Launch) (D : va_G) (cI cZ : ClassId) (K : Nat) {r : Nat} (hr0 : r ≠ 0) {σ : ga_S} {T : gt_T} (hW : gt_O SX2 2 r T σ) {l1 l2 : Int} {res : gt_T} (h : fX2_join T l1 l2 = some res) : ga_Ev l (D, vwCl, cI, cZ) yX2_join wsX2_join (gt_rm 2 42) [] 0 0 K [.inr r, .inl l1, .inl l2] σ (fun σ' rv => (gt_O SX2 2 r res σ' ∧ gt_F r (r + 3) σ σ') ∧ rv = none) := by
  refine ga_ofV (by decide +kernel) rfl gt_hcl (Nat.le_of_ble_eq_true rfl) (fun X hX C hret => ?_)
  exact gX2_join_0 C (fun pc lv σ' d hp => hret pc lv σ' d ⟨hp, rfl⟩) hr0 hW gt_F.rf rfl rfl rfl h
-- X2_numberOf: numberOf(I)I
def fX2_numberOf_18 (T : gt_T) (s0 : Int) : Option (Int) :=
  some s0
def fX2_numberOf (T : gt_T) (l1 : Int) : Option (Int) :=
  (fX2_hasMember T l1).bind (fun (q2 : Int) => (if q2 = 0 then fX2_numberOf_18 T (-1 : Int) else (if (0 ≤ l1 ∧ l1 < 40) then fX2_numberOf_18 T (T.2 1 l1.toNat) else none)))
theorem iX2_numberOf_X2 : ∀ w ∈ u_ws RX2 TX2 4, w ∈ wsX2_numberOf := by decide +kernel
theorem kX2_numberOf_15 : Cond.fieldLink yX2_numberOf.cls 15 (TX2 1).1 (TX2 1).2.1 (TX2 1).2.2.1 ∈ wsX2_numberOf := by decide +kernel
set_option maxHeartbeats 4000000 in
theorem gX2_numberOf_18 {X : ga_X} {D : va_G} {cI cZ : ClassId} {K : Nat} {r : Nat} {res : Int} {T : gt_T} {σ : ga_S} (C : ga_C X cX2_numberOf yX2_numberOf wsX2_numberOf [] (gt_rm 1 21) (D, vwCl, cI, cZ) 2) (hRet : ∀ (pc : Nat) (lv : Nat → Option ga_V) (σ' : ga_S) (z : Int), decode cX2_numberOf pc = .ok (.ireturn, 1) → z = res → (σ' = σ) → ga_G X 0 0 K pc lv [.inl z] σ') (hr0 : r ≠ 0) {s0 : Int} {lv : Nat → Option ga_V} (hW : gt_O SX2 2 r T σ) (h : fX2_numberOf_18 T s0 = some res) : ga_G X 0 0 K 18 lv [.inl s0] σ := by
  unfold fX2_numberOf_18 at h
  cases h
  exact hRet _ _ _ _ dX2_numberOf_18 rfl rfl
set_option maxHeartbeats 4000000 in
theorem gX2_numberOf_0 {X : ga_X} {D : va_G} {cI cZ : ClassId} {K : Nat} {r : Nat} {res : Int} {T : gt_T} {σ : ga_S} (C : ga_C X cX2_numberOf yX2_numberOf wsX2_numberOf [] (gt_rm 1 21) (D, vwCl, cI, cZ) 2) (hRet : ∀ (pc : Nat) (lv : Nat → Option ga_V) (σ' : ga_S) (z : Int), decode cX2_numberOf pc = .ok (.ireturn, 1) → z = res → (σ' = σ) → ga_G X 0 0 K pc lv [.inl z] σ') (hr0 : r ≠ 0) {l1 : Int} {lv : Nat → Option ga_V} (hW : gt_O SX2 2 r T σ) (hl0 : lv 0 = some (.inr r)) (hl1 : lv 1 = some (.inl l1)) (h : fX2_numberOf T l1 = some res) : ga_G X 0 0 K 0 lv [] σ := by
  unfold fX2_numberOf at h
  refine ga_aload_n C dX2_numberOf_0 rfl hl0 hr0 ?_
  refine ga_iload_n C dX2_numberOf_1 rfl hl1 ?_
  obtain ⟨q2, hq, h⟩ := Option.bind_eq_some_iff.mp h
  refine gt_cVi (n := 1) (st := []) C (eX2_hasMember X.2.1 D cI cZ K hr0 hW hq) gX2_numberOf_X2_hasMember rfl (by decide +kernel) rfl ⟨Nat.le_of_ble_eq_true rfl, Nat.le_of_ble_eq_true rfl⟩ hW.1 rfl rfl (Nat.le_of_ble_eq_true rfl) rfl dX2_numberOf_2 (fun σ' hp => ?_)
  subst hp
  refine ga_if_eq (tgt := 17) C dX2_numberOf_5 (by decide) (fun c1 => ?_) (fun c1 => ?_)
  · have h := gt_ip h c1
    refine ga_iconst C dX2_numberOf_17 ⟨by decide, by decide⟩ ?_
    exact gX2_numberOf_18 C hRet hr0 hW h
  · have h := gt_in h c1
    obtain ⟨hg, h⟩ := gt_gd h
    have g13_0 := hg
    refine ga_aload_n C dX2_numberOf_8 rfl hl0 hr0 ?_
    refine gt_geta C (iX2_numberOf_X2) hW 1 rfl rfl (by decide) kX2_numberOf_15 dX2_numberOf_9 ?_
    refine ga_iload_n C dX2_numberOf_12 rfl hl1 ?_
    refine gt_iald C hW 1 rfl g13_0.1 g13_0.2 dX2_numberOf_13 ?_
    refine ga_goto (tgt := 18) C dX2_numberOf_14 (by decide) ?_
    exact gX2_numberOf_18 C hRet hr0 hW h
set_option maxHeartbeats 4000000 in
theorem eX2_numberOf (l : Launch) (D : va_G) (cI cZ : ClassId) (K : Nat) {r : Nat} (hr0 : r ≠ 0) {σ : ga_S} {T : gt_T} (hW : gt_O SX2 2 r T σ) {l1 : Int} {res : Int} (h : fX2_numberOf T l1 = some res) : ga_Ev l (D, vwCl, cI, cZ) yX2_numberOf wsX2_numberOf (gt_rm 1 21) [] 0 0 K [.inr r, .inl l1] σ (fun σ' rv => (σ' = σ) ∧ rv = some (.inl res)) := by
  refine ga_ofI (by decide +kernel) rfl gt_hcl (Nat.le_of_ble_eq_true rfl) (fun X hX C hret => ?_)
  exact gX2_numberOf_0 C (fun pc lv σ' z d hz hp => hret pc lv σ' z d ⟨hp, by rw [hz]⟩) hr0 hW rfl rfl h
-- X2_numberGroups: numberGroups()V
def fX2_numberGroups_64 (k7 : gt_T × Int → Option (gt_T)) (T : gt_T) (l1 : Int) : Option (gt_T) :=
  (if (-2147483648 ≤ l1 + (1 : Int) ∧ l1 + (1 : Int) < 2147483648) then k7 (T, l1 + (1 : Int)) else none)
def fX2_numberGroups_7 (k7 : gt_T × Int → Option (gt_T)) (a : gt_T × Int) : Option (gt_T) :=
  (if (a.1.1 2) ≤ a.2 then some a.1 else (if (0 ≤ a.2 ∧ a.2 < 40) then (if (a.1.2 0 a.2.toNat) = a.2 then (if (0 ≤ a.2 ∧ a.2 < 40) ∧ (-2147483648 ≤ (a.1.1 3) + (1 : Int) ∧ (a.1.1 3) + (1 : Int) < 2147483648) then fX2_numberGroups_64 k7 ((va_up a.1.1 3 ((a.1.1 3) + (1 : Int))), (va_up a.1.2 1 (va_up (a.1.2 1) a.2.toNat (a.1.1 3)))) a.2 else none) else (if (0 ≤ a.2 ∧ a.2 < 40) then (fX2_numberOf a.1 (a.1.2 0 a.2.toNat)).bind (fun (q60 : Int) => (if (0 ≤ a.2 ∧ a.2 < 40) then fX2_numberGroups_64 k7 (a.1.1, (va_up a.1.2 1 (va_up (a.1.2 1) a.2.toNat q60))) a.2 else none)) else none)) else none))
def fX2_numberGroups (T : gt_T) : Option (gt_T) :=
  gt_loop (fX2_numberGroups_7) gt_fuel (((va_up T.1 3 (0 : Int)), T.2), (0 : Int))
theorem iX2_numberGroups_X2 : ∀ w ∈ u_ws RX2 TX2 4, w ∈ wsX2_numberGroups := by decide +kernel
theorem kX2_numberGroups_9 : Cond.fieldLink yX2_numberGroups.cls 9 (TX2 0).1 (TX2 0).2.1 (TX2 0).2.2.1 ∈ wsX2_numberGroups := by decide +kernel
theorem kX2_numberGroups_15 : Cond.fieldLink yX2_numberGroups.cls 15 (TX2 1).1 (TX2 1).2.1 (TX2 1).2.2.1 ∈ wsX2_numberGroups := by decide +kernel
theorem kX2_numberGroups_18 : Cond.fieldLink yX2_numberGroups.cls 18 (TX2 2).1 (TX2 2).2.1 (TX2 2).2.2.1 ∈ wsX2_numberGroups := by decide +kernel
theorem kX2_numberGroups_22 : Cond.fieldLink yX2_numberGroups.cls 22 (TX2 3).1 (TX2 3).2.1 (TX2 3).2.2.1 ∈ wsX2_numberGroups := by decide +kernel
set_option maxHeartbeats 4000000 in
theorem gX2_numberGroups_64 {X : ga_X} {D : va_G} {cI cZ : ClassId} {K : Nat} {r : Nat} {σ0 : ga_S} {res : gt_T} {k7 : gt_T × Int → Option (gt_T)} (C : ga_C X cX2_numberGroups yX2_numberGroups wsX2_numberGroups [] (gt_rm 2 42) (D, vwCl, cI, cZ) 2) (hRet : ∀ (pc : Nat) (lv : Nat → Option ga_V) (σ' : ga_S), decode cX2_numberGroups pc = .ok (.return_, 1) → (gt_O SX2 2 r res σ' ∧ gt_F r (r + 3) σ0 σ') → ga_G X 0 0 K pc lv [] σ') (hr0 : r ≠ 0) (hk7 : ∀ (a : gt_T × Int) (σ : ga_S) (lv : Nat → Option ga_V), gt_O SX2 2 r a.1 σ → gt_F r (r + 3) σ0 σ → lv 0 = some (.inr r) → lv 1 = some (.inl a.2) → k7 a = some res → ga_G X 0 0 K 7 lv [] σ) {T : gt_T} {σ : ga_S} {l1 : Int} {lv : Nat → Option ga_V} (hW : gt_O SX2 2 r T σ) (hF : gt_F r (r + 3) σ0 σ) (hl0 : lv 0 = some (.inr r)) (hl1 : lv 1 = some (.inl l1)) (h : fX2_numberGroups_64 k7 T l1 = some res) : ga_G X 0 0 K 64 lv [] σ := by
  unfold fX2_numberGroups_64 at h
  obtain ⟨hg, h⟩ := gt_gd h
  have g64_0 := hg
  refine ga_iinc C dX2_numberGroups_64 hl1 g64_0 ?_
  refine ga_goto (tgt := 7) C dX2_numberGroups_67 (by decide) ?_
  exact hk7 (T, l1 + (1 : Int)) _ _ hW hF (gt_un (by decide) hl0) gt_us h
set_option maxHeartbeats 4000000 in
theorem gX2_numberGroups_7 {X : ga_X} {D : va_G} {cI cZ : ClassId} {K : Nat} {r : Nat} {σ0 : ga_S} {res : gt_T} (C : ga_C X cX2_numberGroups yX2_numberGroups wsX2_numberGroups [] (gt_rm 2 42) (D, vwCl, cI, cZ) 2) (hRet : ∀ (pc : Nat) (lv : Nat → Option ga_V) (σ' : ga_S), decode cX2_numberGroups pc = .ok (.return_, 1) → (gt_O SX2 2 r res σ' ∧ gt_F r (r + 3) σ0 σ') → ga_G X 0 0 K pc lv [] σ') (hr0 : r ≠ 0) : ∀ (n : Nat) (a : gt_T × Int) (σ : ga_S) (lv : Nat → Option ga_V), gt_O SX2 2 r a.1 σ → gt_F r (r + 3) σ0 σ → lv 0 = some (.inr r) → lv 1 = some (.inl a.2) → gt_loop (fX2_numberGroups_7) n a = some res → ga_G X 0 0 K 7 lv [] σ := by
  intro n
  induction n with
  | zero =>
    intro a _ lv _ _ _ _ h
    exact absurd (show (none : Option _) = some _ from h) (fun q => by cases q)
  | succ n hk7 =>
    intro a σ lv hW hF hl0 hl1 h
    have h : fX2_numberGroups_7 (gt_loop (fX2_numberGroups_7) n) a = some res := h
    revert hk7 h
    generalize gt_loop (fX2_numberGroups_7) n = k7
    intro hk7 h
    unfold fX2_numberGroups_7 at h
    refine ga_iload_n C dX2_numberGroups_7 rfl hl1 ?_
    refine ga_aload_n C dX2_numberGroups_8 rfl hl0 hr0 ?_
    refine gt_geti C (iX2_numberGroups_X2) hW 2 rfl rfl (by decide) kX2_numberGroups_18 dX2_numberGroups_9 ?_
    refine ga_icmp_ge (tgt := 70) C dX2_numberGroups_12 (by decide) (fun c1 => ?_) (fun c1 => ?_)
    · have h := gt_ip h c1
      cases h
      exact hRet _ _ _ dX2_numberGroups_70 ⟨hW, hF⟩
    · have h := gt_in h c1
      obtain ⟨hg, h⟩ := gt_gd h
      have g20_0 := hg
      refine ga_aload_n C dX2_numberGroups_15 rfl hl0 hr0 ?_
      refine gt_geta C (iX2_numberGroups_X2) hW 0 rfl rfl (by decide) kX2_numberGroups_9 dX2_numberGroups_16 ?_
      refine ga_iload_n C dX2_numberGroups_19 rfl hl1 ?_
      refine gt_iald C hW 0 rfl g20_0.1 g20_0.2 dX2_numberGroups_20 ?_
      refine ga_iload_n C dX2_numberGroups_21 rfl hl1 ?_
      refine ga_icmp_ne (tgt := 48) C dX2_numberGroups_22 (by decide) (fun c1 => ?_) (fun c1 => ?_)
      · have h := gt_in h c1
        obtain ⟨hg, h⟩ := gt_gd h
        have g59_0 := hg
        refine ga_aload_n C dX2_numberGroups_48 rfl hl0 hr0 ?_
        refine gt_geta C (iX2_numberGroups_X2) hW 1 rfl rfl (by decide) kX2_numberGroups_15 dX2_numberGroups_49 ?_
        refine ga_iload_n C dX2_numberGroups_52 rfl hl1 ?_
        refine ga_aload_n C dX2_numberGroups_53 rfl hl0 hr0 ?_
        refine ga_aload_n C dX2_numberGroups_54 rfl hl0 hr0 ?_
        refine gt_geta C (iX2_numberGroups_X2) hW 0 rfl rfl (by decide) kX2_numberGroups_9 dX2_numberGroups_55 ?_
        refine ga_iload_n C dX2_numberGroups_58 rfl hl1 ?_
        refine gt_iald C hW 0 rfl g59_0.1 g59_0.2 dX2_numberGroups_59 ?_
        obtain ⟨q60, hq, h⟩ := Option.bind_eq_some_iff.mp h
        refine gt_cVi (n := 1) (st := [.inl a.2, .inr (r + 2)]) C (eX2_numberOf X.2.1 D cI cZ K hr0 hW hq) gX2_numberGroups_X2_numberOf rfl (by decide +kernel) rfl ⟨Nat.le_of_ble_eq_true rfl, Nat.le_of_ble_eq_true rfl⟩ hW.1 rfl rfl (Nat.le_of_ble_eq_true rfl) rfl dX2_numberGroups_60 (fun σ' hp => ?_)
        subst hp
        obtain ⟨hg, h⟩ := gt_gd h
        have g63_0 := hg
        refine gt_iast C okX2 hW hF ⟨Nat.le_refl _, Nat.le_refl _⟩ 1 rfl g63_0.1 g63_0.2 dX2_numberGroups_63 (fun σ hW hF hf => ?_)
        exact gX2_numberGroups_64 C hRet hr0 hk7 hW hF hl0 hl1 h
      · have h := gt_ip h c1
        obtain ⟨hg, h⟩ := gt_gd h
        obtain ⟨g34_0, g41_1⟩ := hg
        refine ga_aload_n C dX2_numberGroups_25 rfl hl0 hr0 ?_
        refine gt_geta C (iX2_numberGroups_X2) hW 1 rfl rfl (by decide) kX2_numberGroups_15 dX2_numberGroups_26 ?_
        refine ga_iload_n C dX2_numberGroups_29 rfl hl1 ?_
        refine ga_aload_n C dX2_numberGroups_30 rfl hl0 hr0 ?_
        refine gt_geti C (iX2_numberGroups_X2) hW 3 rfl rfl (by decide) kX2_numberGroups_22 dX2_numberGroups_31 ?_
        refine gt_iast C okX2 hW hF ⟨Nat.le_refl _, Nat.le_refl _⟩ 1 rfl g34_0.1 g34_0.2 dX2_numberGroups_34 (fun σ hW hF hf => ?_)
        refine ga_aload_n C dX2_numberGroups_35 rfl hl0 hr0 ?_
        refine ga_dup C dX2_numberGroups_36 ?_
        refine gt_geti C (iX2_numberGroups_X2) hW 3 rfl rfl (by decide) kX2_numberGroups_22 dX2_numberGroups_37 ?_
        refine ga_iconst C dX2_numberGroups_40 ⟨by decide, by decide⟩ ?_
        refine ga_iadd C dX2_numberGroups_41 g41_1 ?_
        refine gt_puti C okX2 (by decide) (iX2_numberGroups_X2) tyX2 tyX2_ok nmX2 hW hF ⟨Nat.le_refl _, Nat.le_refl _⟩ 3 rfl rfl (by decide) kX2_numberGroups_22 rfl (by decide +kernel) dX2_numberGroups_42 (fun σ hW hF hf => ?_)
        refine ga_goto (tgt := 64) C dX2_numberGroups_45 (by decide) ?_
        exact gX2_numberGroups_64 C hRet hr0 hk7 hW hF hl0 hl1 h
set_option maxHeartbeats 4000000 in
theorem gX2_numberGroups_0 {X : ga_X} {D : va_G} {cI cZ : ClassId} {K : Nat} {r : Nat} {σ0 : ga_S} {res : gt_T} (C : ga_C X cX2_numberGroups yX2_numberGroups wsX2_numberGroups [] (gt_rm 2 42) (D, vwCl, cI, cZ) 2) (hRet : ∀ (pc : Nat) (lv : Nat → Option ga_V) (σ' : ga_S), decode cX2_numberGroups pc = .ok (.return_, 1) → (gt_O SX2 2 r res σ' ∧ gt_F r (r + 3) σ0 σ') → ga_G X 0 0 K pc lv [] σ') (hr0 : r ≠ 0) {T : gt_T} {σ : ga_S} {lv : Nat → Option ga_V} (hW : gt_O SX2 2 r T σ) (hF : gt_F r (r + 3) σ0 σ) (hl0 : lv 0 = some (.inr r)) (h : fX2_numberGroups T = some res) : ga_G X 0 0 K 0 lv [] σ := by
  unfold fX2_numberGroups at h
  refine ga_aload_n C dX2_numberGroups_0 rfl hl0 hr0 ?_
  refine ga_iconst C dX2_numberGroups_1 ⟨by decide, by decide⟩ ?_
  refine gt_puti C okX2 (by decide) (iX2_numberGroups_X2) tyX2 tyX2_ok nmX2 hW hF ⟨Nat.le_refl _, Nat.le_refl _⟩ 3 rfl rfl (by decide) kX2_numberGroups_22 rfl (by decide +kernel) dX2_numberGroups_2 (fun σ hW hF hf => ?_)
  refine ga_iconst C dX2_numberGroups_5 ⟨by decide, by decide⟩ ?_
  refine ga_istore_n C dX2_numberGroups_6 rfl (by decide) ?_
  exact gX2_numberGroups_7 C hRet hr0 gt_fuel (((va_up T.1 3 (0 : Int)), T.2), (0 : Int)) _ _ hW hF (gt_un (by decide) hl0) gt_us h
set_option maxHeartbeats 4000000 in
theorem eX2_numberGroups (l : Launch) (D : va_G) (cI cZ : ClassId) (K : Nat) {r : Nat} (hr0 : r ≠ 0) {σ : ga_S} {T : gt_T} (hW : gt_O SX2 2 r T σ) {res : gt_T} (h : fX2_numberGroups T = some res) : ga_Ev l (D, vwCl, cI, cZ) yX2_numberGroups wsX2_numberGroups (gt_rm 2 42) [] 0 0 K [.inr r] σ (fun σ' rv => (gt_O SX2 2 r res σ' ∧ gt_F r (r + 3) σ σ') ∧ rv = none) := by
  refine ga_ofV (by decide +kernel) rfl gt_hcl (Nat.le_of_ble_eq_true rfl) (fun X hX C hret => ?_)
  exact gX2_numberGroups_0 C (fun pc lv σ' d hp => hret pc lv σ' d ⟨hp, rfl⟩) hr0 hW gt_F.rf rfl h
-- X2_count: count()I
def fX2_count (T : gt_T) : Option (Int) :=
  some (T.1 3)
theorem iX2_count_X2 : ∀ w ∈ u_ws RX2 TX2 4, w ∈ wsX2_count := by decide +kernel
theorem kX2_count_22 : Cond.fieldLink yX2_count.cls 22 (TX2 3).1 (TX2 3).2.1 (TX2 3).2.2.1 ∈ wsX2_count := by decide +kernel
set_option maxHeartbeats 4000000 in
theorem gX2_count_0 {X : ga_X} {D : va_G} {cI cZ : ClassId} {K : Nat} {r : Nat} {res : Int} {T : gt_T} {σ : ga_S} (C : ga_C X cX2_count yX2_count wsX2_count [] (gt_rm 0 0) (D, vwCl, cI, cZ) 1) (hRet : ∀ (pc : Nat) (lv : Nat → Option ga_V) (σ' : ga_S) (z : Int), decode cX2_count pc = .ok (.ireturn, 1) → z = res → (σ' = σ) → ga_G X 0 0 K pc lv [.inl z] σ') (hr0 : r ≠ 0) {lv : Nat → Option ga_V} (hW : gt_O SX2 2 r T σ) (hl0 : lv 0 = some (.inr r)) (h : fX2_count T = some res) : ga_G X 0 0 K 0 lv [] σ := by
  unfold fX2_count at h
  refine ga_aload_n C dX2_count_0 rfl hl0 hr0 ?_
  refine gt_geti C (iX2_count_X2) hW 3 rfl rfl (by decide) kX2_count_22 dX2_count_1 ?_
  cases h
  exact hRet _ _ _ _ dX2_count_4 rfl rfl
set_option maxHeartbeats 4000000 in
theorem eX2_count (l : Launch) (D : va_G) (cI cZ : ClassId) (K : Nat) {r : Nat} (hr0 : r ≠ 0) {σ : ga_S} {T : gt_T} (hW : gt_O SX2 2 r T σ) {res : Int} (h : fX2_count T = some res) : ga_Ev l (D, vwCl, cI, cZ) yX2_count wsX2_count (gt_rm 0 0) [] 0 0 K [.inr r] σ (fun σ' rv => (σ' = σ) ∧ rv = some (.inl res)) := by
  refine ga_ofI (by decide +kernel) rfl gt_hcl (Nat.le_of_ble_eq_true rfl) (fun X hX C hret => ?_)
  exact gX2_count_0 C (fun pc lv σ' z d hz hp => hret pc lv σ' z d ⟨hp, by rw [hz]⟩) hr0 hW rfl h
