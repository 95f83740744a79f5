-- X6_turn: turn(I)I
def fX6_turn_53 (T : gt_T) (s0 s1 : Int) : Option (Int) :=
  (if (-2147483648 ≤ s0 + s1 ∧ s0 + s1 < 2147483648) then some (s0 + s1) else none)
def fX6_turn_16 (T : gt_T) (s0 s1 : Int) : Option (Int) :=
  (fX6_placeOf T s0 s1).bind (fun (q16 : Int) => (if (-2147483648 ≤ (Int.tdiv q16 (4 : Int)) * (4 : Int) ∧ (Int.tdiv q16 (4 : Int)) * (4 : Int) < 2147483648) ∧ (-2147483648 ≤ q16 + (3 : Int) ∧ q16 + (3 : Int) < 2147483648) ∧ 0 ≤ (q16 + (3 : Int)) ∧ (-2147483648 ≤ ((Int.tdiv q16 (4 : Int)) * (4 : Int)) + ((q16 + (3 : Int)) % (4 : Int)) ∧ ((Int.tdiv q16 (4 : Int)) * (4 : Int)) + ((q16 + (3 : Int)) % (4 : Int)) < 2147483648) ∧ (0 ≤ (((Int.tdiv q16 (4 : Int)) * (4 : Int)) + ((q16 + (3 : Int)) % (4 : Int))) ∧ (((Int.tdiv q16 (4 : Int)) * (4 : Int)) + ((q16 + (3 : Int)) % (4 : Int))) < 80) ∧ (-2147483648 ≤ (2 : Int) * (T.2 10 (((Int.tdiv q16 (4 : Int)) * (4 : Int)) + ((q16 + (3 : Int)) % (4 : Int))).toNat) ∧ (2 : Int) * (T.2 10 (((Int.tdiv q16 (4 : Int)) * (4 : Int)) + ((q16 + (3 : Int)) % (4 : Int))).toNat) < 2147483648) then (fX6_isOut T (((Int.tdiv q16 (4 : Int)) * (4 : Int)) + ((q16 + (3 : Int)) % (4 : Int)))).bind (fun (q42 : Int) => (if q42 = 0 then fX6_turn_53 T ((2 : Int) * (T.2 10 (((Int.tdiv q16 (4 : Int)) * (4 : Int)) + ((q16 + (3 : Int)) % (4 : Int))).toNat)) (1 : Int) else fX6_turn_53 T ((2 : Int) * (T.2 10 (((Int.tdiv q16 (4 : Int)) * (4 : Int)) + ((q16 + (3 : Int)) % (4 : Int))).toNat)) (0 : Int))) else none))
def fX6_turn (T : gt_T) (l1 : Int) : Option (Int) :=
  (if 0 ≤ l1 then (if (l1 % (2 : Int)) = (1 : Int) then fX6_turn_16 T (Int.tdiv l1 (2 : Int)) (1 : Int) else fX6_turn_16 T (Int.tdiv l1 (2 : Int)) (0 : Int)) else none)
theorem iX6_turn_X6 : ∀ w ∈ u_ws RX6 TX6 23, w ∈ wsX6_turn := by decide +kernel
theorem kX6_turn_23 : Cond.fieldLink yX6_turn.cls 23 (TX6 10).1 (TX6 10).2.1 (TX6 10).2.2.1 ∈ wsX6_turn := by decide +kernel
set_option maxHeartbeats 4000000 in
theorem gX6_turn_53 {X : ga_X} {D : va_G} {cI cZ : ClassId} {K : Nat} {r : Nat} {res : Int} {T : gt_T} {σ : ga_S} (C : ga_C X cX6_turn yX6_turn wsX6_turn [] (gt_rm 2 46) (D, vwCl, cI, cZ) 4) (hRet : ∀ (pc : Nat) (lv : Nat → Option ga_V) (σ' : ga_S) (z : Int), decode cX6_turn pc = .ok (.ireturn, 1) → z = res → (σ' = σ) → ga_G X 0 0 K pc lv [.inl z] σ') (hr0 : r ≠ 0) {s0 s1 : Int} {lv : Nat → Option ga_V} (hW : gt_O SX6 6 r T σ) (h : fX6_turn_53 T s0 s1 = some res) : ga_G X 0 0 K 53 lv [.inl s1, .inl s0] σ := by
  unfold fX6_turn_53 at h
  obtain ⟨hg, h⟩ := gt_gd h
  have g53_0 := hg
  refine ga_iadd C dX6_turn_53 g53_0 ?_
  cases h
  exact hRet _ _ _ _ dX6_turn_54 rfl rfl
set_option maxHeartbeats 4000000 in
theorem gX6_turn_16 {X : ga_X} {D : va_G} {cI cZ : ClassId} {K : Nat} {r : Nat} {res : Int} {T : gt_T} {σ : ga_S} (C : ga_C X cX6_turn yX6_turn wsX6_turn [] (gt_rm 2 46) (D, vwCl, cI, cZ) 4) (hRet : ∀ (pc : Nat) (lv : Nat → Option ga_V) (σ' : ga_S) (z : Int), decode cX6_turn pc = .ok (.ireturn, 1) → z = res → (σ' = σ) → ga_G X 0 0 K pc lv [.inl z] σ') (hr0 : r ≠ 0) {s0 s1 : Int} {lv : Nat → Option ga_V} (hW : gt_O SX6 6 r T σ) (hl0 : lv 0 = some (.inr r)) (h : fX6_turn_16 T s0 s1 = some res) : ga_G X 0 0 K 16 lv [.inl s1, .inl s0, .inr r] σ := by
  unfold fX6_turn_16 at h
  obtain ⟨q16, hq, h⟩ := Option.bind_eq_some_iff.mp h
  refine gt_cVi (n := 2) (st := []) C (eX6_placeOf X.2.1 D cI cZ K hr0 hW hq) gX6_turn_X6_placeOf rfl (by decide +kernel) rfl ⟨Nat.le_of_ble_eq_true rfl, Nat.le_of_ble_eq_true rfl⟩ hW.1 rfl rfl (Nat.le_of_ble_eq_true rfl) rfl dX6_turn_16 (fun σ' hp => ?_)
  subst hp
  obtain ⟨hg, h⟩ := gt_gd h
  obtain ⟨g24_0, g27_1, g29_2, g30_3, g38_4, g39_5⟩ := hg
  refine ga_istore_n C dX6_turn_19 rfl (by decide) ?_
  refine ga_iload_n C dX6_turn_20 rfl gt_us ?_
  refine ga_iconst C dX6_turn_21 ⟨by decide, by decide⟩ ?_
  refine ga_idiv C dX6_turn_22 (by decide) ?_
  refine ga_iconst C dX6_turn_23 ⟨by decide, by decide⟩ ?_
  refine ga_imul C dX6_turn_24 g24_0 ?_
  refine ga_iload_n C dX6_turn_25 rfl gt_us ?_
  refine ga_iconst C dX6_turn_26 ⟨by decide, by decide⟩ ?_
  refine ga_iadd C dX6_turn_27 g27_1 ?_
  refine ga_iconst C dX6_turn_28 ⟨by decide, by decide⟩ ?_
  refine ga_irem C dX6_turn_29 (by decide) g29_2 ?_
  refine ga_iadd C dX6_turn_30 g30_3 ?_
  refine ga_istore_n C dX6_turn_31 rfl (by decide) ?_
  refine ga_iconst C dX6_turn_32 ⟨by decide, by decide⟩ ?_
  refine ga_aload_n C dX6_turn_33 rfl (gt_un (by decide) (gt_un (by decide) hl0)) hr0 ?_
  refine gt_geta C (iX6_turn_X6) hW 10 rfl rfl (by decide) kX6_turn_23 dX6_turn_34 ?_
  refine ga_iload_n C dX6_turn_37 rfl gt_us ?_
  refine gt_iald C hW 10 rfl g38_4.1 g38_4.2 dX6_turn_38 ?_
  refine ga_imul C dX6_turn_39 g39_5 ?_
  refine ga_aload_n C dX6_turn_40 rfl (gt_un (by decide) (gt_un (by decide) hl0)) hr0 ?_
  refine ga_iload_n C dX6_turn_41 rfl gt_us ?_
  obtain ⟨q42, hq, h⟩ := Option.bind_eq_some_iff.mp h
  refine gt_cVi (n := 1) (st := [.inl ((2 : Int) * (T.2 10 (((Int.tdiv q16 (4 : Int)) * (4 : Int)) + ((q16 + (3 : Int)) % (4 : Int))).toNat))]) C (eX6_isOut X.2.1 D cI cZ K hr0 hW hq) gX6_turn_X6_isOut rfl (by decide +kernel) rfl ⟨Nat.le_of_ble_eq_true rfl, Nat.le_of_ble_eq_true rfl⟩ hW.1 rfl rfl (Nat.le_of_ble_eq_true rfl) rfl dX6_turn_42 (fun σ' hp => ?_)
  subst hp
  refine ga_if_eq (tgt := 52) C dX6_turn_45 (by decide) (fun c1 => ?_) (fun c1 => ?_)
  · have h := gt_ip h c1
    refine ga_iconst C dX6_turn_52 ⟨by decide, by decide⟩ ?_
    exact gX6_turn_53 C hRet hr0 hW h
  · have h := gt_in h c1
    refine ga_iconst C dX6_turn_48 ⟨by decide, by decide⟩ ?_
    refine ga_goto (tgt := 53) C dX6_turn_49 (by decide) ?_
    exact gX6_turn_53 C hRet hr0 hW h
set_option maxHeartbeats 4000000 in
theorem gX6_turn_0 {X : ga_X} {D : va_G} {cI cZ : ClassId} {K : Nat} {r : Nat} {res : Int} {T : gt_T} {σ : ga_S} (C : ga_C X cX6_turn yX6_turn wsX6_turn [] (gt_rm 2 46) (D, vwCl, cI, cZ) 4) (hRet : ∀ (pc : Nat) (lv : Nat → Option ga_V) (σ' : ga_S) (z : Int), decode cX6_turn pc = .ok (.ireturn, 1) → z = res → (σ' = σ) → ga_G X 0 0 K pc lv [.inl z] σ') (hr0 : r ≠ 0) {l1 : Int} {lv : Nat → Option ga_V} (hW : gt_O SX6 6 r T σ) (hl0 : lv 0 = some (.inr r)) (hl1 : lv 1 = some (.inl l1)) (h : fX6_turn T l1 = some res) : ga_G X 0 0 K 0 lv [] σ := by
  unfold fX6_turn at h
  obtain ⟨hg, h⟩ := gt_gd h
  have g6_0 := hg
  refine ga_aload_n C dX6_turn_0 rfl hl0 hr0 ?_
  refine ga_iload_n C dX6_turn_1 rfl hl1 ?_
  refine ga_iconst C dX6_turn_2 ⟨by decide, by decide⟩ ?_
  refine ga_idiv C dX6_turn_3 (by decide) ?_
  refine ga_iload_n C dX6_turn_4 rfl hl1 ?_
  refine ga_iconst C dX6_turn_5 ⟨by decide, by decide⟩ ?_
  refine ga_irem C dX6_turn_6 (by decide) g6_0 ?_
  refine ga_iconst C dX6_turn_7 ⟨by decide, by decide⟩ ?_
  refine ga_icmp_ne (tgt := 15) C dX6_turn_8 (by decide) (fun c1 => ?_) (fun c1 => ?_)
  · have h := gt_in h c1
    refine ga_iconst C dX6_turn_15 ⟨by decide, by decide⟩ ?_
    exact gX6_turn_16 C hRet hr0 hW hl0 h
  · have h := gt_ip h c1
    refine ga_iconst C dX6_turn_11 ⟨by decide, by decide⟩ ?_
    refine ga_goto (tgt := 16) C dX6_turn_12 (by decide) ?_
    exact gX6_turn_16 C hRet hr0 hW hl0 h
set_option maxHeartbeats 4000000 in
theorem eX6_turn (l : Launch) (D : va_G) (cI cZ : ClassId) (K : Nat) {r : Nat} (hr0 : r ≠ 0) {σ : ga_S} {T : gt_T} (hW : gt_O SX6 6 r T σ) {l1 : Int} {res : Int} (h : fX6_turn T l1 = some res) : ga_Ev l (D, vwCl, cI, cZ) yX6_turn wsX6_turn (gt_rm 2 46) [] 0 0 K [.inr r, .inl l1] σ (fun σ' rv => (σ' = σ) ∧ rv = some (.inl res)) := by
  refine ga_ofI (by decide +kernel) rfl gt_hcl (Nat.le_of_ble_eq_true rfl) (fun X hX C hret => ?_)
  exact gX6_turn_0 C (fun pc lv σ' z d hz hp => hret pc lv σ' z d ⟨hp, by rw [hz]⟩) hr0 hW rfl rfl h
-- X6_rowOf: rowOf(I)I
def fX6_rowOf_2 (T : gt_T) (k2 : Int × Int → Option (Int)) (a : Int × Int) : Option (Int) :=
  (if (0 ≤ a.2 ∧ a.2 < 80) then (if (T.2 14 a.2.toNat) = a.1 then some a.2 else (if (-2147483648 ≤ a.2 + (1 : Int) ∧ a.2 + (1 : Int) < 2147483648) then k2 (a.1, a.2 + (1 : Int)) else none)) else none)
def fX6_rowOf (T : gt_T) (l1 : Int) : Option (Int) :=
  gt_loop (fX6_rowOf_2 T) gt_fuel (l1, (0 : Int))
theorem iX6_rowOf_X6 : ∀ w ∈ u_ws RX6 TX6 23, w ∈ wsX6_rowOf := by decide +kernel
theorem kX6_rowOf_32 : Cond.fieldLink yX6_rowOf.cls 32 (TX6 14).1 (TX6 14).2.1 (TX6 14).2.2.1 ∈ wsX6_rowOf := by decide +kernel
set_option maxHeartbeats 4000000 in
theorem gX6_rowOf_2 {X : ga_X} {D : va_G} {cI cZ : ClassId} {K : Nat} {r : Nat} {res : Int} {T : gt_T} {σ : ga_S} (C : ga_C X cX6_rowOf yX6_rowOf wsX6_rowOf [] (gt_rm 0 0) (D, vwCl, cI, cZ) 3) (hRet : ∀ (pc : Nat) (lv : Nat → Option ga_V) (σ' : ga_S) (z : Int), decode cX6_rowOf pc = .ok (.ireturn, 1) → z = res → (σ' = σ) → ga_G X 0 0 K pc lv [.inl z] σ') (hr0 : r ≠ 0) : ∀ (n : Nat) (a : Int × Int) (lv : Nat → Option ga_V), gt_O SX6 6 r T σ → lv 0 = some (.inr r) → lv 1 = some (.inl a.1) → lv 2 = some (.inl a.2) → gt_loop (fX6_rowOf_2 T) n a = some res → ga_G X 0 0 K 2 lv [] σ := by
  intro n
  induction n with
  | zero =>
    intro a lv _ _ _ _ h
    exact absurd (show (none : Option _) = some _ from h) (fun q => by cases q)
  | succ n hk2 =>
    intro a lv hW hl0 hl1 hl2 h
    have h : fX6_rowOf_2 T (gt_loop (fX6_rowOf_2 T) n) a = some res := h
    revert hk2 h
    generalize gt_loop (fX6_rowOf_2 T) n = k2
    intro hk2 h
    unfold fX6_rowOf_2 at h
    obtain ⟨hg, h⟩ := gt_gd h
    have g7_0 := hg
    refine ga_aload_n C dX6_rowOf_2 rfl hl0 hr0 ?_
    refine gt_geta C (iX6_rowOf_X6) hW 14 rfl rfl (by decide) kX6_rowOf_32 dX6_rowOf_3 ?_
    refine ga_iload_n C dX6_rowOf_6 rfl hl2 ?_
    refine gt_iald C hW 14 rfl g7_0.1 g7_0.2 dX6_rowOf_7 ?_
    refine ga_iload_n C dX6_rowOf_8 rfl hl1 ?_
    refine ga_icmp_eq (tgt := 18) C dX6_rowOf_9 (by decide) (fun c1 => ?_) (fun c1 => ?_)
    · have h := gt_ip h c1
      refine ga_iload_n C dX6_rowOf_18 rfl hl2 ?_
      cases h
      exact hRet _ _ _ _ dX6_rowOf_19 rfl rfl
    · have h := gt_in h c1
      obtain ⟨hg, h⟩ := gt_gd h
      have g12_0 := hg
      refine ga_iinc C dX6_rowOf_12 hl2 g12_0 ?_
      refine ga_goto (tgt := 2) C dX6_rowOf_15 (by decide) ?_
      exact hk2 (a.1, a.2 + (1 : Int)) _ hW (gt_un (by decide) hl0) (gt_un (by decide) hl1) gt_us h
set_option maxHeartbeats 4000000 in
theorem gX6_rowOf_0 {X : ga_X} {D : va_G} {cI cZ : ClassId} {K : Nat} {r : Nat} {res : Int} {T : gt_T} {σ : ga_S} (C : ga_C X cX6_rowOf yX6_rowOf wsX6_rowOf [] (gt_rm 0 0) (D, vwCl, cI, cZ) 3) (hRet : ∀ (pc : Nat) (lv : Nat → Option ga_V) (σ' : ga_S) (z : Int), decode cX6_rowOf pc = .ok (.ireturn, 1) → z = res → (σ' = σ) → ga_G X 0 0 K pc lv [.inl z] σ') (hr0 : r ≠ 0) {l1 : Int} {lv : Nat → Option ga_V} (hW : gt_O SX6 6 r T σ) (hl0 : lv 0 = some (.inr r)) (hl1 : lv 1 = some (.inl l1)) (h : fX6_rowOf T l1 = some res) : ga_G X 0 0 K 0 lv [] σ := by
  unfold fX6_rowOf at h
  refine ga_iconst C dX6_rowOf_0 ⟨by decide, by decide⟩ ?_
  refine ga_istore_n C dX6_rowOf_1 rfl (by decide) ?_
  exact gX6_rowOf_2 C hRet hr0 gt_fuel (l1, (0 : Int)) _ hW (gt_un (by decide) hl0) (gt_un (by decide) hl1) gt_us h
set_option maxHeartbeats 4000000 in
theorem eX6_rowOf (l : Launch) (D : va_G) (cI cZ : ClassId) (K : Nat) {r : Nat} (hr0 : r ≠ 0) {σ : ga_S} {T : gt_T} (hW : gt_O SX6 6 r T σ) {l1 : Int} {res : Int} (h : fX6_rowOf T l1 = some res) : ga_Ev l (D, vwCl, cI, cZ) yX6_rowOf wsX6_rowOf (gt_rm 0 0) [] 0 0 K [.inr r, .inl l1] σ (fun σ' rv => (σ' = σ) ∧ rv = some (.inl res)) := by
  refine ga_ofI (by decide +kernel) rfl gt_hcl (Nat.le_of_ble_eq_true rfl) (fun X hX C hret => ?_)
  exact gX6_rowOf_0 C (fun pc lv σ' z d hz hp => hret pc lv σ' z d ⟨hp, by rw [hz]⟩) hr0 hW rfl rfl h
-- X6_findFaces: findFaces()V
def fX6_findFaces_142 (k32 : gt_T × Int → Option (gt_T)) (T : gt_T) (l1 s0 s1 : Int) : Option (gt_T) :=
  (if (-2147483648 ≤ s0 + s1 ∧ s0 + s1 < 2147483648) ∧ (-2147483648 ≤ l1 + (1 : Int) ∧ l1 + (1 : Int) < 2147483648) then k32 (((va_up T.1 20 (s0 + s1)), T.2), l1 + (1 : Int)) else none)
def fX6_findFaces_128 (k32 : gt_T × Int → Option (gt_T)) (T : gt_T) (l1 l3 : Int) : Option (gt_T) :=
  (if l3 = 0 then fX6_findFaces_142 k32 T l1 (T.1 20) (0 : Int) else fX6_findFaces_142 k32 T l1 (T.1 20) (1 : Int))
def fX6_findFaces_72 (k32 : gt_T × Int → Option (gt_T)) (k72 : gt_T × Int × Int × Int → Option (gt_T)) (a : gt_T × Int × Int × Int) : Option (gt_T) :=
  (if a.2.2.2 = 0 then fX6_findFaces_128 k32 a.1 a.2.1 a.2.2.2 else (fX6_rowOf a.1 (Int.tdiv a.2.2.1 (2 : Int))).bind (fun (q85 : Int) => (if (-2147483648 ≤ (2 : Int) * q85 ∧ (2 : Int) * q85 < 2147483648) ∧ 0 ≤ a.2.2.1 ∧ (-2147483648 ≤ ((2 : Int) * q85) + (a.2.2.1 % (2 : Int)) ∧ ((2 : Int) * q85) + (a.2.2.1 % (2 : Int)) < 2147483648) ∧ (0 ≤ (((2 : Int) * q85) + (a.2.2.1 % (2 : Int))) ∧ (((2 : Int) * q85) + (a.2.2.1 % (2 : Int))) < 80) then (if 0 ≤ (a.1.2 22 (((2 : Int) * q85) + (a.2.2.1 % (2 : Int))).toNat) then fX6_findFaces_128 k32 a.1 a.2.1 a.2.2.2 else (fX6_rowOf a.1 (Int.tdiv a.2.2.1 (2 : Int))).bind (fun (q106 : Int) => (if (-2147483648 ≤ (2 : Int) * q106 ∧ (2 : Int) * q106 < 2147483648) ∧ 0 ≤ a.2.2.1 ∧ (-2147483648 ≤ ((2 : Int) * q106) + (a.2.2.1 % (2 : Int)) ∧ ((2 : Int) * q106) + (a.2.2.1 % (2 : Int)) < 2147483648) ∧ (0 ≤ (((2 : Int) * q106) + (a.2.2.1 % (2 : Int))) ∧ (((2 : Int) * q106) + (a.2.2.1 % (2 : Int))) < 80) then (fX6_turn (a.1.1, (va_up a.1.2 22 (va_up (a.1.2 22) (((2 : Int) * q106) + (a.2.2.1 % (2 : Int))).toNat (a.1.1 20)))) a.2.2.1).bind (fun (q121 : Int) => k72 ((a.1.1, (va_up a.1.2 22 (va_up (a.1.2 22) (((2 : Int) * q106) + (a.2.2.1 % (2 : Int))).toNat (a.1.1 20)))), a.2.1, q121, a.2.2.2)) else none))) else none)))
def fX6_findFaces_71 (k32 : gt_T × Int → Option (gt_T)) (T : gt_T) (l1 l2 s0 : Int) : Option (gt_T) :=
  gt_loop (fX6_findFaces_72 k32) gt_fuel (T, l1, l2, s0)
def fX6_findFaces_32 (k32 : gt_T × Int → Option (gt_T)) (a : gt_T × Int) : Option (gt_T) :=
  (if (-2147483648 ≤ (2 : Int) * (a.1.1 13) ∧ (2 : Int) * (a.1.1 13) < 2147483648) then (if ((2 : Int) * (a.1.1 13)) ≤ a.2 then some a.1 else (if (0 ≤ (Int.tdiv a.2 (2 : Int)) ∧ (Int.tdiv a.2 (2 : Int)) < 80) ∧ (-2147483648 ≤ (2 : Int) * (a.1.2 14 (Int.tdiv a.2 (2 : Int)).toNat) ∧ (2 : Int) * (a.1.2 14 (Int.tdiv a.2 (2 : Int)).toNat) < 2147483648) ∧ 0 ≤ a.2 ∧ (-2147483648 ≤ ((2 : Int) * (a.1.2 14 (Int.tdiv a.2 (2 : Int)).toNat)) + (a.2 % (2 : Int)) ∧ ((2 : Int) * (a.1.2 14 (Int.tdiv a.2 (2 : Int)).toNat)) + (a.2 % (2 : Int)) < 2147483648) ∧ (0 ≤ a.2 ∧ a.2 < 80) then (if 0 ≤ (a.1.2 22 a.2.toNat) then fX6_findFaces_71 k32 a.1 a.2 (((2 : Int) * (a.1.2 14 (Int.tdiv a.2 (2 : Int)).toNat)) + (a.2 % (2 : Int))) (0 : Int) else fX6_findFaces_71 k32 a.1 a.2 (((2 : Int) * (a.1.2 14 (Int.tdiv a.2 (2 : Int)).toNat)) + (a.2 % (2 : Int))) (1 : Int)) else none)) else none)
def fX6_findFaces_6 (k6 : gt_T × Int → Option (gt_T)) (a : gt_T × Int) : Option (gt_T) :=
  (if (80 : Int) ≤ a.2 then gt_loop (fX6_findFaces_32) gt_fuel (((va_up a.1.1 20 (0 : Int)), a.1.2), (0 : Int)) else (if (0 ≤ a.2 ∧ a.2 < 80) ∧ (-2147483648 ≤ a.2 + (1 : Int) ∧ a.2 + (1 : Int) < 2147483648) then k6 ((a.1.1, (va_up a.1.2 22 (va_up (a.1.2 22) a.2.toNat (-1 : Int)))), a.2 + (1 : Int)) else none))
def fX6_findFaces (T : gt_T) : Option (gt_T) :=
  (fX6_sort T).bind (fun (q1 : gt_T) => gt_loop (fX6_findFaces_6) gt_fuel (q1, (0 : Int)))
theorem iX6_findFaces_X6 : ∀ w ∈ u_ws RX6 TX6 23, w ∈ wsX6_findFaces := by decide +kernel
theorem kX6_findFaces_32 : Cond.fieldLink yX6_findFaces.cls 32 (TX6 14).1 (TX6 14).2.1 (TX6 14).2.2.1 ∈ wsX6_findFaces := by decide +kernel
theorem kX6_findFaces_51 : Cond.fieldLink yX6_findFaces.cls 51 (TX6 22).1 (TX6 22).2.1 (TX6 22).2.2.1 ∈ wsX6_findFaces := by decide +kernel
theorem kX6_findFaces_72 : Cond.fieldLink yX6_findFaces.cls 72 (TX6 13).1 (TX6 13).2.1 (TX6 13).2.2.1 ∈ wsX6_findFaces := by decide +kernel
theorem kX6_findFaces_90 : Cond.fieldLink yX6_findFaces.cls 90 (TX6 20).1 (TX6 20).2.1 (TX6 20).2.2.1 ∈ wsX6_findFaces := by decide +kernel
set_option maxHeartbeats 4000000 in
theorem gX6_findFaces_142 {X : ga_X} {D : va_G} {cI cZ : ClassId} {K : Nat} {r : Nat} {σ0 : ga_S} {res : gt_T} {k32 : gt_T × Int → Option (gt_T)} (C : ga_C X cX6_findFaces yX6_findFaces wsX6_findFaces [] (gt_rm 3 69) (D, vwCl, cI, cZ) 4) (hRet : ∀ (pc : Nat) (lv : Nat → Option ga_V) (σ' : ga_S), decode cX6_findFaces pc = .ok (.return_, 1) → (gt_O SX6 6 r res σ' ∧ gt_F r (r + 14) σ0 σ') → ga_G X 0 0 K pc lv [] σ') (hr0 : r ≠ 0) (hk32 : ∀ (a : gt_T × Int) (σ : ga_S) (lv : Nat → Option ga_V), gt_O SX6 6 r a.1 σ → gt_F r (r + 14) σ0 σ → lv 0 = some (.inr r) → lv 1 = some (.inl a.2) → k32 a = some res → ga_G X 0 0 K 32 lv [] σ) {T : gt_T} {σ : ga_S} {l1 s0 s1 : Int} {lv : Nat → Option ga_V} (hW : gt_O SX6 6 r T σ) (hF : gt_F r (r + 14) σ0 σ) (hl0 : lv 0 = some (.inr r)) (hl1 : lv 1 = some (.inl l1)) (h : fX6_findFaces_142 k32 T l1 s0 s1 = some res) : ga_G X 0 0 K 142 lv [.inl s1, .inl s0, .inr r] σ := by
  unfold fX6_findFaces_142 at h
  obtain ⟨hg, h⟩ := gt_gd h
  obtain ⟨g142_0, g146_1⟩ := hg
  refine ga_iadd C dX6_findFaces_142 g142_0 ?_
  refine gt_puti C okX6 (by decide) (iX6_findFaces_X6) tyX6 tyX6_ok nmX6 hW hF ⟨Nat.le_refl _, Nat.le_refl _⟩ 20 rfl rfl (by decide) kX6_findFaces_90 rfl (by decide +kernel) dX6_findFaces_143 (fun σ hW hF hf => ?_)
  refine ga_iinc C dX6_findFaces_146 hl1 g146_1 ?_
  refine ga_goto (tgt := 32) C dX6_findFaces_149 (by decide) ?_
  exact hk32 (((va_up T.1 20 (s0 + s1)), T.2), l1 + (1 : Int)) _ _ hW hF (gt_un (by decide) hl0) gt_us h
set_option maxHeartbeats 4000000 in
theorem gX6_findFaces_128 {X : ga_X} {D : va_G} {cI cZ : ClassId} {K : Nat} {r : Nat} {σ0 : ga_S} {res : gt_T} {k32 : gt_T × Int → Option (gt_T)} (C : ga_C X cX6_findFaces yX6_findFaces wsX6_findFaces [] (gt_rm 3 69) (D, vwCl, cI, cZ) 4) (hRet : ∀ (pc : Nat) (lv : Nat → Option ga_V) (σ' : ga_S), decode cX6_findFaces pc = .ok (.return_, 1) → (gt_O SX6 6 r res σ' ∧ gt_F r (r + 14) σ0 σ') → ga_G X 0 0 K pc lv [] σ') (hr0 : r ≠ 0) (hk32 : ∀ (a : gt_T × Int) (σ : ga_S) (lv : Nat → Option ga_V), gt_O SX6 6 r a.1 σ → gt_F r (r + 14) σ0 σ → lv 0 = some (.inr r) → lv 1 = some (.inl a.2) → k32 a = some res → ga_G X 0 0 K 32 lv [] σ) {T : gt_T} {σ : ga_S} {l1 l3 : Int} {lv : Nat → Option ga_V} (hW : gt_O SX6 6 r T σ) (hF : gt_F r (r + 14) σ0 σ) (hl0 : lv 0 = some (.inr r)) (hl1 : lv 1 = some (.inl l1)) (hl3 : lv 3 = some (.inl l3)) (h : fX6_findFaces_128 k32 T l1 l3 = some res) : ga_G X 0 0 K 128 lv [] σ := by
  unfold fX6_findFaces_128 at h
  refine ga_aload_n C dX6_findFaces_128 rfl hl0 hr0 ?_
  refine ga_dup C dX6_findFaces_129 ?_
  refine gt_geti C (iX6_findFaces_X6) hW 20 rfl rfl (by decide) kX6_findFaces_90 dX6_findFaces_130 ?_
  refine ga_iload_n C dX6_findFaces_133 rfl hl3 ?_
  refine ga_if_eq (tgt := 141) C dX6_findFaces_134 (by decide) (fun c1 => ?_) (fun c1 => ?_)
  · have h := gt_ip h c1
    refine ga_iconst C dX6_findFaces_141 ⟨by decide, by decide⟩ ?_
    exact gX6_findFaces_142 C hRet hr0 hk32 hW hF hl0 hl1 h
  · have h := gt_in h c1
    refine ga_iconst C dX6_findFaces_137 ⟨by decide, by decide⟩ ?_
    refine ga_goto (tgt := 142) C dX6_findFaces_138 (by decide) ?_
    exact gX6_findFaces_142 C hRet hr0 hk32 hW hF hl0 hl1 h
set_option maxHeartbeats 4000000 in
theorem gX6_findFaces_72 {X : ga_X} {D : va_G} {cI cZ : ClassId} {K : Nat} {r : Nat} {σ0 : ga_S} {res : gt_T} {k32 : gt_T × Int → Option (gt_T)} (C : ga_C X cX6_findFaces yX6_findFaces wsX6_findFaces [] (gt_rm 3 69) (D, vwCl, cI, cZ) 4) (hRet : ∀ (pc : Nat) (lv : Nat → Option ga_V) (σ' : ga_S), decode cX6_findFaces pc = .ok (.return_, 1) → (gt_O SX6 6 r res σ' ∧ gt_F r (r + 14) σ0 σ') → ga_G X 0 0 K pc lv [] σ') (hr0 : r ≠ 0) (hk32 : ∀ (a : gt_T × Int) (σ : ga_S) (lv : Nat → Option ga_V), gt_O SX6 6 r a.1 σ → gt_F r (r + 14) σ0 σ → lv 0 = some (.inr r) → lv 1 = some (.inl a.2) → k32 a = some res → ga_G X 0 0 K 32 lv [] σ) : ∀ (n : Nat) (a : gt_T × Int × Int × Int) (σ : ga_S) (lv : Nat → Option ga_V), gt_O SX6 6 r a.1 σ → gt_F r (r + 14) σ0 σ → lv 0 = some (.inr r) → lv 1 = some (.inl a.2.1) → lv 2 = some (.inl a.2.2.1) → lv 3 = some (.inl a.2.2.2) → gt_loop (fX6_findFaces_72 k32) n a = some res → ga_G X 0 0 K 72 lv [] σ := by
  intro n
  induction n with
  | zero =>
    intro a _ lv _ _ _ _ _ _ h
    exact absurd (show (none : Option _) = some _ from h) (fun q => by cases q)
  | succ n hk72 =>
    intro a σ lv hW hF hl0 hl1 hl2 hl3 h
    have h : fX6_findFaces_72 k32 (gt_loop (fX6_findFaces_72 k32) n) a = some res := h
    revert hk72 h
    generalize gt_loop (fX6_findFaces_72 k32) n = k72
    intro hk72 h
    unfold fX6_findFaces_72 at h
    refine ga_iload_n C dX6_findFaces_72 rfl hl3 ?_
    refine ga_if_eq (tgt := 128) C dX6_findFaces_73 (by decide) (fun c1 => ?_) (fun c1 => ?_)
    · have h := gt_ip h c1
      exact gX6_findFaces_128 C hRet hr0 hk32 hW hF hl0 hl1 hl3 h
    · have h := gt_in h c1
      refine ga_aload_n C dX6_findFaces_76 rfl hl0 hr0 ?_
      refine gt_geta C (iX6_findFaces_X6) hW 22 rfl rfl (by decide) kX6_findFaces_51 dX6_findFaces_77 ?_
      refine ga_iconst C dX6_findFaces_80 ⟨by decide, by decide⟩ ?_
      refine ga_aload_n C dX6_findFaces_81 rfl hl0 hr0 ?_
      refine ga_iload_n C dX6_findFaces_82 rfl hl2 ?_
      refine ga_iconst C dX6_findFaces_83 ⟨by decide, by decide⟩ ?_
      refine ga_idiv C dX6_findFaces_84 (by decide) ?_
      obtain ⟨q85, hq, h⟩ := Option.bind_eq_some_iff.mp h
      refine gt_cVi (n := 1) (st := [.inl (2 : Int), .inr (r + 13)]) C (eX6_rowOf X.2.1 D cI cZ K hr0 hW hq) gX6_findFaces_X6_rowOf rfl (by decide +kernel) rfl ⟨Nat.le_of_ble_eq_true rfl, Nat.le_of_ble_eq_true rfl⟩ hW.1 rfl rfl (Nat.le_of_ble_eq_true rfl) rfl dX6_findFaces_85 (fun σ' hp => ?_)
      subst hp
      obtain ⟨hg, h⟩ := gt_gd h
      obtain ⟨g88_0, g91_1, g92_2, g93_3⟩ := hg
      refine ga_imul C dX6_findFaces_88 g88_0 ?_
      refine ga_iload_n C dX6_findFaces_89 rfl hl2 ?_
      refine ga_iconst C dX6_findFaces_90 ⟨by decide, by decide⟩ ?_
      refine ga_irem C dX6_findFaces_91 (by decide) g91_1 ?_
      refine ga_iadd C dX6_findFaces_92 g92_2 ?_
      refine gt_iald C hW 22 rfl g93_3.1 g93_3.2 dX6_findFaces_93 ?_
      refine ga_if_ge (tgt := 128) C dX6_findFaces_94 (by decide) (fun c1 => ?_) (fun c1 => ?_)
      · have h := gt_ip h c1
        exact gX6_findFaces_128 C hRet hr0 hk32 hW hF hl0 hl1 hl3 h
      · have h := gt_in h c1
        refine ga_aload_n C dX6_findFaces_97 rfl hl0 hr0 ?_
        refine gt_geta C (iX6_findFaces_X6) hW 22 rfl rfl (by decide) kX6_findFaces_51 dX6_findFaces_98 ?_
        refine ga_iconst C dX6_findFaces_101 ⟨by decide, by decide⟩ ?_
        refine ga_aload_n C dX6_findFaces_102 rfl hl0 hr0 ?_
        refine ga_iload_n C dX6_findFaces_103 rfl hl2 ?_
        refine ga_iconst C dX6_findFaces_104 ⟨by decide, by decide⟩ ?_
        refine ga_idiv C dX6_findFaces_105 (by decide) ?_
        obtain ⟨q106, hq, h⟩ := Option.bind_eq_some_iff.mp h
        refine gt_cVi (n := 1) (st := [.inl (2 : Int), .inr (r + 13)]) C (eX6_rowOf X.2.1 D cI cZ K hr0 hW hq) gX6_findFaces_X6_rowOf rfl (by decide +kernel) rfl ⟨Nat.le_of_ble_eq_true rfl, Nat.le_of_ble_eq_true rfl⟩ hW.1 rfl rfl (Nat.le_of_ble_eq_true rfl) rfl dX6_findFaces_106 (fun σ' hp => ?_)
        subst hp
        obtain ⟨hg, h⟩ := gt_gd h
        obtain ⟨g109_0, g112_1, g113_2, g118_3⟩ := hg
        refine ga_imul C dX6_findFaces_109 g109_0 ?_
        refine ga_iload_n C dX6_findFaces_110 rfl hl2 ?_
        refine ga_iconst C dX6_findFaces_111 ⟨by decide, by decide⟩ ?_
        refine ga_irem C dX6_findFaces_112 (by decide) g112_1 ?_
        refine ga_iadd C dX6_findFaces_113 g113_2 ?_
        refine ga_aload_n C dX6_findFaces_114 rfl hl0 hr0 ?_
        refine gt_geti C (iX6_findFaces_X6) hW 20 rfl rfl (by decide) kX6_findFaces_90 dX6_findFaces_115 ?_
        refine gt_iast C okX6 hW hF ⟨Nat.le_refl _, Nat.le_refl _⟩ 22 rfl g118_3.1 g118_3.2 dX6_findFaces_118 (fun σ hW hF hf => ?_)
        refine ga_aload_n C dX6_findFaces_119 rfl hl0 hr0 ?_
        refine ga_iload_n C dX6_findFaces_120 rfl hl2 ?_
        obtain ⟨q121, hq, h⟩ := Option.bind_eq_some_iff.mp h
        refine gt_cVi (n := 1) (st := []) C (eX6_turn X.2.1 D cI cZ K hr0 hW hq) gX6_findFaces_X6_turn rfl (by decide +kernel) rfl ⟨Nat.le_of_ble_eq_true rfl, Nat.le_of_ble_eq_true rfl⟩ hW.1 rfl rfl (Nat.le_of_ble_eq_true rfl) rfl dX6_findFaces_121 (fun σ' hp => ?_)
        subst hp
        refine ga_istore_n C dX6_findFaces_124 rfl (by decide) ?_
        refine ga_goto (tgt := 72) C dX6_findFaces_125 (by decide) ?_
        exact hk72 ((a.1.1, (va_up a.1.2 22 (va_up (a.1.2 22) (((2 : Int) * q106) + (a.2.2.1 % (2 : Int))).toNat (a.1.1 20)))), a.2.1, q121, a.2.2.2) _ _ hW hF (gt_un (by decide) hl0) (gt_un (by decide) hl1) gt_us (gt_un (by decide) hl3) h
set_option maxHeartbeats 4000000 in
theorem gX6_findFaces_71 {X : ga_X} {D : va_G} {cI cZ : ClassId} {K : Nat} {r : Nat} {σ0 : ga_S} {res : gt_T} {k32 : gt_T × Int → Option (gt_T)} (C : ga_C X cX6_findFaces yX6_findFaces wsX6_findFaces [] (gt_rm 3 69) (D, vwCl, cI, cZ) 4) (hRet : ∀ (pc : Nat) (lv : Nat → Option ga_V) (σ' : ga_S), decode cX6_findFaces pc = .ok (.return_, 1) → (gt_O SX6 6 r res σ' ∧ gt_F r (r + 14) σ0 σ') → ga_G X 0 0 K pc lv [] σ') (hr0 : r ≠ 0) (hk32 : ∀ (a : gt_T × Int) (σ : ga_S) (lv : Nat → Option ga_V), gt_O SX6 6 r a.1 σ → gt_F r (r + 14) σ0 σ → lv 0 = some (.inr r) → lv 1 = some (.inl a.2) → k32 a = some res → ga_G X 0 0 K 32 lv [] σ) {T : gt_T} {σ : ga_S} {l1 l2 s0 : Int} {lv : Nat → Option ga_V} (hW : gt_O SX6 6 r T σ) (hF : gt_F r (r + 14) σ0 σ) (hl0 : lv 0 = some (.inr r)) (hl1 : lv 1 = some (.inl l1)) (hl2 : lv 2 = some (.inl l2)) (h : fX6_findFaces_71 k32 T l1 l2 s0 = some res) : ga_G X 0 0 K 71 lv [.inl s0] σ := by
  unfold fX6_findFaces_71 at h
  refine ga_istore_n C dX6_findFaces_71 rfl (by decide) ?_
  exact gX6_findFaces_72 C hRet hr0 hk32 gt_fuel (T, l1, l2, s0) _ _ hW hF (gt_un (by decide) hl0) (gt_un (by decide) hl1) (gt_un (by decide) hl2) gt_us h
set_option maxHeartbeats 4000000 in
theorem gX6_findFaces_32 {X : ga_X} {D : va_G} {cI cZ : ClassId} {K : Nat} {r : Nat} {σ0 : ga_S} {res : gt_T} (C : ga_C X cX6_findFaces yX6_findFaces wsX6_findFaces [] (gt_rm 3 69) (D, vwCl, cI, cZ) 4) (hRet : ∀ (pc : Nat) (lv : Nat → Option ga_V) (σ' : ga_S), decode cX6_findFaces pc = .ok (.return_, 1) → (gt_O SX6 6 r res σ' ∧ gt_F r (r + 14) σ0 σ') → ga_G X 0 0 K pc lv [] σ') (hr0 : r ≠ 0) : ∀ (n : Nat) (a : gt_T × Int) (σ : ga_S) (lv : Nat → Option ga_V), gt_O SX6 6 r a.1 σ → gt_F r (r + 14) σ0 σ → lv 0 = some (.inr r) → lv 1 = some (.inl a.2) → gt_loop (fX6_findFaces_32) n a = some res → ga_G X 0 0 K 32 lv [] σ := by
  intro n
  induction n with
  | zero =>
    intro a _ lv _ _ _ _ h
    exact absurd (show (none : Option _) = some _ from h) (fun q => by cases q)
  | succ n hk32 =>
    intro a σ lv hW hF hl0 hl1 h
    have h : fX6_findFaces_32 (gt_loop (fX6_findFaces_32) n) a = some res := h
    revert hk32 h
    generalize gt_loop (fX6_findFaces_32) n = k32
    intro hk32 h
    unfold fX6_findFaces_32 at h
    obtain ⟨hg, h⟩ := gt_gd h
    have g38_0 := hg
    refine ga_iload_n C dX6_findFaces_32 rfl hl1 ?_
    refine ga_iconst C dX6_findFaces_33 ⟨by decide, by decide⟩ ?_
    refine ga_aload_n C dX6_findFaces_34 rfl hl0 hr0 ?_
    refine gt_geti C (iX6_findFaces_X6) hW 13 rfl rfl (by decide) kX6_findFaces_72 dX6_findFaces_35 ?_
    refine ga_imul C dX6_findFaces_38 g38_0 ?_
    refine ga_icmp_ge (tgt := 152) C dX6_findFaces_39 (by decide) (fun c1 => ?_) (fun c1 => ?_)
    · have h := gt_ip h c1
      cases h
      exact hRet _ _ _ dX6_findFaces_152 ⟨hW, hF⟩
    · have h := gt_in h c1
      obtain ⟨hg, h⟩ := gt_gd h
      obtain ⟨g50_0, g51_1, g54_2, g55_3, g62_4⟩ := hg
      refine ga_iconst C dX6_findFaces_42 ⟨by decide, by decide⟩ ?_
      refine ga_aload_n C dX6_findFaces_43 rfl hl0 hr0 ?_
      refine gt_geta C (iX6_findFaces_X6) hW 14 rfl rfl (by decide) kX6_findFaces_32 dX6_findFaces_44 ?_
      refine ga_iload_n C dX6_findFaces_47 rfl hl1 ?_
      refine ga_iconst C dX6_findFaces_48 ⟨by decide, by decide⟩ ?_
      refine ga_idiv C dX6_findFaces_49 (by decide) ?_
      refine gt_iald C hW 14 rfl g50_0.1 g50_0.2 dX6_findFaces_50 ?_
      refine ga_imul C dX6_findFaces_51 g51_1 ?_
      refine ga_iload_n C dX6_findFaces_52 rfl hl1 ?_
      refine ga_iconst C dX6_findFaces_53 ⟨by decide, by decide⟩ ?_
      refine ga_irem C dX6_findFaces_54 (by decide) g54_2 ?_
      refine ga_iadd C dX6_findFaces_55 g55_3 ?_
      refine ga_istore_n C dX6_findFaces_56 rfl (by decide) ?_
      refine ga_aload_n C dX6_findFaces_57 rfl (gt_un (by decide) hl0) hr0 ?_
      refine gt_geta C (iX6_findFaces_X6) hW 22 rfl rfl (by decide) kX6_findFaces_51 dX6_findFaces_58 ?_
      refine ga_iload_n C dX6_findFaces_61 rfl (gt_un (by decide) hl1) ?_
      refine gt_iald C hW 22 rfl g62_4.1 g62_4.2 dX6_findFaces_62 ?_
      refine ga_if_ge (tgt := 70) C dX6_findFaces_63 (by decide) (fun c1 => ?_) (fun c1 => ?_)
      · have h := gt_ip h c1
        refine ga_iconst C dX6_findFaces_70 ⟨by decide, by decide⟩ ?_
        exact gX6_findFaces_71 C hRet hr0 hk32 hW hF (gt_un (by decide) hl0) (gt_un (by decide) hl1) gt_us h
      · have h := gt_in h c1
        refine ga_iconst C dX6_findFaces_66 ⟨by decide, by decide⟩ ?_
        refine ga_goto (tgt := 71) C dX6_findFaces_67 (by decide) ?_
        exact gX6_findFaces_71 C hRet hr0 hk32 hW hF (gt_un (by decide) hl0) (gt_un (by decide) hl1) gt_us h
set_option maxHeartbeats 4000000 in
theorem gX6_findFaces_6 {X : ga_X} {D : va_G} {cI cZ : ClassId} {K : Nat} {r : Nat} {σ0 : ga_S} {res : gt_T} (C : ga_C X cX6_findFaces yX6_findFaces wsX6_findFaces [] (gt_rm 3 69) (D, vwCl, cI, cZ) 4) (hRet : ∀ (pc : Nat) (lv : Nat → Option ga_V) (σ' : ga_S), decode cX6_findFaces pc = .ok (.return_, 1) → (gt_O SX6 6 r res σ' ∧ gt_F r (r + 14) σ0 σ') → ga_G X 0 0 K pc lv [] σ') (hr0 : r ≠ 0) : ∀ (n : Nat) (a : gt_T × Int) (σ : ga_S) (lv : Nat → Option ga_V), gt_O SX6 6 r a.1 σ → gt_F r (r + 14) σ0 σ → lv 0 = some (.inr r) → lv 1 = some (.inl a.2) → gt_loop (fX6_findFaces_6) n a = some res → ga_G X 0 0 K 6 lv [] σ := by
  intro n
  induction n with
  | zero =>
    intro a _ lv _ _ _ _ h
    exact absurd (show (none : Option _) = some _ from h) (fun q => by cases q)
  | succ n hk6 =>
    intro a σ lv hW hF hl0 hl1 h
    have h : fX6_findFaces_6 (gt_loop (fX6_findFaces_6) n) a = some res := h
    revert hk6 h
    generalize gt_loop (fX6_findFaces_6) n = k6
    intro hk6 h
    unfold fX6_findFaces_6 at h
    refine ga_iload_n C dX6_findFaces_6 rfl hl1 ?_
    refine ga_bipush C dX6_findFaces_7 ⟨by decide, by decide⟩ (by decide) ?_
    refine ga_icmp_ge (tgt := 25) C dX6_findFaces_9 (by decide) (fun c1 => ?_) (fun c1 => ?_)
    · have h := gt_ip h c1
      refine ga_aload_n C dX6_findFaces_25 rfl hl0 hr0 ?_
      refine ga_iconst C dX6_findFaces_26 ⟨by decide, by decide⟩ ?_
      refine gt_puti C okX6 (by decide) (iX6_findFaces_X6) tyX6 tyX6_ok nmX6 hW hF ⟨Nat.le_refl _, Nat.le_refl _⟩ 20 rfl rfl (by decide) kX6_findFaces_90 rfl (by decide +kernel) dX6_findFaces_27 (fun σ hW hF hf => ?_)
      refine ga_iconst C dX6_findFaces_30 ⟨by decide, by decide⟩ ?_
      refine ga_istore_n C dX6_findFaces_31 rfl (by decide) ?_
      exact gX6_findFaces_32 C hRet hr0 gt_fuel (((va_up a.1.1 20 (0 : Int)), a.1.2), (0 : Int)) _ _ hW hF (gt_un (by decide) hl0) gt_us h
    · have h := gt_in h c1
      obtain ⟨hg, h⟩ := gt_gd h
      obtain ⟨g18_0, g19_1⟩ := hg
      refine ga_aload_n C dX6_findFaces_12 rfl hl0 hr0 ?_
      refine gt_geta C (iX6_findFaces_X6) hW 22 rfl rfl (by decide) kX6_findFaces_51 dX6_findFaces_13 ?_
      refine ga_iload_n C dX6_findFaces_16 rfl hl1 ?_
      refine ga_iconst C dX6_findFaces_17 ⟨by decide, by decide⟩ ?_
      refine gt_iast C okX6 hW hF ⟨Nat.le_refl _, Nat.le_refl _⟩ 22 rfl g18_0.1 g18_0.2 dX6_findFaces_18 (fun σ hW hF hf => ?_)
      refine ga_iinc C dX6_findFaces_19 hl1 g19_1 ?_
      refine ga_goto (tgt := 6) C dX6_findFaces_22 (by decide) ?_
      exact hk6 ((a.1.1, (va_up a.1.2 22 (va_up (a.1.2 22) a.2.toNat (-1 : Int)))), a.2 + (1 : Int)) _ _ hW hF (gt_un (by decide) hl0) gt_us h
set_option maxHeartbeats 4000000 in
theorem gX6_findFaces_0 {X : ga_X} {D : va_G} {cI cZ : ClassId} {K : Nat} {r : Nat} {σ0 : ga_S} {res : gt_T} (C : ga_C X cX6_findFaces yX6_findFaces wsX6_findFaces [] (gt_rm 3 69) (D, vwCl, cI, cZ) 4) (hRet : ∀ (pc : Nat) (lv : Nat → Option ga_V) (σ' : ga_S), decode cX6_findFaces pc = .ok (.return_, 1) → (gt_O SX6 6 r res σ' ∧ gt_F r (r + 14) σ0 σ') → ga_G X 0 0 K pc lv [] σ') (hr0 : r ≠ 0) {T : gt_T} {σ : ga_S} {lv : Nat → Option ga_V} (hW : gt_O SX6 6 r T σ) (hF : gt_F r (r + 14) σ0 σ) (hl0 : lv 0 = some (.inr r)) (h : fX6_findFaces T = some res) : ga_G X 0 0 K 0 lv [] σ := by
  unfold fX6_findFaces at h
  refine ga_aload_n C dX6_findFaces_0 rfl hl0 hr0 ?_
  obtain ⟨q1, hq, h⟩ := Option.bind_eq_some_iff.mp h
  refine gt_cVv (n := 0) (st := []) C (eX6_sort X.2.1 D cI cZ K hr0 hW hq) gX6_findFaces_X6_sort rfl (by decide +kernel) rfl ⟨Nat.le_of_ble_eq_true rfl, Nat.le_of_ble_eq_true rfl⟩ hW.1 rfl rfl (Nat.le_of_ble_eq_true rfl) rfl dX6_findFaces_1 (fun σ' hp => ?_)
  obtain ⟨hw, hf⟩ := hp
  have hF := hF.tr hf (Nat.le_refl _) (Nat.le_refl _)
  have hW := hw
  clear hf
  refine ga_iconst C dX6_findFaces_4 ⟨by decide, by decide⟩ ?_
  refine ga_istore_n C dX6_findFaces_5 rfl (by decide) ?_
  exact gX6_findFaces_6 C hRet hr0 gt_fuel (q1, (0 : Int)) _ _ hW hF (gt_un (by decide) hl0) gt_us h
set_option maxHeartbeats 4000000 in
theorem eX6_findFaces (l : Launch) (D : va_G) (cI cZ : ClassId) (K : Nat) {r : Nat} (hr0 : r ≠ 0) {σ : ga_S} {T : gt_T} (hW : gt_O SX6 6 r T σ) {res : gt_T} (h : fX6_findFaces T = some res) : ga_Ev l (D, vwCl, cI, cZ) yX6_findFaces wsX6_findFaces (gt_rm 3 69) [] 0 0 K [.inr r] σ (fun σ' rv => (gt_O SX6 6 r res σ' ∧ gt_F r (r + 14) σ σ') ∧ rv = none) := by
  refine ga_ofV (by decide +kernel) rfl gt_hcl (Nat.le_of_ble_eq_true rfl) (fun X hX C hret => ?_)
  exact gX6_findFaces_0 C (fun pc lv σ' d hp => hret pc lv σ' d ⟨hp, rfl⟩) hr0 hW gt_F.rf rfl h
-- X6_facesAt: facesAt(I)I
def fX6_facesAt_90 (T : gt_T) (k7 : Int × Int × Int × Int → Option (Int)) (l1 l2 l4 s0 : Int) : Option (Int) :=
  (if (-2147483648 ≤ l4 + (1 : Int) ∧ l4 + (1 : Int) < 2147483648) then k7 (l1, l2, s0, l4 + (1 : Int)) else none)
def fX6_facesAt_72 (T : gt_T) (k7 : Int × Int × Int × Int → Option (Int)) (l1 l3 l4 l5 s0 s1 : Int) : Option (Int) :=
  (if (-2147483648 ≤ s0 + s1 ∧ s0 + s1 < 2147483648) then (if l5 = 0 then fX6_facesAt_90 T k7 l1 (s0 + s1) l4 l3 else (if (0 ≤ l4 ∧ l4 < 80) then fX6_facesAt_90 T k7 l1 (s0 + s1) l4 (T.2 22 l4.toNat) else none)) else none)
def fX6_facesAt_71 (T : gt_T) (k7 : Int × Int × Int × Int → Option (Int)) (l1 l3 l4 l5 s0 : Int) : Option (Int) :=
  fX6_facesAt_72 T k7 l1 l3 l4 l5 s0 (0 : Int)
def fX6_facesAt_34 (T : gt_T) (k7 : Int × Int × Int × Int → Option (Int)) (l1 l2 l3 l4 s0 : Int) : Option (Int) :=
  (if s0 = 0 then fX6_facesAt_71 T k7 l1 l3 l4 s0 l2 else (if (0 ≤ (Int.tdiv l4 (2 : Int)) ∧ (Int.tdiv l4 (2 : Int)) < 80) then (fX6_placeOf T (T.2 14 (Int.tdiv l4 (2 : Int)).toNat) (1 : Int)).bind (fun (q57 : Int) => (if (0 ≤ (Int.tdiv q57 (4 : Int)) ∧ (Int.tdiv q57 (4 : Int)) < 20) then (if (T.2 18 (Int.tdiv q57 (4 : Int)).toNat) = l1 then fX6_facesAt_72 T k7 l1 l3 l4 s0 l2 (1 : Int) else fX6_facesAt_71 T k7 l1 l3 l4 s0 l2) else none)) else none))
def fX6_facesAt_7 (T : gt_T) (k7 : Int × Int × Int × Int → Option (Int)) (a : Int × Int × Int × Int) : Option (Int) :=
  (if (-2147483648 ≤ (2 : Int) * (T.1 13) ∧ (2 : Int) * (T.1 13) < 2147483648) then (if ((2 : Int) * (T.1 13)) ≤ a.2.2.2 then some a.2.1 else (if (0 ≤ a.2.2.2 ∧ a.2.2.2 < 80) then (if (T.2 22 a.2.2.2.toNat) ≤ a.2.2.1 then fX6_facesAt_34 T k7 a.1 a.2.1 a.2.2.1 a.2.2.2 (0 : Int) else fX6_facesAt_34 T k7 a.1 a.2.1 a.2.2.1 a.2.2.2 (1 : Int)) else none)) else none)
def fX6_facesAt (T : gt_T) (l1 : Int) : Option (Int) :=
  gt_loop (fX6_facesAt_7 T) gt_fuel (l1, (0 : Int), (-1 : Int), (0 : Int))
theorem iX6_facesAt_X6 : ∀ w ∈ u_ws RX6 TX6 23, w ∈ wsX6_facesAt := by decide +kernel
theorem kX6_facesAt_32 : Cond.fieldLink yX6_facesAt.cls 32 (TX6 14).1 (TX6 14).2.1 (TX6 14).2.2.1 ∈ wsX6_facesAt := by decide +kernel
theorem kX6_facesAt_45 : Cond.fieldLink yX6_facesAt.cls 45 (TX6 18).1 (TX6 18).2.1 (TX6 18).2.2.1 ∈ wsX6_facesAt := by decide +kernel
theorem kX6_facesAt_51 : Cond.fieldLink yX6_facesAt.cls 51 (TX6 22).1 (TX6 22).2.1 (TX6 22).2.2.1 ∈ wsX6_facesAt := by decide +kernel
theorem kX6_facesAt_72 : Cond.fieldLink yX6_facesAt.cls 72 (TX6 13).1 (TX6 13).2.1 (TX6 13).2.2.1 ∈ wsX6_facesAt := by decide +kernel
set_option maxHeartbeats 4000000 in
theorem gX6_facesAt_90 {X : ga_X} {D : va_G} {cI cZ : ClassId} {K : Nat} {r : Nat} {res : Int} {T : gt_T} {σ : ga_S} {k7 : Int × Int × Int × Int → Option (Int)} (C : ga_C X cX6_facesAt yX6_facesAt wsX6_facesAt [] (gt_rm 2 46) (D, vwCl, cI, cZ) 6) (hRet : ∀ (pc : Nat) (lv : Nat → Option ga_V) (σ' : ga_S) (z : Int), decode cX6_facesAt pc = .ok (.ireturn, 1) → z = res → (σ' = σ) → ga_G X 0 0 K pc lv [.inl z] σ') (hr0 : r ≠ 0) (hk7 : ∀ (a : Int × Int × Int × Int) (lv : Nat → Option ga_V), gt_O SX6 6 r T σ → lv 0 = some (.inr r) → lv 1 = some (.inl a.1) → lv 2 = some (.inl a.2.1) → lv 3 = some (.inl a.2.2.1) → lv 4 = some (.inl a.2.2.2) → k7 a = some res → ga_G X 0 0 K 7 lv [] σ) {l1 l2 l4 s0 : Int} {lv : Nat → Option ga_V} (hW : gt_O SX6 6 r T σ) (hl0 : lv 0 = some (.inr r)) (hl1 : lv 1 = some (.inl l1)) (hl2 : lv 2 = some (.inl l2)) (hl4 : lv 4 = some (.inl l4)) (h : fX6_facesAt_90 T k7 l1 l2 l4 s0 = some res) : ga_G X 0 0 K 90 lv [.inl s0] σ := by
  unfold fX6_facesAt_90 at h
  obtain ⟨hg, h⟩ := gt_gd h
  have g91_0 := hg
  refine ga_istore_n C dX6_facesAt_90 rfl (by decide) ?_
  refine ga_iinc C dX6_facesAt_91 (gt_un (by decide) hl4) g91_0 ?_
  refine ga_goto (tgt := 7) C dX6_facesAt_94 (by decide) ?_
  exact hk7 (l1, l2, s0, l4 + (1 : Int)) _ hW (gt_un (by decide) (gt_un (by decide) hl0)) (gt_un (by decide) (gt_un (by decide) hl1)) (gt_un (by decide) (gt_un (by decide) hl2)) (gt_un (by decide) gt_us) gt_us h
set_option maxHeartbeats 4000000 in
theorem gX6_facesAt_72 {X : ga_X} {D : va_G} {cI cZ : ClassId} {K : Nat} {r : Nat} {res : Int} {T : gt_T} {σ : ga_S} {k7 : Int × Int × Int × Int → Option (Int)} (C : ga_C X cX6_facesAt yX6_facesAt wsX6_facesAt [] (gt_rm 2 46) (D, vwCl, cI, cZ) 6) (hRet : ∀ (pc : Nat) (lv : Nat → Option ga_V) (σ' : ga_S) (z : Int), decode cX6_facesAt pc = .ok (.ireturn, 1) → z = res → (σ' = σ) → ga_G X 0 0 K pc lv [.inl z] σ') (hr0 : r ≠ 0) (hk7 : ∀ (a : Int × Int × Int × Int) (lv : Nat → Option ga_V), gt_O SX6 6 r T σ → lv 0 = some (.inr r) → lv 1 = some (.inl a.1) → lv 2 = some (.inl a.2.1) → lv 3 = some (.inl a.2.2.1) → lv 4 = some (.inl a.2.2.2) → k7 a = some res → ga_G X 0 0 K 7 lv [] σ) {l1 l3 l4 l5 s0 s1 : Int} {lv : Nat → Option ga_V} (hW : gt_O SX6 6 r T σ) (hl0 : lv 0 = some (.inr r)) (hl1 : lv 1 = some (.inl l1)) (hl3 : lv 3 = some (.inl l3)) (hl4 : lv 4 = some (.inl l4)) (hl5 : lv 5 = some (.inl l5)) (h : fX6_facesAt_72 T k7 l1 l3 l4 l5 s0 s1 = some res) : ga_G X 0 0 K 72 lv [.inl s1, .inl s0] σ := by
  unfold fX6_facesAt_72 at h
  obtain ⟨hg, h⟩ := gt_gd h
  have g72_0 := hg
  refine ga_iadd C dX6_facesAt_72 g72_0 ?_
  refine ga_istore_n C dX6_facesAt_73 rfl (by decide) ?_
  refine ga_iload C dX6_facesAt_74 (gt_un (by decide) hl5) ?_
  refine ga_if_eq (tgt := 89) C dX6_facesAt_76 (by decide) (fun c1 => ?_) (fun c1 => ?_)
  · have h := gt_ip h c1
    refine ga_iload_n C dX6_facesAt_89 rfl (gt_un (by decide) hl3) ?_
    exact gX6_facesAt_90 C hRet hr0 hk7 hW (gt_un (by decide) hl0) (gt_un (by decide) hl1) gt_us (gt_un (by decide) hl4) h
  · have h := gt_in h c1
    obtain ⟨hg, h⟩ := gt_gd h
    have g85_0 := hg
    refine ga_aload_n C dX6_facesAt_79 rfl (gt_un (by decide) hl0) hr0 ?_
    refine gt_geta C (iX6_facesAt_X6) hW 22 rfl rfl (by decide) kX6_facesAt_51 dX6_facesAt_80 ?_
    refine ga_iload C dX6_facesAt_83 (gt_un (by decide) hl4) ?_
    refine gt_iald C hW 22 rfl g85_0.1 g85_0.2 dX6_facesAt_85 ?_
    refine ga_goto (tgt := 90) C dX6_facesAt_86 (by decide) ?_
    exact gX6_facesAt_90 C hRet hr0 hk7 hW (gt_un (by decide) hl0) (gt_un (by decide) hl1) gt_us (gt_un (by decide) hl4) h
set_option maxHeartbeats 4000000 in
theorem gX6_facesAt_71 {X : ga_X} {D : va_G} {cI cZ : ClassId} {K : Nat} {r : Nat} {res : Int} {T : gt_T} {σ : ga_S} {k7 : Int × Int × Int × Int → Option (Int)} (C : ga_C X cX6_facesAt yX6_facesAt wsX6_facesAt [] (gt_rm 2 46) (D, vwCl, cI, cZ) 6) (hRet : ∀ (pc : Nat) (lv : Nat → Option ga_V) (σ' : ga_S) (z : Int), decode cX6_facesAt pc = .ok (.ireturn, 1) → z = res → (σ' = σ) → ga_G X 0 0 K pc lv [.inl z] σ') (hr0 : r ≠ 0) (hk7 : ∀ (a : Int × Int × Int × Int) (lv : Nat → Option ga_V), gt_O SX6 6 r T σ → lv 0 = some (.inr r) → lv 1 = some (.inl a.1) → lv 2 = some (.inl a.2.1) → lv 3 = some (.inl a.2.2.1) → lv 4 = some (.inl a.2.2.2) → k7 a = some res → ga_G X 0 0 K 7 lv [] σ) {l1 l3 l4 l5 s0 : Int} {lv : Nat → Option ga_V} (hW : gt_O SX6 6 r T σ) (hl0 : lv 0 = some (.inr r)) (hl1 : lv 1 = some (.inl l1)) (hl3 : lv 3 = some (.inl l3)) (hl4 : lv 4 = some (.inl l4)) (hl5 : lv 5 = some (.inl l5)) (h : fX6_facesAt_71 T k7 l1 l3 l4 l5 s0 = some res) : ga_G X 0 0 K 71 lv [.inl s0] σ := by
  unfold fX6_facesAt_71 at h
  refine ga_iconst C dX6_facesAt_71 ⟨by decide, by decide⟩ ?_
  exact gX6_facesAt_72 C hRet hr0 hk7 hW hl0 hl1 hl3 hl4 hl5 h
set_option maxHeartbeats 4000000 in
theorem gX6_facesAt_34 {X : ga_X} {D : va_G} {cI cZ : ClassId} {K : Nat} {r : Nat} {res : Int} {T : gt_T} {σ : ga_S} {k7 : Int × Int × Int × Int → Option (Int)} (C : ga_C X cX6_facesAt yX6_facesAt wsX6_facesAt [] (gt_rm 2 46) (D, vwCl, cI, cZ) 6) (hRet : ∀ (pc : Nat) (lv : Nat → Option ga_V) (σ' : ga_S) (z : Int), decode cX6_facesAt pc = .ok (.ireturn, 1) → z = res → (σ' = σ) → ga_G X 0 0 K pc lv [.inl z] σ') (hr0 : r ≠ 0) (hk7 : ∀ (a : Int × Int × Int × Int) (lv : Nat → Option ga_V), gt_O SX6 6 r T σ → lv 0 = some (.inr r) → lv 1 = some (.inl a.1) → lv 2 = some (.inl a.2.1) → lv 3 = some (.inl a.2.2.1) → lv 4 = some (.inl a.2.2.2) → k7 a = some res → ga_G X 0 0 K 7 lv [] σ) {l1 l2 l3 l4 s0 : Int} {lv : Nat → Option ga_V} (hW : gt_O SX6 6 r T σ) (hl0 : lv 0 = some (.inr r)) (hl1 : lv 1 = some (.inl l1)) (hl2 : lv 2 = some (.inl l2)) (hl3 : lv 3 = some (.inl l3)) (hl4 : lv 4 = some (.inl l4)) (h : fX6_facesAt_34 T k7 l1 l2 l3 l4 s0 = some res) : ga_G X 0 0 K 34 lv [.inl s0] σ := by
  unfold fX6_facesAt_34 at h
  refine ga_istore C dX6_facesAt_34 (by decide) ?_
  refine ga_iload_n C dX6_facesAt_36 rfl (gt_un (by decide) hl2) ?_
  refine ga_iload C dX6_facesAt_37 gt_us ?_
  refine ga_if_eq (tgt := 71) C dX6_facesAt_39 (by decide) (fun c1 => ?_) (fun c1 => ?_)
  · have h := gt_ip h c1
    exact gX6_facesAt_71 C hRet hr0 hk7 hW (gt_un (by decide) hl0) (gt_un (by decide) hl1) (gt_un (by decide) hl3) (gt_un (by decide) hl4) gt_us h
  · have h := gt_in h c1
    obtain ⟨hg, h⟩ := gt_gd h
    have g55_0 := hg
    refine ga_aload_n C dX6_facesAt_42 rfl (gt_un (by decide) hl0) hr0 ?_
    refine gt_geta C (iX6_facesAt_X6) hW 18 rfl rfl (by decide) kX6_facesAt_45 dX6_facesAt_43 ?_
    refine ga_aload_n C dX6_facesAt_46 rfl (gt_un (by decide) hl0) hr0 ?_
    refine ga_aload_n C dX6_facesAt_47 rfl (gt_un (by decide) hl0) hr0 ?_
    refine gt_geta C (iX6_facesAt_X6) hW 14 rfl rfl (by decide) kX6_facesAt_32 dX6_facesAt_48 ?_
    refine ga_iload C dX6_facesAt_51 (gt_un (by decide) hl4) ?_
    refine ga_iconst C dX6_facesAt_53 ⟨by decide, by decide⟩ ?_
    refine ga_idiv C dX6_facesAt_54 (by decide) ?_
    refine gt_iald C hW 14 rfl g55_0.1 g55_0.2 dX6_facesAt_55 ?_
    refine ga_iconst C dX6_facesAt_56 ⟨by decide, by decide⟩ ?_
    obtain ⟨q57, hq, h⟩ := Option.bind_eq_some_iff.mp h
    refine gt_cVi (n := 2) (st := [.inr (r + 11), .inl l2]) C (eX6_placeOf X.2.1 D cI cZ K hr0 hW hq) gX6_facesAt_X6_placeOf rfl (by decide +kernel) rfl ⟨Nat.le_of_ble_eq_true rfl, Nat.le_of_ble_eq_true rfl⟩ hW.1 rfl rfl (Nat.le_of_ble_eq_true rfl) rfl dX6_facesAt_57 (fun σ' hp => ?_)
    subst hp
    obtain ⟨hg, h⟩ := gt_gd h
    have g62_0 := hg
    refine ga_iconst C dX6_facesAt_60 ⟨by decide, by decide⟩ ?_
    refine ga_idiv C dX6_facesAt_61 (by decide) ?_
    refine gt_iald C hW 18 rfl g62_0.1 g62_0.2 dX6_facesAt_62 ?_
    refine ga_iload_n C dX6_facesAt_63 rfl (gt_un (by decide) hl1) ?_
    refine ga_icmp_ne (tgt := 71) C dX6_facesAt_64 (by decide) (fun c1 => ?_) (fun c1 => ?_)
    · have h := gt_in h c1
      exact gX6_facesAt_71 C hRet hr0 hk7 hW (gt_un (by decide) hl0) (gt_un (by decide) hl1) (gt_un (by decide) hl3) (gt_un (by decide) hl4) gt_us h
    · have h := gt_ip h c1
      refine ga_iconst C dX6_facesAt_67 ⟨by decide, by decide⟩ ?_
      refine ga_goto (tgt := 72) C dX6_facesAt_68 (by decide) ?_
      exact gX6_facesAt_72 C hRet hr0 hk7 hW (gt_un (by decide) hl0) (gt_un (by decide) hl1) (gt_un (by decide) hl3) (gt_un (by decide) hl4) gt_us h
set_option maxHeartbeats 4000000 in
theorem gX6_facesAt_7 {X : ga_X} {D : va_G} {cI cZ : ClassId} {K : Nat} {r : Nat} {res : Int} {T : gt_T} {σ : ga_S} (C : ga_C X cX6_facesAt yX6_facesAt wsX6_facesAt [] (gt_rm 2 46) (D, vwCl, cI, cZ) 6) (hRet : ∀ (pc : Nat) (lv : Nat → Option ga_V) (σ' : ga_S) (z : Int), decode cX6_facesAt pc = .ok (.ireturn, 1) → z = res → (σ' = σ) → ga_G X 0 0 K pc lv [.inl z] σ') (hr0 : r ≠ 0) : ∀ (n : Nat) (a : Int × Int × Int × Int) (lv : Nat → Option ga_V), gt_O SX6 6 r T σ → lv 0 = some (.inr r) → lv 1 = some (.inl a.1) → lv 2 = some (.inl a.2.1) → lv 3 = some (.inl a.2.2.1) → lv 4 = some (.inl a.2.2.2) → gt_loop (fX6_facesAt_7 T) n a = some res → ga_G X 0 0 K 7 lv [] σ := by
  intro n
  induction n with
  | zero =>
    intro a lv _ _ _ _ _ _ h
    exact absurd (show (none : Option _) = some _ from h) (fun q => by cases q)
  | succ n hk7 =>
    intro a lv hW hl0 hl1 hl2 hl3 hl4 h
    have h : fX6_facesAt_7 T (gt_loop (fX6_facesAt_7 T) n) a = some res := h
    revert hk7 h
    generalize gt_loop (fX6_facesAt_7 T) n = k7
    intro hk7 h
    unfold fX6_facesAt_7 at h
    obtain ⟨hg, h⟩ := gt_gd h
    have g14_0 := hg
    refine ga_iload C dX6_facesAt_7 hl4 ?_
    refine ga_iconst C dX6_facesAt_9 ⟨by decide, by decide⟩ ?_
    refine ga_aload_n C dX6_facesAt_10 rfl hl0 hr0 ?_
    refine gt_geti C (iX6_facesAt_X6) hW 13 rfl rfl (by decide) kX6_facesAt_72 dX6_facesAt_11 ?_
    refine ga_imul C dX6_facesAt_14 g14_0 ?_
    refine ga_icmp_ge (tgt := 97) C dX6_facesAt_15 (by decide) (fun c1 => ?_) (fun c1 => ?_)
    · have h := gt_ip h c1
      refine ga_iload_n C dX6_facesAt_97 rfl hl2 ?_
      cases h
      exact hRet _ _ _ _ dX6_facesAt_98 rfl rfl
    · have h := gt_in h c1
      obtain ⟨hg, h⟩ := gt_gd h
      have g24_0 := hg
      refine ga_aload_n C dX6_facesAt_18 rfl hl0 hr0 ?_
      refine gt_geta C (iX6_facesAt_X6) hW 22 rfl rfl (by decide) kX6_facesAt_51 dX6_facesAt_19 ?_
      refine ga_iload C dX6_facesAt_22 hl4 ?_
      refine gt_iald C hW 22 rfl g24_0.1 g24_0.2 dX6_facesAt_24 ?_
      refine ga_iload_n C dX6_facesAt_25 rfl hl3 ?_
      refine ga_icmp_le (tgt := 33) C dX6_facesAt_26 (by decide) (fun c1 => ?_) (fun c1 => ?_)
      · have h := gt_ip h c1
        refine ga_iconst C dX6_facesAt_33 ⟨by decide, by decide⟩ ?_
        exact gX6_facesAt_34 C hRet hr0 hk7 hW hl0 hl1 hl2 hl3 hl4 h
      · have h := gt_in h c1
        refine ga_iconst C dX6_facesAt_29 ⟨by decide, by decide⟩ ?_
        refine ga_goto (tgt := 34) C dX6_facesAt_30 (by decide) ?_
        exact gX6_facesAt_34 C hRet hr0 hk7 hW hl0 hl1 hl2 hl3 hl4 h
set_option maxHeartbeats 4000000 in
theorem gX6_facesAt_0 {X : ga_X} {D : va_G} {cI cZ : ClassId} {K : Nat} {r : Nat} {res : Int} {T : gt_T} {σ : ga_S} (C : ga_C X cX6_facesAt yX6_facesAt wsX6_facesAt [] (gt_rm 2 46) (D, vwCl, cI, cZ) 6) (hRet : ∀ (pc : Nat) (lv : Nat → Option ga_V) (σ' : ga_S) (z : Int), decode cX6_facesAt pc = .ok (.ireturn, 1) → z = res → (σ' = σ) → ga_G X 0 0 K pc lv [.inl z] σ') (hr0 : r ≠ 0) {l1 : Int} {lv : Nat → Option ga_V} (hW : gt_O SX6 6 r T σ) (hl0 : lv 0 = some (.inr r)) (hl1 : lv 1 = some (.inl l1)) (h : fX6_facesAt T l1 = some res) : ga_G X 0 0 K 0 lv [] σ := by
  unfold fX6_facesAt at h
  refine ga_iconst C dX6_facesAt_0 ⟨by decide, by decide⟩ ?_
  refine ga_istore_n C dX6_facesAt_1 rfl (by decide) ?_
  refine ga_iconst C dX6_facesAt_2 ⟨by decide, by decide⟩ ?_
  refine ga_istore_n C dX6_facesAt_3 rfl (by decide) ?_
  refine ga_iconst C dX6_facesAt_4 ⟨by decide, by decide⟩ ?_
  refine ga_istore C dX6_facesAt_5 (by decide) ?_
  exact gX6_facesAt_7 C hRet hr0 gt_fuel (l1, (0 : Int), (-1 : Int), (0 : Int)) _ hW (gt_un (by decide) (gt_un (by decide) (gt_un (by decide) hl0))) (gt_un (by decide) (gt_un (by decide) (gt_un (by decide) hl1))) (gt_un (by decide) (gt_un (by decide) gt_us)) (gt_un (by decide) gt_us) gt_us h
set_option maxHeartbeats 4000000 in
theorem eX6_facesAt (l : Launch) (D : va_G) (cI cZ : ClassId) (K : Nat) {r : Nat} (hr0 : r ≠ 0) {σ : ga_S} {T : gt_T} (hW : gt_O SX6 6 r T σ) {l1 : Int} {res : Int} (h : fX6_facesAt T l1 = some res) : ga_Ev l (D, vwCl, cI, cZ) yX6_facesAt wsX6_facesAt (gt_rm 2 46) [] 0 0 K [.inr r, .inl l1] σ (fun σ' rv => (σ' = σ) ∧ rv = some (.inl res)) := by
  refine ga_ofI (by decide +kernel) rfl gt_hcl (Nat.le_of_ble_eq_true rfl) (fun X hX C hret => ?_)
  exact gX6_facesAt_0 C (fun pc lv σ' z d hz hp => hret pc lv σ' z d ⟨hp, by rw [hz]⟩) hr0 hW rfl rfl h
-- X6_crossing: crossing(IIIII)I
def fX6_crossing_79 (T : gt_T) : Option (gt_T × Int) :=
  some (T, (-1 : Int))
def fX6_crossing_65 (T : gt_T) (l1 l2 l3 l4 l5 l6 : Int) : Option (gt_T × Int) :=
  (if l6 = 0 then fX6_crossing_79 T else (if (T.1 1) = (20 : Int) then fX6_crossing_79 T else (if (0 ≤ (T.1 1) ∧ (T.1 1) < 20) ∧ (-2147483648 ≤ (4 : Int) * (T.1 1) ∧ (4 : Int) * (T.1 1) < 2147483648) ∧ (0 ≤ ((4 : Int) * (T.1 1)) ∧ ((4 : Int) * (T.1 1)) < 80) ∧ (-2147483648 ≤ ((4 : Int) * (T.1 1)) + (1 : Int) ∧ ((4 : Int) * (T.1 1)) + (1 : Int) < 2147483648) ∧ (0 ≤ (((4 : Int) * (T.1 1)) + (1 : Int)) ∧ (((4 : Int) * (T.1 1)) + (1 : Int)) < 80) ∧ (-2147483648 ≤ ((4 : Int) * (T.1 1)) + (2 : Int) ∧ ((4 : Int) * (T.1 1)) + (2 : Int) < 2147483648) ∧ (0 ≤ (((4 : Int) * (T.1 1)) + (2 : Int)) ∧ (((4 : Int) * (T.1 1)) + (2 : Int)) < 80) ∧ (-2147483648 ≤ ((4 : Int) * (T.1 1)) + (3 : Int) ∧ ((4 : Int) * (T.1 1)) + (3 : Int) < 2147483648) ∧ (0 ≤ (((4 : Int) * (T.1 1)) + (3 : Int)) ∧ (((4 : Int) * (T.1 1)) + (3 : Int)) < 80) ∧ (-2147483648 ≤ (T.1 1) + (1 : Int) ∧ (T.1 1) + (1 : Int) < 2147483648) then some (((va_up T.1 1 ((T.1 1) + (1 : Int))), (va_up (va_up (va_up (va_up (va_up T.2 3 (va_up (T.2 3) (T.1 1).toNat l1)) 4 (va_up ((va_up T.2 3 (va_up (T.2 3) (T.1 1).toNat l1)) 4) ((4 : Int) * (T.1 1)).toNat l2)) 4 (va_up ((va_up (va_up T.2 3 (va_up (T.2 3) (T.1 1).toNat l1)) 4 (va_up ((va_up T.2 3 (va_up (T.2 3) (T.1 1).toNat l1)) 4) ((4 : Int) * (T.1 1)).toNat l2)) 4) (((4 : Int) * (T.1 1)) + (1 : Int)).toNat l3)) 4 (va_up ((va_up (va_up (va_up T.2 3 (va_up (T.2 3) (T.1 1).toNat l1)) 4 (va_up ((va_up T.2 3 (va_up (T.2 3) (T.1 1).toNat l1)) 4) ((4 : Int) * (T.1 1)).toNat l2)) 4 (va_up ((va_up (va_up T.2 3 (va_up (T.2 3) (T.1 1).toNat l1)) 4 (va_up ((va_up T.2 3 (va_up (T.2 3) (T.1 1).toNat l1)) 4) ((4 : Int) * (T.1 1)).toNat l2)) 4) (((4 : Int) * (T.1 1)) + (1 : Int)).toNat l3)) 4) (((4 : Int) * (T.1 1)) + (2 : Int)).toNat l4)) 4 (va_up ((va_up (va_up (va_up (va_up T.2 3 (va_up (T.2 3) (T.1 1).toNat l1)) 4 (va_up ((va_up T.2 3 (va_up (T.2 3) (T.1 1).toNat l1)) 4) ((4 : Int) * (T.1 1)).toNat l2)) 4 (va_up ((va_up (va_up T.2 3 (va_up (T.2 3) (T.1 1).toNat l1)) 4 (va_up ((va_up T.2 3 (va_up (T.2 3) (T.1 1).toNat l1)) 4) ((4 : Int) * (T.1 1)).toNat l2)) 4) (((4 : Int) * (T.1 1)) + (1 : Int)).toNat l3)) 4 (va_up ((va_up (va_up (va_up T.2 3 (va_up (T.2 3) (T.1 1).toNat l1)) 4 (va_up ((va_up T.2 3 (va_up (T.2 3) (T.1 1).toNat l1)) 4) ((4 : Int) * (T.1 1)).toNat l2)) 4 (va_up ((va_up (va_up T.2 3 (va_up (T.2 3) (T.1 1).toNat l1)) 4 (va_up ((va_up T.2 3 (va_up (T.2 3) (T.1 1).toNat l1)) 4) ((4 : Int) * (T.1 1)).toNat l2)) 4) (((4 : Int) * (T.1 1)) + (1 : Int)).toNat l3)) 4) (((4 : Int) * (T.1 1)) + (2 : Int)).toNat l4)) 4) (((4 : Int) * (T.1 1)) + (3 : Int)).toNat l5))), (va_up T.1 1 ((T.1 1) + (1 : Int))) 1) else none)))
def fX6_crossing_53 (T : gt_T) (l1 l2 l3 l4 l5 s0 : Int) : Option (gt_T × Int) :=
  (if l1 = (1 : Int) then fX6_crossing_65 T l1 l2 l3 l4 l5 s0 else (if l1 = (-1 : Int) then fX6_crossing_65 T l1 l2 l3 l4 l5 s0 else fX6_crossing_79 T))
def fX6_crossing_52 (T : gt_T) (l1 l2 l3 l4 l5 : Int) : Option (gt_T × Int) :=
  fX6_crossing_53 T l1 l2 l3 l4 l5 (0 : Int)
def fX6_crossing (T : gt_T) (l1 l2 l3 l4 l5 : Int) : Option (gt_T × Int) :=
  (if l2 ≤ 0 then fX6_crossing_52 T l1 l2 l3 l4 l5 else (if l3 ≤ 0 then fX6_crossing_52 T l1 l2 l3 l4 l5 else (if l4 ≤ 0 then fX6_crossing_52 T l1 l2 l3 l4 l5 else (if l5 ≤ 0 then fX6_crossing_52 T l1 l2 l3 l4 l5 else (if (10000 : Int) ≤ l2 then fX6_crossing_52 T l1 l2 l3 l4 l5 else (if (10000 : Int) ≤ l3 then fX6_crossing_52 T l1 l2 l3 l4 l5 else (if (10000 : Int) ≤ l4 then fX6_crossing_52 T l1 l2 l3 l4 l5 else (if (10000 : Int) ≤ l5 then fX6_crossing_52 T l1 l2 l3 l4 l5 else fX6_crossing_53 T l1 l2 l3 l4 l5 (1 : Int)))))))))
theorem iX6_crossing_X6 : ∀ w ∈ u_ws RX6 TX6 23, w ∈ wsX6_crossing := by decide +kernel
theorem kX6_crossing_13 : Cond.fieldLink yX6_crossing.cls 13 (TX6 3).1 (TX6 3).2.1 (TX6 3).2.2.1 ∈ wsX6_crossing := by decide +kernel
theorem kX6_crossing_17 : Cond.fieldLink yX6_crossing.cls 17 (TX6 4).1 (TX6 4).2.1 (TX6 4).2.2.1 ∈ wsX6_crossing := by decide +kernel
theorem kX6_crossing_99 : Cond.fieldLink yX6_crossing.cls 99 (TX6 1).1 (TX6 1).2.1 (TX6 1).2.2.1 ∈ wsX6_crossing := by decide +kernel
set_option maxHeartbeats 4000000 in
theorem gX6_crossing_79 {X : ga_X} {D : va_G} {cI cZ : ClassId} {K : Nat} {r : Nat} {σ0 : ga_S} {res : gt_T × Int} (C : ga_C X cX6_crossing yX6_crossing wsX6_crossing [] (gt_rm 0 0) (D, vwCl, cI, cZ) 7) (hRet : ∀ (pc : Nat) (lv : Nat → Option ga_V) (σ' : ga_S) (z : Int), decode cX6_crossing pc = .ok (.ireturn, 1) → z = res.2 → (gt_O SX6 6 r res.1 σ' ∧ gt_F r (r + 14) σ0 σ') → ga_G X 0 0 K pc lv [.inl z] σ') (hr0 : r ≠ 0) {T : gt_T} {σ : ga_S} {lv : Nat → Option ga_V} (hW : gt_O SX6 6 r T σ) (hF : gt_F r (r + 14) σ0 σ) (h : fX6_crossing_79 T = some res) : ga_G X 0 0 K 79 lv [] σ := by
  unfold fX6_crossing_79 at h
  refine ga_iconst C dX6_crossing_79 ⟨by decide, by decide⟩ ?_
  cases h
  exact hRet _ _ _ _ dX6_crossing_80 rfl ⟨hW, hF⟩
set_option maxHeartbeats 4000000 in
theorem gX6_crossing_65 {X : ga_X} {D : va_G} {cI cZ : ClassId} {K : Nat} {r : Nat} {σ0 : ga_S} {res : gt_T × Int} (C : ga_C X cX6_crossing yX6_crossing wsX6_crossing [] (gt_rm 0 0) (D, vwCl, cI, cZ) 7) (hRet : ∀ (pc : Nat) (lv : Nat → Option ga_V) (σ' : ga_S) (z : Int), decode cX6_crossing pc = .ok (.ireturn, 1) → z = res.2 → (gt_O SX6 6 r res.1 σ' ∧ gt_F r (r + 14) σ0 σ') → ga_G X 0 0 K pc lv [.inl z] σ') (hr0 : r ≠ 0) {T : gt_T} {σ : ga_S} {l1 l2 l3 l4 l5 l6 : Int} {lv : Nat → Option ga_V} (hW : gt_O SX6 6 r T σ) (hF : gt_F r (r + 14) σ0 σ) (hl0 : lv 0 = some (.inr r)) (hl1 : lv 1 = some (.inl l1)) (hl2 : lv 2 = some (.inl l2)) (hl3 : lv 3 = some (.inl l3)) (hl4 : lv 4 = some (.inl l4)) (hl5 : lv 5 = some (.inl l5)) (hl6 : lv 6 = some (.inl l6)) (h : fX6_crossing_65 T l1 l2 l3 l4 l5 l6 = some res) : ga_G X 0 0 K 65 lv [] σ := by
  unfold fX6_crossing_65 at h
  refine ga_iload C dX6_crossing_65 hl6 ?_
  refine ga_if_eq (tgt := 79) C dX6_crossing_67 (by decide) (fun c1 => ?_) (fun c1 => ?_)
  · have h := gt_ip h c1
    exact gX6_crossing_79 C hRet hr0 hW hF h
  · have h := gt_in h c1
    refine ga_aload_n C dX6_crossing_70 rfl hl0 hr0 ?_
    refine gt_geti C (iX6_crossing_X6) hW 1 rfl rfl (by decide) kX6_crossing_99 dX6_crossing_71 ?_
    refine ga_bipush C dX6_crossing_74 ⟨by decide, by decide⟩ (by decide) ?_
    refine ga_icmp_ne (tgt := 81) C dX6_crossing_76 (by decide) (fun c1 => ?_) (fun c1 => ?_)
    · have h := gt_in h c1
      obtain ⟨hg, h⟩ := gt_gd h
      obtain ⟨g90_0, g100_1, g102_2, g114_3, g116_4, g128_5, g131_6, g143_7, g146_8, g153_9⟩ := hg
      refine ga_aload_n C dX6_crossing_81 rfl hl0 hr0 ?_
      refine gt_geta C (iX6_crossing_X6) hW 3 rfl rfl (by decide) kX6_crossing_13 dX6_crossing_82 ?_
      refine ga_aload_n C dX6_crossing_85 rfl hl0 hr0 ?_
      refine gt_geti C (iX6_crossing_X6) hW 1 rfl rfl (by decide) kX6_crossing_99 dX6_crossing_86 ?_
      refine ga_iload_n C dX6_crossing_89 rfl hl1 ?_
      refine gt_iast C okX6 hW hF ⟨Nat.le_refl _, Nat.le_refl _⟩ 3 rfl g90_0.1 g90_0.2 dX6_crossing_90 (fun σ hW hF hf => ?_)
      refine ga_aload_n C dX6_crossing_91 rfl hl0 hr0 ?_
      refine gt_geta C (iX6_crossing_X6) hW 4 rfl rfl (by decide) kX6_crossing_17 dX6_crossing_92 ?_
      refine ga_iconst C dX6_crossing_95 ⟨by decide, by decide⟩ ?_
      refine ga_aload_n C dX6_crossing_96 rfl hl0 hr0 ?_
      refine gt_geti C (iX6_crossing_X6) hW 1 rfl rfl (by decide) kX6_crossing_99 dX6_crossing_97 ?_
      refine ga_imul C dX6_crossing_100 g100_1 ?_
      refine ga_iload_n C dX6_crossing_101 rfl hl2 ?_
      refine gt_iast C okX6 hW hF ⟨Nat.le_refl _, Nat.le_refl _⟩ 4 rfl g102_2.1 g102_2.2 dX6_crossing_102 (fun σ hW hF hf => ?_)
      refine ga_aload_n C dX6_crossing_103 rfl hl0 hr0 ?_
      refine gt_geta C (iX6_crossing_X6) hW 4 rfl rfl (by decide) kX6_crossing_17 dX6_crossing_104 ?_
      refine ga_iconst C dX6_crossing_107 ⟨by decide, by decide⟩ ?_
      refine ga_aload_n C dX6_crossing_108 rfl hl0 hr0 ?_
      refine gt_geti C (iX6_crossing_X6) hW 1 rfl rfl (by decide) kX6_crossing_99 dX6_crossing_109 ?_
      refine ga_imul C dX6_crossing_112 g100_1 ?_
      refine ga_iconst C dX6_crossing_113 ⟨by decide, by decide⟩ ?_
      refine ga_iadd C dX6_crossing_114 g114_3 ?_
      refine ga_iload_n C dX6_crossing_115 rfl hl3 ?_
      refine gt_iast C okX6 hW hF ⟨Nat.le_refl _, Nat.le_refl _⟩ 4 rfl g116_4.1 g116_4.2 dX6_crossing_116 (fun σ hW hF hf => ?_)
      refine ga_aload_n C dX6_crossing_117 rfl hl0 hr0 ?_
      refine gt_geta C (iX6_crossing_X6) hW 4 rfl rfl (by decide) kX6_crossing_17 dX6_crossing_118 ?_
      refine ga_iconst C dX6_crossing_121 ⟨by decide, by decide⟩ ?_
      refine ga_aload_n C dX6_crossing_122 rfl hl0 hr0 ?_
      refine gt_geti C (iX6_crossing_X6) hW 1 rfl rfl (by decide) kX6_crossing_99 dX6_crossing_123 ?_
      refine ga_imul C dX6_crossing_126 g100_1 ?_
      refine ga_iconst C dX6_crossing_127 ⟨by decide, by decide⟩ ?_
      refine ga_iadd C dX6_crossing_128 g128_5 ?_
      refine ga_iload C dX6_crossing_129 hl4 ?_
      refine gt_iast C okX6 hW hF ⟨Nat.le_refl _, Nat.le_refl _⟩ 4 rfl g131_6.1 g131_6.2 dX6_crossing_131 (fun σ hW hF hf => ?_)
      refine ga_aload_n C dX6_crossing_132 rfl hl0 hr0 ?_
      refine gt_geta C (iX6_crossing_X6) hW 4 rfl rfl (by decide) kX6_crossing_17 dX6_crossing_133 ?_
      refine ga_iconst C dX6_crossing_136 ⟨by decide, by decide⟩ ?_
      refine ga_aload_n C dX6_crossing_137 rfl hl0 hr0 ?_
      refine gt_geti C (iX6_crossing_X6) hW 1 rfl rfl (by decide) kX6_crossing_99 dX6_crossing_138 ?_
      refine ga_imul C dX6_crossing_141 g100_1 ?_
      refine ga_iconst C dX6_crossing_142 ⟨by decide, by decide⟩ ?_
      refine ga_iadd C dX6_crossing_143 g143_7 ?_
      refine ga_iload C dX6_crossing_144 hl5 ?_
      refine gt_iast C okX6 hW hF ⟨Nat.le_refl _, Nat.le_refl _⟩ 4 rfl g146_8.1 g146_8.2 dX6_crossing_146 (fun σ hW hF hf => ?_)
      refine ga_aload_n C dX6_crossing_147 rfl hl0 hr0 ?_
      refine ga_dup C dX6_crossing_148 ?_
      refine gt_geti C (iX6_crossing_X6) hW 1 rfl rfl (by decide) kX6_crossing_99 dX6_crossing_149 ?_
      refine ga_iconst C dX6_crossing_152 ⟨by decide, by decide⟩ ?_
      refine ga_iadd C dX6_crossing_153 g153_9 ?_
      refine gt_puti C okX6 (by decide) (iX6_crossing_X6) tyX6 tyX6_ok nmX6 hW hF ⟨Nat.le_refl _, Nat.le_refl _⟩ 1 rfl rfl (by decide) kX6_crossing_99 rfl (by decide +kernel) dX6_crossing_154 (fun σ hW hF hf => ?_)
      refine ga_aload_n C dX6_crossing_157 rfl hl0 hr0 ?_
      refine gt_geti C (iX6_crossing_X6) hW 1 rfl rfl (by decide) kX6_crossing_99 dX6_crossing_158 ?_
      cases h
      exact hRet _ _ _ _ dX6_crossing_161 rfl ⟨hW, hF⟩
    · have h := gt_ip h c1
      exact gX6_crossing_79 C hRet hr0 hW hF h
set_option maxHeartbeats 4000000 in
theorem gX6_crossing_53 {X : ga_X} {D : va_G} {cI cZ : ClassId} {K : Nat} {r : Nat} {σ0 : ga_S} {res : gt_T × Int} (C : ga_C X cX6_crossing yX6_crossing wsX6_crossing [] (gt_rm 0 0) (D, vwCl, cI, cZ) 7) (hRet : ∀ (pc : Nat) (lv : Nat → Option ga_V) (σ' : ga_S) (z : Int), decode cX6_crossing pc = .ok (.ireturn, 1) → z = res.2 → (gt_O SX6 6 r res.1 σ' ∧ gt_F r (r + 14) σ0 σ') → ga_G X 0 0 K pc lv [.inl z] σ') (hr0 : r ≠ 0) {T : gt_T} {σ : ga_S} {l1 l2 l3 l4 l5 s0 : Int} {lv : Nat → Option ga_V} (hW : gt_O SX6 6 r T σ) (hF : gt_F r (r + 14) σ0 σ) (hl0 : lv 0 = some (.inr r)) (hl1 : lv 1 = some (.inl l1)) (hl2 : lv 2 = some (.inl l2)) (hl3 : lv 3 = some (.inl l3)) (hl4 : lv 4 = some (.inl l4)) (hl5 : lv 5 = some (.inl l5)) (h : fX6_crossing_53 T l1 l2 l3 l4 l5 s0 = some res) : ga_G X 0 0 K 53 lv [.inl s0] σ := by
  unfold fX6_crossing_53 at h
  refine ga_istore C dX6_crossing_53 (by decide) ?_
  refine ga_iload_n C dX6_crossing_55 rfl (gt_un (by decide) hl1) ?_
  refine ga_iconst C dX6_crossing_56 ⟨by decide, by decide⟩ ?_
  refine ga_icmp_eq (tgt := 65) C dX6_crossing_57 (by decide) (fun c1 => ?_) (fun c1 => ?_)
  · have h := gt_ip h c1
    exact gX6_crossing_65 C hRet hr0 hW hF (gt_un (by decide) hl0) (gt_un (by decide) hl1) (gt_un (by decide) hl2) (gt_un (by decide) hl3) (gt_un (by decide) hl4) (gt_un (by decide) hl5) gt_us h
  · have h := gt_in h c1
    refine ga_iload_n C dX6_crossing_60 rfl (gt_un (by decide) hl1) ?_
    refine ga_iconst C dX6_crossing_61 ⟨by decide, by decide⟩ ?_
    refine ga_icmp_ne (tgt := 79) C dX6_crossing_62 (by decide) (fun c1 => ?_) (fun c1 => ?_)
    · have h := gt_in h c1
      exact gX6_crossing_79 C hRet hr0 hW hF h
    · have h := gt_ip h c1
      exact gX6_crossing_65 C hRet hr0 hW hF (gt_un (by decide) hl0) (gt_un (by decide) hl1) (gt_un (by decide) hl2) (gt_un (by decide) hl3) (gt_un (by decide) hl4) (gt_un (by decide) hl5) gt_us h
set_option maxHeartbeats 4000000 in
theorem gX6_crossing_52 {X : ga_X} {D : va_G} {cI cZ : ClassId} {K : Nat} {r : Nat} {σ0 : ga_S} {res : gt_T × Int} (C : ga_C X cX6_crossing yX6_crossing wsX6_crossing [] (gt_rm 0 0) (D, vwCl, cI, cZ) 7) (hRet : ∀ (pc : Nat) (lv : Nat → Option ga_V) (σ' : ga_S) (z : Int), decode cX6_crossing pc = .ok (.ireturn, 1) → z = res.2 → (gt_O SX6 6 r res.1 σ' ∧ gt_F r (r + 14) σ0 σ') → ga_G X 0 0 K pc lv [.inl z] σ') (hr0 : r ≠ 0) {T : gt_T} {σ : ga_S} {l1 l2 l3 l4 l5 : Int} {lv : Nat → Option ga_V} (hW : gt_O SX6 6 r T σ) (hF : gt_F r (r + 14) σ0 σ) (hl0 : lv 0 = some (.inr r)) (hl1 : lv 1 = some (.inl l1)) (hl2 : lv 2 = some (.inl l2)) (hl3 : lv 3 = some (.inl l3)) (hl4 : lv 4 = some (.inl l4)) (hl5 : lv 5 = some (.inl l5)) (h : fX6_crossing_52 T l1 l2 l3 l4 l5 = some res) : ga_G X 0 0 K 52 lv [] σ := by
  unfold fX6_crossing_52 at h
  refine ga_iconst C dX6_crossing_52 ⟨by decide, by decide⟩ ?_
  exact gX6_crossing_53 C hRet hr0 hW hF hl0 hl1 hl2 hl3 hl4 hl5 h
set_option maxHeartbeats 4000000 in
theorem gX6_crossing_0 {X : ga_X} {D : va_G} {cI cZ : ClassId} {K : Nat} {r : Nat} {σ0 : ga_S} {res : gt_T × Int} (C : ga_C X cX6_crossing yX6_crossing wsX6_crossing [] (gt_rm 0 0) (D, vwCl, cI, cZ) 7) (hRet : ∀ (pc : Nat) (lv : Nat → Option ga_V) (σ' : ga_S) (z : Int), decode cX6_crossing pc = .ok (.ireturn, 1) → z = res.2 → (gt_O SX6 6 r res.1 σ' ∧ gt_F r (r + 14) σ0 σ') → ga_G X 0 0 K pc lv [.inl z] σ') (hr0 : r ≠ 0) {T : gt_T} {σ : ga_S} {l1 l2 l3 l4 l5 : Int} {lv : Nat → Option ga_V} (hW : gt_O SX6 6 r T σ) (hF : gt_F r (r + 14) σ0 σ) (hl0 : lv 0 = some (.inr r)) (hl1 : lv 1 = some (.inl l1)) (hl2 : lv 2 = some (.inl l2)) (hl3 : lv 3 = some (.inl l3)) (hl4 : lv 4 = some (.inl l4)) (hl5 : lv 5 = some (.inl l5)) (h : fX6_crossing T l1 l2 l3 l4 l5 = some res) : ga_G X 0 0 K 0 lv [] σ := by
  unfold fX6_crossing at h
  refine ga_iload_n C dX6_crossing_0 rfl hl2 ?_
  refine ga_if_le (tgt := 52) C dX6_crossing_1 (by decide) (fun c1 => ?_) (fun c1 => ?_)
  · have h := gt_ip h c1
    exact gX6_crossing_52 C hRet hr0 hW hF hl0 hl1 hl2 hl3 hl4 hl5 h
  · have h := gt_in h c1
    refine ga_iload_n C dX6_crossing_4 rfl hl3 ?_
    refine ga_if_le (tgt := 52) C dX6_crossing_5 (by decide) (fun c1 => ?_) (fun c1 => ?_)
    · have h := gt_ip h c1
      exact gX6_crossing_52 C hRet hr0 hW hF hl0 hl1 hl2 hl3 hl4 hl5 h
    · have h := gt_in h c1
      refine ga_iload C dX6_crossing_8 hl4 ?_
      refine ga_if_le (tgt := 52) C dX6_crossing_10 (by decide) (fun c1 => ?_) (fun c1 => ?_)
      · have h := gt_ip h c1
        exact gX6_crossing_52 C hRet hr0 hW hF hl0 hl1 hl2 hl3 hl4 hl5 h
      · have h := gt_in h c1
        refine ga_iload C dX6_crossing_13 hl5 ?_
        refine ga_if_le (tgt := 52) C dX6_crossing_15 (by decide) (fun c1 => ?_) (fun c1 => ?_)
        · have h := gt_ip h c1
          exact gX6_crossing_52 C hRet hr0 hW hF hl0 hl1 hl2 hl3 hl4 hl5 h
        · have h := gt_in h c1
          refine ga_iload_n C dX6_crossing_18 rfl hl2 ?_
          refine ga_sipush C dX6_crossing_19 ⟨by decide, by decide⟩ (by decide) ?_
          refine ga_icmp_ge (tgt := 52) C dX6_crossing_22 (by decide) (fun c1 => ?_) (fun c1 => ?_)
          · have h := gt_ip h c1
            exact gX6_crossing_52 C hRet hr0 hW hF hl0 hl1 hl2 hl3 hl4 hl5 h
          · have h := gt_in h c1
            refine ga_iload_n C dX6_crossing_25 rfl hl3 ?_
            refine ga_sipush C dX6_crossing_26 ⟨by decide, by decide⟩ (by decide) ?_
            refine ga_icmp_ge (tgt := 52) C dX6_crossing_29 (by decide) (fun c1 => ?_) (fun c1 => ?_)
            · have h := gt_ip h c1
              exact gX6_crossing_52 C hRet hr0 hW hF hl0 hl1 hl2 hl3 hl4 hl5 h
            · have h := gt_in h c1
              refine ga_iload C dX6_crossing_32 hl4 ?_
              refine ga_sipush C dX6_crossing_34 ⟨by decide, by decide⟩ (by decide) ?_
              refine ga_icmp_ge (tgt := 52) C dX6_crossing_37 (by decide) (fun c1 => ?_) (fun c1 => ?_)
              · have h := gt_ip h c1
                exact gX6_crossing_52 C hRet hr0 hW hF hl0 hl1 hl2 hl3 hl4 hl5 h
              · have h := gt_in h c1
                refine ga_iload C dX6_crossing_40 hl5 ?_
                refine ga_sipush C dX6_crossing_42 ⟨by decide, by decide⟩ (by decide) ?_
                refine ga_icmp_ge (tgt := 52) C dX6_crossing_45 (by decide) (fun c1 => ?_) (fun c1 => ?_)
                · have h := gt_ip h c1
                  exact gX6_crossing_52 C hRet hr0 hW hF hl0 hl1 hl2 hl3 hl4 hl5 h
                · have h := gt_in h c1
                  refine ga_iconst C dX6_crossing_48 ⟨by decide, by decide⟩ ?_
                  refine ga_goto (tgt := 53) C dX6_crossing_49 (by decide) ?_
                  exact gX6_crossing_53 C hRet hr0 hW hF hl0 hl1 hl2 hl3 hl4 hl5 h
set_option maxHeartbeats 4000000 in
theorem eX6_crossing (l : Launch) (D : va_G) (cI cZ : ClassId) (K : Nat) {r : Nat} (hr0 : r ≠ 0) {σ : ga_S} {T : gt_T} (hW : gt_O SX6 6 r T σ) {l1 l2 l3 l4 l5 : Int} {res : gt_T × Int} (h : fX6_crossing T l1 l2 l3 l4 l5 = some res) : ga_Ev l (D, vwCl, cI, cZ) yX6_crossing wsX6_crossing (gt_rm 0 0) [] 0 0 K [.inr r, .inl l1, .inl l2, .inl l3, .inl l4, .inl l5] σ (fun σ' rv => (gt_O SX6 6 r res.1 σ' ∧ gt_F r (r + 14) σ σ') ∧ rv = some (.inl res.2)) := by
  refine ga_ofI (by decide +kernel) rfl gt_hcl (Nat.le_of_ble_eq_true rfl) (fun X hX C hret => ?_)
  exact gX6_crossing_0 C (fun pc lv σ' z d hz hp => hret pc lv σ' z d ⟨hp, by rw [hz]⟩) hr0 hW gt_F.rf rfl rfl rfl rfl rfl rfl h
-- X6_take: take()V
def fX6_take_106 (k106 : gt_T × Int → Option (gt_T)) (a : gt_T × Int) : Option (gt_T) :=
  (if (-2147483648 ≤ (4 : Int) * (a.1.1 5) ∧ (4 : Int) * (a.1.1 5) < 2147483648) then (if ((4 : Int) * (a.1.1 5)) ≤ a.2 then some ((va_up a.1.1 1 (0 : Int)), a.1.2) else (if (0 ≤ a.2 ∧ a.2 < 80) ∧ (-2147483648 ≤ a.2 + (1 : Int) ∧ a.2 + (1 : Int) < 2147483648) then k106 ((a.1.1, (va_up a.1.2 10 (va_up (a.1.2 10) a.2.toNat (a.1.2 4 a.2.toNat)))), a.2 + (1 : Int)) else none)) else none)
def fX6_take_78 (k78 : gt_T × Int → Option (gt_T)) (a : gt_T × Int) : Option (gt_T) :=
  (if (a.1.1 5) ≤ a.2 then gt_loop (fX6_take_106) gt_fuel (a.1, (0 : Int)) else (if (0 ≤ a.2 ∧ a.2 < 20) ∧ (-2147483648 ≤ a.2 + (1 : Int) ∧ a.2 + (1 : Int) < 2147483648) then k78 ((a.1.1, (va_up a.1.2 9 (va_up (a.1.2 9) a.2.toNat (a.1.2 3 a.2.toNat)))), a.2 + (1 : Int)) else none))
def fX6_take_44 (k44 : gt_T × Int → Option (gt_T)) (a : gt_T × Int) : Option (gt_T) :=
  (if (80 : Int) ≤ a.2 then gt_loop (fX6_take_78) gt_fuel (((va_up a.1.1 5 (a.1.1 1)), a.1.2), (0 : Int)) else (if (0 ≤ a.2 ∧ a.2 < 80) ∧ (-2147483648 ≤ a.2 + (1 : Int) ∧ a.2 + (1 : Int) < 2147483648) then k44 ((a.1.1, (va_up a.1.2 12 (va_up (a.1.2 12) a.2.toNat (a.1.2 10 a.2.toNat)))), a.2 + (1 : Int)) else none))
def fX6_take_18 (k18 : gt_T × Int → Option (gt_T)) (a : gt_T × Int) : Option (gt_T) :=
  (if (20 : Int) ≤ a.2 then gt_loop (fX6_take_44) gt_fuel (a.1, (0 : Int)) else (if (0 ≤ a.2 ∧ a.2 < 20) ∧ (-2147483648 ≤ a.2 + (1 : Int) ∧ a.2 + (1 : Int) < 2147483648) then k18 ((a.1.1, (va_up a.1.2 11 (va_up (a.1.2 11) a.2.toNat (a.1.2 9 a.2.toNat)))), a.2 + (1 : Int)) else none))
def fX6_take (T : gt_T) : Option (gt_T) :=
  gt_loop (fX6_take_18) gt_fuel (((va_up (va_up T.1 7 (T.1 5)) 8 ((va_up T.1 7 (T.1 5)) 6)), T.2), (0 : Int))
theorem iX6_take_X6 : ∀ w ∈ u_ws RX6 TX6 23, w ∈ wsX6_take := by decide +kernel
theorem kX6_take_13 : Cond.fieldLink yX6_take.cls 13 (TX6 3).1 (TX6 3).2.1 (TX6 3).2.2.1 ∈ wsX6_take := by decide +kernel
theorem kX6_take_17 : Cond.fieldLink yX6_take.cls 17 (TX6 4).1 (TX6 4).2.1 (TX6 4).2.2.1 ∈ wsX6_take := by decide +kernel
theorem kX6_take_20 : Cond.fieldLink yX6_take.cls 20 (TX6 9).1 (TX6 9).2.1 (TX6 9).2.2.1 ∈ wsX6_take := by decide +kernel
theorem kX6_take_23 : Cond.fieldLink yX6_take.cls 23 (TX6 10).1 (TX6 10).2.1 (TX6 10).2.2.1 ∈ wsX6_take := by decide +kernel
theorem kX6_take_26 : Cond.fieldLink yX6_take.cls 26 (TX6 11).1 (TX6 11).2.1 (TX6 11).2.2.1 ∈ wsX6_take := by decide +kernel
theorem kX6_take_29 : Cond.fieldLink yX6_take.cls 29 (TX6 12).1 (TX6 12).2.1 (TX6 12).2.2.1 ∈ wsX6_take := by decide +kernel
theorem kX6_take_57 : Cond.fieldLink yX6_take.cls 57 (TX6 5).1 (TX6 5).2.1 (TX6 5).2.2.1 ∈ wsX6_take := by decide +kernel
theorem kX6_take_99 : Cond.fieldLink yX6_take.cls 99 (TX6 1).1 (TX6 1).2.1 (TX6 1).2.2.1 ∈ wsX6_take := by decide +kernel
theorem kX6_take_102 : Cond.fieldLink yX6_take.cls 102 (TX6 7).1 (TX6 7).2.1 (TX6 7).2.2.1 ∈ wsX6_take := by decide +kernel
theorem kX6_take_105 : Cond.fieldLink yX6_take.cls 105 (TX6 6).1 (TX6 6).2.1 (TX6 6).2.2.1 ∈ wsX6_take := by decide +kernel
theorem kX6_take_108 : Cond.fieldLink yX6_take.cls 108 (TX6 8).1 (TX6 8).2.1 (TX6 8).2.2.1 ∈ wsX6_take := by decide +kernel
set_option maxHeartbeats 4000000 in
theorem gX6_take_106 {X : ga_X} {D : va_G} {cI cZ : ClassId} {K : Nat} {r : Nat} {σ0 : ga_S} {res : gt_T} (C : ga_C X cX6_take yX6_take wsX6_take [] (gt_rm 0 0) (D, vwCl, cI, cZ) 2) (hRet : ∀ (pc : Nat) (lv : Nat → Option ga_V) (σ' : ga_S), decode cX6_take pc = .ok (.return_, 1) → (gt_O SX6 6 r res σ' ∧ gt_F r (r + 14) σ0 σ') → ga_G X 0 0 K pc lv [] σ') (hr0 : r ≠ 0) : ∀ (n : Nat) (a : gt_T × Int) (σ : ga_S) (lv : Nat → Option ga_V), gt_O SX6 6 r a.1 σ → gt_F r (r + 14) σ0 σ → lv 0 = some (.inr r) → lv 1 = some (.inl a.2) → gt_loop (fX6_take_106) n a = some res → ga_G X 0 0 K 106 lv [] σ := by
  intro n
  induction n with
  | zero =>
    intro a _ lv _ _ _ _ h
    exact absurd (show (none : Option _) = some _ from h) (fun q => by cases q)
  | succ n hk106 =>
    intro a σ lv hW hF hl0 hl1 h
    have h : fX6_take_106 (gt_loop (fX6_take_106) n) a = some res := h
    revert hk106 h
    generalize gt_loop (fX6_take_106) n = k106
    intro hk106 h
    unfold fX6_take_106 at h
    obtain ⟨hg, h⟩ := gt_gd h
    have g112_0 := hg
    refine ga_iload_n C dX6_take_106 rfl hl1 ?_
    refine ga_iconst C dX6_take_107 ⟨by decide, by decide⟩ ?_
    refine ga_aload_n C dX6_take_108 rfl hl0 hr0 ?_
    refine gt_geti C (iX6_take_X6) hW 5 rfl rfl (by decide) kX6_take_57 dX6_take_109 ?_
    refine ga_imul C dX6_take_112 g112_0 ?_
    refine ga_icmp_ge (tgt := 134) C dX6_take_113 (by decide) (fun c1 => ?_) (fun c1 => ?_)
    · have h := gt_ip h c1
      refine ga_aload_n C dX6_take_134 rfl hl0 hr0 ?_
      refine ga_iconst C dX6_take_135 ⟨by decide, by decide⟩ ?_
      refine gt_puti C okX6 (by decide) (iX6_take_X6) tyX6 tyX6_ok nmX6 hW hF ⟨Nat.le_refl _, Nat.le_refl _⟩ 1 rfl rfl (by decide) kX6_take_99 rfl (by decide +kernel) dX6_take_136 (fun σ hW hF hf => ?_)
      cases h
      exact hRet _ _ _ dX6_take_139 ⟨hW, hF⟩
    · have h := gt_in h c1
      obtain ⟨hg, h⟩ := gt_gd h
      obtain ⟨g126_0, g128_1⟩ := hg
      refine ga_aload_n C dX6_take_116 rfl hl0 hr0 ?_
      refine gt_geta C (iX6_take_X6) hW 10 rfl rfl (by decide) kX6_take_23 dX6_take_117 ?_
      refine ga_iload_n C dX6_take_120 rfl hl1 ?_
      refine ga_aload_n C dX6_take_121 rfl hl0 hr0 ?_
      refine gt_geta C (iX6_take_X6) hW 4 rfl rfl (by decide) kX6_take_17 dX6_take_122 ?_
      refine ga_iload_n C dX6_take_125 rfl hl1 ?_
      refine gt_iald C hW 4 rfl g126_0.1 g126_0.2 dX6_take_126 ?_
      refine gt_iast C okX6 hW hF ⟨Nat.le_refl _, Nat.le_refl _⟩ 10 rfl g126_0.1 g126_0.2 dX6_take_127 (fun σ hW hF hf => ?_)
      refine ga_iinc C dX6_take_128 hl1 g128_1 ?_
      refine ga_goto (tgt := 106) C dX6_take_131 (by decide) ?_
      exact hk106 ((a.1.1, (va_up a.1.2 10 (va_up (a.1.2 10) a.2.toNat (a.1.2 4 a.2.toNat)))), a.2 + (1 : Int)) _ _ hW hF (gt_un (by decide) hl0) gt_us h
set_option maxHeartbeats 4000000 in
theorem gX6_take_78 {X : ga_X} {D : va_G} {cI cZ : ClassId} {K : Nat} {r : Nat} {σ0 : ga_S} {res : gt_T} (C : ga_C X cX6_take yX6_take wsX6_take [] (gt_rm 0 0) (D, vwCl, cI, cZ) 2) (hRet : ∀ (pc : Nat) (lv : Nat → Option ga_V) (σ' : ga_S), decode cX6_take pc = .ok (.return_, 1) → (gt_O SX6 6 r res σ' ∧ gt_F r (r + 14) σ0 σ') → ga_G X 0 0 K pc lv [] σ') (hr0 : r ≠ 0) : ∀ (n : Nat) (a : gt_T × Int) (σ : ga_S) (lv : Nat → Option ga_V), gt_O SX6 6 r a.1 σ → gt_F r (r + 14) σ0 σ → lv 0 = some (.inr r) → lv 1 = some (.inl a.2) → gt_loop (fX6_take_78) n a = some res → ga_G X 0 0 K 78 lv [] σ := by
  intro n
  induction n with
  | zero =>
    intro a _ lv _ _ _ _ h
    exact absurd (show (none : Option _) = some _ from h) (fun q => by cases q)
  | succ n hk78 =>
    intro a σ lv hW hF hl0 hl1 h
    have h : fX6_take_78 (gt_loop (fX6_take_78) n) a = some res := h
    revert hk78 h
    generalize gt_loop (fX6_take_78) n = k78
    intro hk78 h
    unfold fX6_take_78 at h
    refine ga_iload_n C dX6_take_78 rfl hl1 ?_
    refine ga_aload_n C dX6_take_79 rfl hl0 hr0 ?_
    refine gt_geti C (iX6_take_X6) hW 5 rfl rfl (by decide) kX6_take_57 dX6_take_80 ?_
    refine ga_icmp_ge (tgt := 104) C dX6_take_83 (by decide) (fun c1 => ?_) (fun c1 => ?_)
    · have h := gt_ip h c1
      refine ga_iconst C dX6_take_104 ⟨by decide, by decide⟩ ?_
      refine ga_istore_n C dX6_take_105 rfl (by decide) ?_
      exact gX6_take_106 C hRet hr0 gt_fuel (a.1, (0 : Int)) _ _ hW hF (gt_un (by decide) hl0) gt_us h
    · have h := gt_in h c1
      obtain ⟨hg, h⟩ := gt_gd h
      obtain ⟨g96_0, g98_1⟩ := hg
      refine ga_aload_n C dX6_take_86 rfl hl0 hr0 ?_
      refine gt_geta C (iX6_take_X6) hW 9 rfl rfl (by decide) kX6_take_20 dX6_take_87 ?_
      refine ga_iload_n C dX6_take_90 rfl hl1 ?_
      refine ga_aload_n C dX6_take_91 rfl hl0 hr0 ?_
      refine gt_geta C (iX6_take_X6) hW 3 rfl rfl (by decide) kX6_take_13 dX6_take_92 ?_
      refine ga_iload_n C dX6_take_95 rfl hl1 ?_
      refine gt_iald C hW 3 rfl g96_0.1 g96_0.2 dX6_take_96 ?_
      refine gt_iast C okX6 hW hF ⟨Nat.le_refl _, Nat.le_refl _⟩ 9 rfl g96_0.1 g96_0.2 dX6_take_97 (fun σ hW hF hf => ?_)
      refine ga_iinc C dX6_take_98 hl1 g98_1 ?_
      refine ga_goto (tgt := 78) C dX6_take_101 (by decide) ?_
      exact hk78 ((a.1.1, (va_up a.1.2 9 (va_up (a.1.2 9) a.2.toNat (a.1.2 3 a.2.toNat)))), a.2 + (1 : Int)) _ _ hW hF (gt_un (by decide) hl0) gt_us h
set_option maxHeartbeats 4000000 in
theorem gX6_take_44 {X : ga_X} {D : va_G} {cI cZ : ClassId} {K : Nat} {r : Nat} {σ0 : ga_S} {res : gt_T} (C : ga_C X cX6_take yX6_take wsX6_take [] (gt_rm 0 0) (D, vwCl, cI, cZ) 2) (hRet : ∀ (pc : Nat) (lv : Nat → Option ga_V) (σ' : ga_S), decode cX6_take pc = .ok (.return_, 1) → (gt_O SX6 6 r res σ' ∧ gt_F r (r + 14) σ0 σ') → ga_G X 0 0 K pc lv [] σ') (hr0 : r ≠ 0) : ∀ (n : Nat) (a : gt_T × Int) (σ : ga_S) (lv : Nat → Option ga_V), gt_O SX6 6 r a.1 σ → gt_F r (r + 14) σ0 σ → lv 0 = some (.inr r) → lv 1 = some (.inl a.2) → gt_loop (fX6_take_44) n a = some res → ga_G X 0 0 K 44 lv [] σ := by
  intro n
  induction n with
  | zero =>
    intro a _ lv _ _ _ _ h
    exact absurd (show (none : Option _) = some _ from h) (fun q => by cases q)
  | succ n hk44 =>
    intro a σ lv hW hF hl0 hl1 h
    have h : fX6_take_44 (gt_loop (fX6_take_44) n) a = some res := h
    revert hk44 h
    generalize gt_loop (fX6_take_44) n = k44
    intro hk44 h
    unfold fX6_take_44 at h
    refine ga_iload_n C dX6_take_44 rfl hl1 ?_
    refine ga_bipush C dX6_take_45 ⟨by decide, by decide⟩ (by decide) ?_
    refine ga_icmp_ge (tgt := 68) C dX6_take_47 (by decide) (fun c1 => ?_) (fun c1 => ?_)
    · have h := gt_ip h c1
      refine ga_aload_n C dX6_take_68 rfl hl0 hr0 ?_
      refine ga_aload_n C dX6_take_69 rfl hl0 hr0 ?_
      refine gt_geti C (iX6_take_X6) hW 1 rfl rfl (by decide) kX6_take_99 dX6_take_70 ?_
      refine gt_puti C okX6 (by decide) (iX6_take_X6) tyX6 tyX6_ok nmX6 hW hF ⟨Nat.le_refl _, Nat.le_refl _⟩ 5 rfl rfl (by decide) kX6_take_57 rfl (by decide +kernel) dX6_take_73 (fun σ hW hF hf => ?_)
      refine ga_iconst C dX6_take_76 ⟨by decide, by decide⟩ ?_
      refine ga_istore_n C dX6_take_77 rfl (by decide) ?_
      exact gX6_take_78 C hRet hr0 gt_fuel (((va_up a.1.1 5 (a.1.1 1)), a.1.2), (0 : Int)) _ _ hW hF (gt_un (by decide) hl0) gt_us h
    · have h := gt_in h c1
      obtain ⟨hg, h⟩ := gt_gd h
      obtain ⟨g60_0, g62_1⟩ := hg
      refine ga_aload_n C dX6_take_50 rfl hl0 hr0 ?_
      refine gt_geta C (iX6_take_X6) hW 12 rfl rfl (by decide) kX6_take_29 dX6_take_51 ?_
      refine ga_iload_n C dX6_take_54 rfl hl1 ?_
      refine ga_aload_n C dX6_take_55 rfl hl0 hr0 ?_
      refine gt_geta C (iX6_take_X6) hW 10 rfl rfl (by decide) kX6_take_23 dX6_take_56 ?_
      refine ga_iload_n C dX6_take_59 rfl hl1 ?_
      refine gt_iald C hW 10 rfl g60_0.1 g60_0.2 dX6_take_60 ?_
      refine gt_iast C okX6 hW hF ⟨Nat.le_refl _, Nat.le_refl _⟩ 12 rfl g60_0.1 g60_0.2 dX6_take_61 (fun σ hW hF hf => ?_)
      refine ga_iinc C dX6_take_62 hl1 g62_1 ?_
      refine ga_goto (tgt := 44) C dX6_take_65 (by decide) ?_
      exact hk44 ((a.1.1, (va_up a.1.2 12 (va_up (a.1.2 12) a.2.toNat (a.1.2 10 a.2.toNat)))), a.2 + (1 : Int)) _ _ hW hF (gt_un (by decide) hl0) gt_us h
set_option maxHeartbeats 4000000 in
theorem gX6_take_18 {X : ga_X} {D : va_G} {cI cZ : ClassId} {K : Nat} {r : Nat} {σ0 : ga_S} {res : gt_T} (C : ga_C X cX6_take yX6_take wsX6_take [] (gt_rm 0 0) (D, vwCl, cI, cZ) 2) (hRet : ∀ (pc : Nat) (lv : Nat → Option ga_V) (σ' : ga_S), decode cX6_take pc = .ok (.return_, 1) → (gt_O SX6 6 r res σ' ∧ gt_F r (r + 14) σ0 σ') → ga_G X 0 0 K pc lv [] σ') (hr0 : r ≠ 0) : ∀ (n : Nat) (a : gt_T × Int) (σ : ga_S) (lv : Nat → Option ga_V), gt_O SX6 6 r a.1 σ → gt_F r (r + 14) σ0 σ → lv 0 = some (.inr r) → lv 1 = some (.inl a.2) → gt_loop (fX6_take_18) n a = some res → ga_G X 0 0 K 18 lv [] σ := by
  intro n
  induction n with
  | zero =>
    intro a _ lv _ _ _ _ h
    exact absurd (show (none : Option _) = some _ from h) (fun q => by cases q)
  | succ n hk18 =>
    intro a σ lv hW hF hl0 hl1 h
    have h : fX6_take_18 (gt_loop (fX6_take_18) n) a = some res := h
    revert hk18 h
    generalize gt_loop (fX6_take_18) n = k18
    intro hk18 h
    unfold fX6_take_18 at h
    refine ga_iload_n C dX6_take_18 rfl hl1 ?_
    refine ga_bipush C dX6_take_19 ⟨by decide, by decide⟩ (by decide) ?_
    refine ga_icmp_ge (tgt := 42) C dX6_take_21 (by decide) (fun c1 => ?_) (fun c1 => ?_)
    · have h := gt_ip h c1
      refine ga_iconst C dX6_take_42 ⟨by decide, by decide⟩ ?_
      refine ga_istore_n C dX6_take_43 rfl (by decide) ?_
      exact gX6_take_44 C hRet hr0 gt_fuel (a.1, (0 : Int)) _ _ hW hF (gt_un (by decide) hl0) gt_us h
    · have h := gt_in h c1
      obtain ⟨hg, h⟩ := gt_gd h
      obtain ⟨g34_0, g36_1⟩ := hg
      refine ga_aload_n C dX6_take_24 rfl hl0 hr0 ?_
      refine gt_geta C (iX6_take_X6) hW 11 rfl rfl (by decide) kX6_take_26 dX6_take_25 ?_
      refine ga_iload_n C dX6_take_28 rfl hl1 ?_
      refine ga_aload_n C dX6_take_29 rfl hl0 hr0 ?_
      refine gt_geta C (iX6_take_X6) hW 9 rfl rfl (by decide) kX6_take_20 dX6_take_30 ?_
      refine ga_iload_n C dX6_take_33 rfl hl1 ?_
      refine gt_iald C hW 9 rfl g34_0.1 g34_0.2 dX6_take_34 ?_
      refine gt_iast C okX6 hW hF ⟨Nat.le_refl _, Nat.le_refl _⟩ 11 rfl g34_0.1 g34_0.2 dX6_take_35 (fun σ hW hF hf => ?_)
      refine ga_iinc C dX6_take_36 hl1 g36_1 ?_
      refine ga_goto (tgt := 18) C dX6_take_39 (by decide) ?_
      exact hk18 ((a.1.1, (va_up a.1.2 11 (va_up (a.1.2 11) a.2.toNat (a.1.2 9 a.2.toNat)))), a.2 + (1 : Int)) _ _ hW hF (gt_un (by decide) hl0) gt_us h
set_option maxHeartbeats 4000000 in
theorem gX6_take_0 {X : ga_X} {D : va_G} {cI cZ : ClassId} {K : Nat} {r : Nat} {σ0 : ga_S} {res : gt_T} (C : ga_C X cX6_take yX6_take wsX6_take [] (gt_rm 0 0) (D, vwCl, cI, cZ) 2) (hRet : ∀ (pc : Nat) (lv : Nat → Option ga_V) (σ' : ga_S), decode cX6_take pc = .ok (.return_, 1) → (gt_O SX6 6 r res σ' ∧ gt_F r (r + 14) σ0 σ') → ga_G X 0 0 K pc lv [] σ') (hr0 : r ≠ 0) {T : gt_T} {σ : ga_S} {lv : Nat → Option ga_V} (hW : gt_O SX6 6 r T σ) (hF : gt_F r (r + 14) σ0 σ) (hl0 : lv 0 = some (.inr r)) (h : fX6_take T = some res) : ga_G X 0 0 K 0 lv [] σ := by
  unfold fX6_take at h
  refine ga_aload_n C dX6_take_0 rfl hl0 hr0 ?_
  refine ga_aload_n C dX6_take_1 rfl hl0 hr0 ?_
  refine gt_geti C (iX6_take_X6) hW 5 rfl rfl (by decide) kX6_take_57 dX6_take_2 ?_
  refine gt_puti C okX6 (by decide) (iX6_take_X6) tyX6 tyX6_ok nmX6 hW hF ⟨Nat.le_refl _, Nat.le_refl _⟩ 7 rfl rfl (by decide) kX6_take_102 rfl (by decide +kernel) dX6_take_5 (fun σ hW hF hf => ?_)
  refine ga_aload_n C dX6_take_8 rfl hl0 hr0 ?_
  refine ga_aload_n C dX6_take_9 rfl hl0 hr0 ?_
  refine gt_geti C (iX6_take_X6) hW 6 rfl rfl (by decide) kX6_take_105 dX6_take_10 ?_
  refine gt_puti C okX6 (by decide) (iX6_take_X6) tyX6 tyX6_ok nmX6 hW hF ⟨Nat.le_refl _, Nat.le_refl _⟩ 8 rfl rfl (by decide) kX6_take_108 rfl (by decide +kernel) dX6_take_13 (fun σ hW hF hf => ?_)
  refine ga_iconst C dX6_take_16 ⟨by decide, by decide⟩ ?_
  refine ga_istore_n C dX6_take_17 rfl (by decide) ?_
  exact gX6_take_18 C hRet hr0 gt_fuel (((va_up (va_up T.1 7 (T.1 5)) 8 ((va_up T.1 7 (T.1 5)) 6)), T.2), (0 : Int)) _ _ hW hF (gt_un (by decide) hl0) gt_us h
set_option maxHeartbeats 4000000 in
theorem eX6_take (l : Launch) (D : va_G) (cI cZ : ClassId) (K : Nat) {r : Nat} (hr0 : r ≠ 0) {σ : ga_S} {T : gt_T} (hW : gt_O SX6 6 r T σ) {res : gt_T} (h : fX6_take T = some res) : ga_Ev l (D, vwCl, cI, cZ) yX6_take wsX6_take (gt_rm 0 0) [] 0 0 K [.inr r] σ (fun σ' rv => (gt_O SX6 6 r res σ' ∧ gt_F r (r + 14) σ σ') ∧ rv = none) := by
  refine ga_ofV (by decide +kernel) rfl gt_hcl (Nat.le_of_ble_eq_true rfl) (fun X hX C hret => ?_)
  exact gX6_take_0 C (fun pc lv σ' d hp => hret pc lv σ' d ⟨hp, rfl⟩) hr0 hW gt_F.rf rfl h
-- X6_back: back()V
def fX6_back_44 (k44 : gt_T × Int → Option (gt_T)) (a : gt_T × Int) : Option (gt_T) :=
  (if (80 : Int) ≤ a.2 then some a.1 else (if (0 ≤ a.2 ∧ a.2 < 80) ∧ (-2147483648 ≤ a.2 + (1 : Int) ∧ a.2 + (1 : Int) < 2147483648) then k44 ((a.1.1, (va_up a.1.2 10 (va_up (a.1.2 10) a.2.toNat (a.1.2 12 a.2.toNat)))), a.2 + (1 : Int)) else none))
def fX6_back_18 (k18 : gt_T × Int → Option (gt_T)) (a : gt_T × Int) : Option (gt_T) :=
  (if (20 : Int) ≤ a.2 then gt_loop (fX6_back_44) gt_fuel (a.1, (0 : Int)) else (if (0 ≤ a.2 ∧ a.2 < 20) ∧ (-2147483648 ≤ a.2 + (1 : Int) ∧ a.2 + (1 : Int) < 2147483648) then k18 ((a.1.1, (va_up a.1.2 9 (va_up (a.1.2 9) a.2.toNat (a.1.2 11 a.2.toNat)))), a.2 + (1 : Int)) else none))
def fX6_back (T : gt_T) : Option (gt_T) :=
  gt_loop (fX6_back_18) gt_fuel (((va_up (va_up T.1 5 (T.1 7)) 6 ((va_up T.1 5 (T.1 7)) 8)), T.2), (0 : Int))
theorem iX6_back_X6 : ∀ w ∈ u_ws RX6 TX6 23, w ∈ wsX6_back := by decide +kernel
theorem kX6_back_20 : Cond.fieldLink yX6_back.cls 20 (TX6 9).1 (TX6 9).2.1 (TX6 9).2.2.1 ∈ wsX6_back := by decide +kernel
theorem kX6_back_23 : Cond.fieldLink yX6_back.cls 23 (TX6 10).1 (TX6 10).2.1 (TX6 10).2.2.1 ∈ wsX6_back := by decide +kernel
theorem kX6_back_26 : Cond.fieldLink yX6_back.cls 26 (TX6 11).1 (TX6 11).2.1 (TX6 11).2.2.1 ∈ wsX6_back := by decide +kernel
theorem kX6_back_29 : Cond.fieldLink yX6_back.cls 29 (TX6 12).1 (TX6 12).2.1 (TX6 12).2.2.1 ∈ wsX6_back := by decide +kernel
theorem kX6_back_57 : Cond.fieldLink yX6_back.cls 57 (TX6 5).1 (TX6 5).2.1 (TX6 5).2.2.1 ∈ wsX6_back := by decide +kernel
theorem kX6_back_102 : Cond.fieldLink yX6_back.cls 102 (TX6 7).1 (TX6 7).2.1 (TX6 7).2.2.1 ∈ wsX6_back := by decide +kernel
theorem kX6_back_105 : Cond.fieldLink yX6_back.cls 105 (TX6 6).1 (TX6 6).2.1 (TX6 6).2.2.1 ∈ wsX6_back := by decide +kernel
theorem kX6_back_108 : Cond.fieldLink yX6_back.cls 108 (TX6 8).1 (TX6 8).2.1 (TX6 8).2.2.1 ∈ wsX6_back := by decide +kernel
set_option maxHeartbeats 4000000 in
theorem gX6_back_44 {X : ga_X} {D : va_G} {cI cZ : ClassId} {K : Nat} {r : Nat} {σ0 : ga_S} {res : gt_T} (C : ga_C X cX6_back yX6_back wsX6_back [] (gt_rm 0 0) (D, vwCl, cI, cZ) 2) (hRet : ∀ (pc : Nat) (lv : Nat → Option ga_V) (σ' : ga_S), decode cX6_back pc = .ok (.return_, 1) → (gt_O SX6 6 r res σ' ∧ gt_F r (r + 14) σ0 σ') → ga_G X 0 0 K pc lv [] σ') (hr0 : r ≠ 0) : ∀ (n : Nat) (a : gt_T × Int) (σ : ga_S) (lv : Nat → Option ga_V), gt_O SX6 6 r a.1 σ → gt_F r (r + 14) σ0 σ → lv 0 = some (.inr r) → lv 1 = some (.inl a.2) → gt_loop (fX6_back_44) n a = some res → ga_G X 0 0 K 44 lv [] σ := by
  intro n
  induction n with
  | zero =>
    intro a _ lv _ _ _ _ h
    exact absurd (show (none : Option _) = some _ from h) (fun q => by cases q)
  | succ n hk44 =>
    intro a σ lv hW hF hl0 hl1 h
    have h : fX6_back_44 (gt_loop (fX6_back_44) n) a = some res := h
    revert hk44 h
    generalize gt_loop (fX6_back_44) n = k44
    intro hk44 h
    unfold fX6_back_44 at h
    refine ga_iload_n C dX6_back_44 rfl hl1 ?_
    refine ga_bipush C dX6_back_45 ⟨by decide, by decide⟩ (by decide) ?_
    refine ga_icmp_ge (tgt := 68) C dX6_back_47 (by decide) (fun c1 => ?_) (fun c1 => ?_)
    · have h := gt_ip h c1
      cases h
      exact hRet _ _ _ dX6_back_68 ⟨hW, hF⟩
    · have h := gt_in h c1
      obtain ⟨hg, h⟩ := gt_gd h
      obtain ⟨g60_0, g62_1⟩ := hg
      refine ga_aload_n C dX6_back_50 rfl hl0 hr0 ?_
      refine gt_geta C (iX6_back_X6) hW 10 rfl rfl (by decide) kX6_back_23 dX6_back_51 ?_
      refine ga_iload_n C dX6_back_54 rfl hl1 ?_
      refine ga_aload_n C dX6_back_55 rfl hl0 hr0 ?_
      refine gt_geta C (iX6_back_X6) hW 12 rfl rfl (by decide) kX6_back_29 dX6_back_56 ?_
      refine ga_iload_n C dX6_back_59 rfl hl1 ?_
      refine gt_iald C hW 12 rfl g60_0.1 g60_0.2 dX6_back_60 ?_
      refine gt_iast C okX6 hW hF ⟨Nat.le_refl _, Nat.le_refl _⟩ 10 rfl g60_0.1 g60_0.2 dX6_back_61 (fun σ hW hF hf => ?_)
      refine ga_iinc C dX6_back_62 hl1 g62_1 ?_
      refine ga_goto (tgt := 44) C dX6_back_65 (by decide) ?_
      exact hk44 ((a.1.1, (va_up a.1.2 10 (va_up (a.1.2 10) a.2.toNat (a.1.2 12 a.2.toNat)))), a.2 + (1 : Int)) _ _ hW hF (gt_un (by decide) hl0) gt_us h
set_option maxHeartbeats 4000000 in
theorem gX6_back_18 {X : ga_X} {D : va_G} {cI cZ : ClassId} {K : Nat} {r : Nat} {σ0 : ga_S} {res : gt_T} (C : ga_C X cX6_back yX6_back wsX6_back [] (gt_rm 0 0) (D, vwCl, cI, cZ) 2) (hRet : ∀ (pc : Nat) (lv : Nat → Option ga_V) (σ' : ga_S), decode cX6_back pc = .ok (.return_, 1) → (gt_O SX6 6 r res σ' ∧ gt_F r (r + 14) σ0 σ') → ga_G X 0 0 K pc lv [] σ') (hr0 : r ≠ 0) : ∀ (n : Nat) (a : gt_T × Int) (σ : ga_S) (lv : Nat → Option ga_V), gt_O SX6 6 r a.1 σ → gt_F r (r + 14) σ0 σ → lv 0 = some (.inr r) → lv 1 = some (.inl a.2) → gt_loop (fX6_back_18) n a = some res → ga_G X 0 0 K 18 lv [] σ := by
  intro n
  induction n with
  | zero =>
    intro a _ lv _ _ _ _ h
    exact absurd (show (none : Option _) = some _ from h) (fun q => by cases q)
  | succ n hk18 =>
    intro a σ lv hW hF hl0 hl1 h
    have h : fX6_back_18 (gt_loop (fX6_back_18) n) a = some res := h
    revert hk18 h
    generalize gt_loop (fX6_back_18) n = k18
    intro hk18 h
    unfold fX6_back_18 at h
    refine ga_iload_n C dX6_back_18 rfl hl1 ?_
    refine ga_bipush C dX6_back_19 ⟨by decide, by decide⟩ (by decide) ?_
    refine ga_icmp_ge (tgt := 42) C dX6_back_21 (by decide) (fun c1 => ?_) (fun c1 => ?_)
    · have h := gt_ip h c1
      refine ga_iconst C dX6_back_42 ⟨by decide, by decide⟩ ?_
      refine ga_istore_n C dX6_back_43 rfl (by decide) ?_
      exact gX6_back_44 C hRet hr0 gt_fuel (a.1, (0 : Int)) _ _ hW hF (gt_un (by decide) hl0) gt_us h
    · have h := gt_in h c1
      obtain ⟨hg, h⟩ := gt_gd h
      obtain ⟨g34_0, g36_1⟩ := hg
      refine ga_aload_n C dX6_back_24 rfl hl0 hr0 ?_
      refine gt_geta C (iX6_back_X6) hW 9 rfl rfl (by decide) kX6_back_20 dX6_back_25 ?_
      refine ga_iload_n C dX6_back_28 rfl hl1 ?_
      refine ga_aload_n C dX6_back_29 rfl hl0 hr0 ?_
      refine gt_geta C (iX6_back_X6) hW 11 rfl rfl (by decide) kX6_back_26 dX6_back_30 ?_
      refine ga_iload_n C dX6_back_33 rfl hl1 ?_
      refine gt_iald C hW 11 rfl g34_0.1 g34_0.2 dX6_back_34 ?_
      refine gt_iast C okX6 hW hF ⟨Nat.le_refl _, Nat.le_refl _⟩ 9 rfl g34_0.1 g34_0.2 dX6_back_35 (fun σ hW hF hf => ?_)
      refine ga_iinc C dX6_back_36 hl1 g36_1 ?_
      refine ga_goto (tgt := 18) C dX6_back_39 (by decide) ?_
      exact hk18 ((a.1.1, (va_up a.1.2 9 (va_up (a.1.2 9) a.2.toNat (a.1.2 11 a.2.toNat)))), a.2 + (1 : Int)) _ _ hW hF (gt_un (by decide) hl0) gt_us h
set_option maxHeartbeats 4000000 in
theorem gX6_back_0 {X : ga_X} {D : va_G} {cI cZ : ClassId} {K : Nat} {r : Nat} {σ0 : ga_S} {res : gt_T} (C : ga_C X cX6_back yX6_back wsX6_back [] (gt_rm 0 0) (D, vwCl, cI, cZ) 2) (hRet : ∀ (pc : Nat) (lv : Nat → Option ga_V) (σ' : ga_S), decode cX6_back pc = .ok (.return_, 1) → (gt_O SX6 6 r res σ' ∧ gt_F r (r + 14) σ0 σ') → ga_G X 0 0 K pc lv [] σ') (hr0 : r ≠ 0) {T : gt_T} {σ : ga_S} {lv : Nat → Option ga_V} (hW : gt_O SX6 6 r T σ) (hF : gt_F r (r + 14) σ0 σ) (hl0 : lv 0 = some (.inr r)) (h : fX6_back T = some res) : ga_G X 0 0 K 0 lv [] σ := by
  unfold fX6_back at h
  refine ga_aload_n C dX6_back_0 rfl hl0 hr0 ?_
  refine ga_aload_n C dX6_back_1 rfl hl0 hr0 ?_
  refine gt_geti C (iX6_back_X6) hW 7 rfl rfl (by decide) kX6_back_102 dX6_back_2 ?_
  refine gt_puti C okX6 (by decide) (iX6_back_X6) tyX6 tyX6_ok nmX6 hW hF ⟨Nat.le_refl _, Nat.le_refl _⟩ 5 rfl rfl (by decide) kX6_back_57 rfl (by decide +kernel) dX6_back_5 (fun σ hW hF hf => ?_)
  refine ga_aload_n C dX6_back_8 rfl hl0 hr0 ?_
  refine ga_aload_n C dX6_back_9 rfl hl0 hr0 ?_
  refine gt_geti C (iX6_back_X6) hW 8 rfl rfl (by decide) kX6_back_108 dX6_back_10 ?_
  refine gt_puti C okX6 (by decide) (iX6_back_X6) tyX6 tyX6_ok nmX6 hW hF ⟨Nat.le_refl _, Nat.le_refl _⟩ 6 rfl rfl (by decide) kX6_back_105 rfl (by decide +kernel) dX6_back_13 (fun σ hW hF hf => ?_)
  refine ga_iconst C dX6_back_16 ⟨by decide, by decide⟩ ?_
  refine ga_istore_n C dX6_back_17 rfl (by decide) ?_
  exact gX6_back_18 C hRet hr0 gt_fuel (((va_up (va_up T.1 5 (T.1 7)) 6 ((va_up T.1 5 (T.1 7)) 8)), T.2), (0 : Int)) _ _ hW hF (gt_un (by decide) hl0) gt_us h
set_option maxHeartbeats 4000000 in
theorem eX6_back (l : Launch) (D : va_G) (cI cZ : ClassId) (K : Nat) {r : Nat} (hr0 : r ≠ 0) {σ : ga_S} {T : gt_T} (hW : gt_O SX6 6 r T σ) {res : gt_T} (h : fX6_back T = some res) : ga_Ev l (D, vwCl, cI, cZ) yX6_back wsX6_back (gt_rm 0 0) [] 0 0 K [.inr r] σ (fun σ' rv => (gt_O SX6 6 r res σ' ∧ gt_F r (r + 14) σ σ') ∧ rv = none) := by
  refine ga_ofV (by decide +kernel) rfl gt_hcl (Nat.le_of_ble_eq_true rfl) (fun X hX C hret => ?_)
  exact gX6_back_0 C (fun pc lv σ' d hp => hret pc lv σ' d ⟨hp, rfl⟩) hr0 hW gt_F.rf rfl h
-- X6_badLabel: badLabel(Z)I
def fX6_badLabel_110 (k6 : gt_T × Int × Int → Option (gt_T × Int)) (T : gt_T) (l1 l2 s0 : Int) : Option (gt_T × Int) :=
  (if s0 = 0 then (if (0 ≤ l2 ∧ l2 < 80) then some (T, T.2 14 l2.toNat) else none) else (if (-2147483648 ≤ l2 + (1 : Int) ∧ l2 + (1 : Int) < 2147483648) then k6 (T, l1, l2 + (1 : Int)) else none))
def fX6_badLabel_96 (k6 : gt_T × Int × Int → Option (gt_T × Int)) (T : gt_T) (l1 l2 : Int) : Option (gt_T × Int) :=
  fX6_badLabel_110 k6 T l1 l2 (0 : Int)
def fX6_badLabel_52 (k6 : gt_T × Int × Int → Option (gt_T × Int)) (k19 : gt_T × Int × Int × Int × Int → Option (gt_T × Int)) (T : gt_T) (l1 l2 l4 s0 s1 : Int) : Option (gt_T × Int) :=
  (if (-2147483648 ≤ s0 + s1 ∧ s0 + s1 < 2147483648) ∧ (-2147483648 ≤ l4 + (1 : Int) ∧ l4 + (1 : Int) < 2147483648) then k19 (T, l1, l2, s0 + s1, l4 + (1 : Int)) else none)
def fX6_badLabel_19 (k6 : gt_T × Int × Int → Option (gt_T × Int)) (k19 : gt_T × Int × Int × Int × Int → Option (gt_T × Int)) (a : gt_T × Int × Int × Int × Int) : Option (gt_T × Int) :=
  (if (-2147483648 ≤ (4 : Int) * (a.1.1 5) ∧ (4 : Int) * (a.1.1 5) < 2147483648) then (if ((4 : Int) * (a.1.1 5)) ≤ a.2.2.2.2 then (if a.2.1 = 0 then (if a.2.2.2.1 = (2 : Int) then fX6_badLabel_110 k6 a.1 a.2.1 a.2.2.1 (1 : Int) else fX6_badLabel_110 k6 a.1 a.2.1 a.2.2.1 (0 : Int)) else (if (0 ≤ a.2.2.1 ∧ a.2.2.1 < 80) then (fX6_placeOf a.1 (a.1.2 14 a.2.2.1.toNat) (1 : Int)).bind (fun (q72 : Int) => (if q72 < 0 then fX6_badLabel_96 k6 a.1 a.2.1 a.2.2.1 else (if (0 ≤ a.2.2.1 ∧ a.2.2.1 < 80) then (fX6_placeOf a.1 (a.1.2 14 a.2.2.1.toNat) (0 : Int)).bind (fun (q86 : Int) => (if q86 < 0 then fX6_badLabel_96 k6 a.1 a.2.1 a.2.2.1 else fX6_badLabel_110 k6 a.1 a.2.1 a.2.2.1 (1 : Int))) else none))) else none)) else (if (0 ≤ a.2.2.2.2 ∧ a.2.2.2.2 < 80) ∧ (0 ≤ a.2.2.1 ∧ a.2.2.1 < 80) then (if (a.1.2 10 a.2.2.2.2.toNat) = (a.1.2 14 a.2.2.1.toNat) then fX6_badLabel_52 k6 k19 a.1 a.2.1 a.2.2.1 a.2.2.2.2 a.2.2.2.1 (1 : Int) else fX6_badLabel_52 k6 k19 a.1 a.2.1 a.2.2.1 a.2.2.2.2 a.2.2.2.1 (0 : Int)) else none)) else none)
def fX6_badLabel_6 (k6 : gt_T × Int × Int → Option (gt_T × Int)) (a : gt_T × Int × Int) : Option (gt_T × Int) :=
  (if (a.1.1 13) ≤ a.2.2 then some (a.1, (-1 : Int)) else gt_loop (fX6_badLabel_19 k6) gt_fuel (a.1, a.2.1, a.2.2, (0 : Int), (0 : Int)))
def fX6_badLabel (T : gt_T) (l1 : Int) : Option (gt_T × Int) :=
  (fX6_sort T).bind (fun (q1 : gt_T) => gt_loop (fX6_badLabel_6) gt_fuel (q1, l1, (0 : Int)))
theorem iX6_badLabel_X6 : ∀ w ∈ u_ws RX6 TX6 23, w ∈ wsX6_badLabel := by decide +kernel
theorem kX6_badLabel_23 : Cond.fieldLink yX6_badLabel.cls 23 (TX6 10).1 (TX6 10).2.1 (TX6 10).2.2.1 ∈ wsX6_badLabel := by decide +kernel
theorem kX6_badLabel_32 : Cond.fieldLink yX6_badLabel.cls 32 (TX6 14).1 (TX6 14).2.1 (TX6 14).2.2.1 ∈ wsX6_badLabel := by decide +kernel
theorem kX6_badLabel_57 : Cond.fieldLink yX6_badLabel.cls 57 (TX6 5).1 (TX6 5).2.1 (TX6 5).2.2.1 ∈ wsX6_badLabel := by decide +kernel
theorem kX6_badLabel_72 : Cond.fieldLink yX6_badLabel.cls 72 (TX6 13).1 (TX6 13).2.1 (TX6 13).2.2.1 ∈ wsX6_badLabel := by decide +kernel
set_option maxHeartbeats 4000000 in
theorem gX6_badLabel_110 {X : ga_X} {D : va_G} {cI cZ : ClassId} {K : Nat} {r : Nat} {σ0 : ga_S} {res : gt_T × Int} {k6 : gt_T × Int × Int → Option (gt_T × Int)} (C : ga_C X cX6_badLabel yX6_badLabel wsX6_badLabel [] (gt_rm 2 46) (D, vwCl, cI, cZ) 5) (hRet : ∀ (pc : Nat) (lv : Nat → Option ga_V) (σ' : ga_S) (z : Int), decode cX6_badLabel pc = .ok (.ireturn, 1) → z = res.2 → (gt_O SX6 6 r res.1 σ' ∧ gt_F r (r + 14) σ0 σ') → ga_G X 0 0 K pc lv [.inl z] σ') (hr0 : r ≠ 0) (hk6 : ∀ (a : gt_T × Int × Int) (σ : ga_S) (lv : Nat → Option ga_V), gt_O SX6 6 r a.1 σ → gt_F r (r + 14) σ0 σ → lv 0 = some (.inr r) → lv 1 = some (.inl a.2.1) → lv 2 = some (.inl a.2.2) → k6 a = some res → ga_G X 0 0 K 6 lv [] σ) {T : gt_T} {σ : ga_S} {l1 l2 s0 : Int} {lv : Nat → Option ga_V} (hW : gt_O SX6 6 r T σ) (hF : gt_F r (r + 14) σ0 σ) (hl0 : lv 0 = some (.inr r)) (hl1 : lv 1 = some (.inl l1)) (hl2 : lv 2 = some (.inl l2)) (h : fX6_badLabel_110 k6 T l1 l2 s0 = some res) : ga_G X 0 0 K 110 lv [.inl s0] σ := by
  unfold fX6_badLabel_110 at h
  refine ga_istore C dX6_badLabel_110 (by decide) ?_
  refine ga_iload C dX6_badLabel_112 gt_us ?_
  refine ga_if_ne (tgt := 124) C dX6_badLabel_114 (by decide) (fun c1 => ?_) (fun c1 => ?_)
  · have h := gt_in h c1
    obtain ⟨hg, h⟩ := gt_gd h
    have g124_0 := hg
    refine ga_iinc C dX6_badLabel_124 (gt_un (by decide) hl2) g124_0 ?_
    refine ga_goto (tgt := 6) C dX6_badLabel_127 (by decide) ?_
    exact hk6 (T, l1, l2 + (1 : Int)) _ _ hW hF (gt_un (by decide) (gt_un (by decide) hl0)) (gt_un (by decide) (gt_un (by decide) hl1)) gt_us h
  · have h := gt_ip h c1
    obtain ⟨hg, h⟩ := gt_gd h
    have g122_0 := hg
    refine ga_aload_n C dX6_badLabel_117 rfl (gt_un (by decide) hl0) hr0 ?_
    refine gt_geta C (iX6_badLabel_X6) hW 14 rfl rfl (by decide) kX6_badLabel_32 dX6_badLabel_118 ?_
    refine ga_iload_n C dX6_badLabel_121 rfl (gt_un (by decide) hl2) ?_
    refine gt_iald C hW 14 rfl g122_0.1 g122_0.2 dX6_badLabel_122 ?_
    cases h
    exact hRet _ _ _ _ dX6_badLabel_123 rfl ⟨hW, hF⟩
set_option maxHeartbeats 4000000 in
theorem gX6_badLabel_96 {X : ga_X} {D : va_G} {cI cZ : ClassId} {K : Nat} {r : Nat} {σ0 : ga_S} {res : gt_T × Int} {k6 : gt_T × Int × Int → Option (gt_T × Int)} (C : ga_C X cX6_badLabel yX6_badLabel wsX6_badLabel [] (gt_rm 2 46) (D, vwCl, cI, cZ) 5) (hRet : ∀ (pc : Nat) (lv : Nat → Option ga_V) (σ' : ga_S) (z : Int), decode cX6_badLabel pc = .ok (.ireturn, 1) → z = res.2 → (gt_O SX6 6 r res.1 σ' ∧ gt_F r (r + 14) σ0 σ') → ga_G X 0 0 K pc lv [.inl z] σ') (hr0 : r ≠ 0) (hk6 : ∀ (a : gt_T × Int × Int) (σ : ga_S) (lv : Nat → Option ga_V), gt_O SX6 6 r a.1 σ → gt_F r (r + 14) σ0 σ → lv 0 = some (.inr r) → lv 1 = some (.inl a.2.1) → lv 2 = some (.inl a.2.2) → k6 a = some res → ga_G X 0 0 K 6 lv [] σ) {T : gt_T} {σ : ga_S} {l1 l2 : Int} {lv : Nat → Option ga_V} (hW : gt_O SX6 6 r T σ) (hF : gt_F r (r + 14) σ0 σ) (hl0 : lv 0 = some (.inr r)) (hl1 : lv 1 = some (.inl l1)) (hl2 : lv 2 = some (.inl l2)) (h : fX6_badLabel_96 k6 T l1 l2 = some res) : ga_G X 0 0 K 96 lv [] σ := by
  unfold fX6_badLabel_96 at h
  refine ga_iconst C dX6_badLabel_96 ⟨by decide, by decide⟩ ?_
  refine ga_goto (tgt := 110) C dX6_badLabel_97 (by decide) ?_
  exact gX6_badLabel_110 C hRet hr0 hk6 hW hF hl0 hl1 hl2 h
set_option maxHeartbeats 4000000 in
theorem gX6_badLabel_52 {X : ga_X} {D : va_G} {cI cZ : ClassId} {K : Nat} {r : Nat} {σ0 : ga_S} {res : gt_T × Int} {k6 : gt_T × Int × Int → Option (gt_T × Int)} {k19 : gt_T × Int × Int × Int × Int → Option (gt_T × Int)} (C : ga_C X cX6_badLabel yX6_badLabel wsX6_badLabel [] (gt_rm 2 46) (D, vwCl, cI, cZ) 5) (hRet : ∀ (pc : Nat) (lv : Nat → Option ga_V) (σ' : ga_S) (z : Int), decode cX6_badLabel pc = .ok (.ireturn, 1) → z = res.2 → (gt_O SX6 6 r res.1 σ' ∧ gt_F r (r + 14) σ0 σ') → ga_G X 0 0 K pc lv [.inl z] σ') (hr0 : r ≠ 0) (hk6 : ∀ (a : gt_T × Int × Int) (σ : ga_S) (lv : Nat → Option ga_V), gt_O SX6 6 r a.1 σ → gt_F r (r + 14) σ0 σ → lv 0 = some (.inr r) → lv 1 = some (.inl a.2.1) → lv 2 = some (.inl a.2.2) → k6 a = some res → ga_G X 0 0 K 6 lv [] σ) (hk19 : ∀ (a : gt_T × Int × Int × Int × Int) (σ : ga_S) (lv : Nat → Option ga_V), gt_O SX6 6 r a.1 σ → gt_F r (r + 14) σ0 σ → lv 0 = some (.inr r) → lv 1 = some (.inl a.2.1) → lv 2 = some (.inl a.2.2.1) → lv 3 = some (.inl a.2.2.2.1) → lv 4 = some (.inl a.2.2.2.2) → k19 a = some res → ga_G X 0 0 K 19 lv [] σ) {T : gt_T} {σ : ga_S} {l1 l2 l4 s0 s1 : Int} {lv : Nat → Option ga_V} (hW : gt_O SX6 6 r T σ) (hF : gt_F r (r + 14) σ0 σ) (hl0 : lv 0 = some (.inr r)) (hl1 : lv 1 = some (.inl l1)) (hl2 : lv 2 = some (.inl l2)) (hl4 : lv 4 = some (.inl l4)) (h : fX6_badLabel_52 k6 k19 T l1 l2 l4 s0 s1 = some res) : ga_G X 0 0 K 52 lv [.inl s1, .inl s0] σ := by
  unfold fX6_badLabel_52 at h
  obtain ⟨hg, h⟩ := gt_gd h
  obtain ⟨g52_0, g54_1⟩ := hg
  refine ga_iadd C dX6_badLabel_52 g52_0 ?_
  refine ga_istore_n C dX6_badLabel_53 rfl (by decide) ?_
  refine ga_iinc C dX6_badLabel_54 (gt_un (by decide) hl4) g54_1 ?_
  refine ga_goto (tgt := 19) C dX6_badLabel_57 (by decide) ?_
  exact hk19 (T, l1, l2, s0 + s1, l4 + (1 : Int)) _ _ hW hF (gt_un (by decide) (gt_un (by decide) hl0)) (gt_un (by decide) (gt_un (by decide) hl1)) (gt_un (by decide) (gt_un (by decide) hl2)) (gt_un (by decide) gt_us) gt_us h
set_option maxHeartbeats 4000000 in
theorem gX6_badLabel_19 {X : ga_X} {D : va_G} {cI cZ : ClassId} {K : Nat} {r : Nat} {σ0 : ga_S} {res : gt_T × Int} {k6 : gt_T × Int × Int → Option (gt_T × Int)} (C : ga_C X cX6_badLabel yX6_badLabel wsX6_badLabel [] (gt_rm 2 46) (D, vwCl, cI, cZ) 5) (hRet : ∀ (pc : Nat) (lv : Nat → Option ga_V) (σ' : ga_S) (z : Int), decode cX6_badLabel pc = .ok (.ireturn, 1) → z = res.2 → (gt_O SX6 6 r res.1 σ' ∧ gt_F r (r + 14) σ0 σ') → ga_G X 0 0 K pc lv [.inl z] σ') (hr0 : r ≠ 0) (hk6 : ∀ (a : gt_T × Int × Int) (σ : ga_S) (lv : Nat → Option ga_V), gt_O SX6 6 r a.1 σ → gt_F r (r + 14) σ0 σ → lv 0 = some (.inr r) → lv 1 = some (.inl a.2.1) → lv 2 = some (.inl a.2.2) → k6 a = some res → ga_G X 0 0 K 6 lv [] σ) : ∀ (n : Nat) (a : gt_T × Int × Int × Int × Int) (σ : ga_S) (lv : Nat → Option ga_V), gt_O SX6 6 r a.1 σ → gt_F r (r + 14) σ0 σ → lv 0 = some (.inr r) → lv 1 = some (.inl a.2.1) → lv 2 = some (.inl a.2.2.1) → lv 3 = some (.inl a.2.2.2.1) → lv 4 = some (.inl a.2.2.2.2) → gt_loop (fX6_badLabel_19 k6) n a = some res → ga_G X 0 0 K 19 lv [] σ := by
  intro n
  induction n with
  | zero =>
    intro a _ lv _ _ _ _ _ _ _ h
    exact absurd (show (none : Option _) = some _ from h) (fun q => by cases q)
  | succ n hk19 =>
    intro a σ lv hW hF hl0 hl1 hl2 hl3 hl4 h
    have h : fX6_badLabel_19 k6 (gt_loop (fX6_badLabel_19 k6) n) a = some res := h
    revert hk19 h
    generalize gt_loop (fX6_badLabel_19 k6) n = k19
    intro hk19 h
    unfold fX6_badLabel_19 at h
    obtain ⟨hg, h⟩ := gt_gd h
    have g26_0 := hg
    refine ga_iload C dX6_badLabel_19 hl4 ?_
    refine ga_iconst C dX6_badLabel_21 ⟨by decide, by decide⟩ ?_
    refine ga_aload_n C dX6_badLabel_22 rfl hl0 hr0 ?_
    refine gt_geti C (iX6_badLabel_X6) hW 5 rfl rfl (by decide) kX6_badLabel_57 dX6_badLabel_23 ?_
    refine ga_imul C dX6_badLabel_26 g26_0 ?_
    refine ga_icmp_ge (tgt := 60) C dX6_badLabel_27 (by decide) (fun c1 => ?_) (fun c1 => ?_)
    · have h := gt_ip h c1
      refine ga_iload_n C dX6_badLabel_60 rfl hl1 ?_
      refine ga_if_eq (tgt := 100) C dX6_badLabel_61 (by decide) (fun c1 => ?_) (fun c1 => ?_)
      · have h := gt_ip h c1
        refine ga_iload_n C dX6_badLabel_100 rfl hl3 ?_
        refine ga_iconst C dX6_badLabel_101 ⟨by decide, by decide⟩ ?_
        refine ga_icmp_ne (tgt := 109) C dX6_badLabel_102 (by decide) (fun c1 => ?_) (fun c1 => ?_)
        · have h := gt_in h c1
          refine ga_iconst C dX6_badLabel_109 ⟨by decide, by decide⟩ ?_
          exact gX6_badLabel_110 C hRet hr0 hk6 hW hF hl0 hl1 hl2 h
        · have h := gt_ip h c1
          refine ga_iconst C dX6_badLabel_105 ⟨by decide, by decide⟩ ?_
          refine ga_goto (tgt := 110) C dX6_badLabel_106 (by decide) ?_
          exact gX6_badLabel_110 C hRet hr0 hk6 hW hF hl0 hl1 hl2 h
      · have h := gt_in h c1
        obtain ⟨hg, h⟩ := gt_gd h
        have g70_0 := hg
        refine ga_aload_n C dX6_badLabel_64 rfl hl0 hr0 ?_
        refine ga_aload_n C dX6_badLabel_65 rfl hl0 hr0 ?_
        refine gt_geta C (iX6_badLabel_X6) hW 14 rfl rfl (by decide) kX6_badLabel_32 dX6_badLabel_66 ?_
        refine ga_iload_n C dX6_badLabel_69 rfl hl2 ?_
        refine gt_iald C hW 14 rfl g70_0.1 g70_0.2 dX6_badLabel_70 ?_
        refine ga_iconst C dX6_badLabel_71 ⟨by decide, by decide⟩ ?_
        obtain ⟨q72, hq, h⟩ := Option.bind_eq_some_iff.mp h
        refine gt_cVi (n := 2) (st := []) C (eX6_placeOf X.2.1 D cI cZ K hr0 hW hq) gX6_badLabel_X6_placeOf rfl (by decide +kernel) rfl ⟨Nat.le_of_ble_eq_true rfl, Nat.le_of_ble_eq_true rfl⟩ hW.1 rfl rfl (Nat.le_of_ble_eq_true rfl) rfl dX6_badLabel_72 (fun σ' hp => ?_)
        subst hp
        refine ga_if_lt (tgt := 96) C dX6_badLabel_75 (by decide) (fun c1 => ?_) (fun c1 => ?_)
        · have h := gt_ip h c1
          exact gX6_badLabel_96 C hRet hr0 hk6 hW hF hl0 hl1 hl2 h
        · have h := gt_in h c1
          obtain ⟨hg, h⟩ := gt_gd h
          have g84_0 := hg
          refine ga_aload_n C dX6_badLabel_78 rfl hl0 hr0 ?_
          refine ga_aload_n C dX6_badLabel_79 rfl hl0 hr0 ?_
          refine gt_geta C (iX6_badLabel_X6) hW 14 rfl rfl (by decide) kX6_badLabel_32 dX6_badLabel_80 ?_
          refine ga_iload_n C dX6_badLabel_83 rfl hl2 ?_
          refine gt_iald C hW 14 rfl g84_0.1 g84_0.2 dX6_badLabel_84 ?_
          refine ga_iconst C dX6_badLabel_85 ⟨by decide, by decide⟩ ?_
          obtain ⟨q86, hq, h⟩ := Option.bind_eq_some_iff.mp h
          refine gt_cVi (n := 2) (st := []) C (eX6_placeOf X.2.1 D cI cZ K hr0 hW hq) gX6_badLabel_X6_placeOf rfl (by decide +kernel) rfl ⟨Nat.le_of_ble_eq_true rfl, Nat.le_of_ble_eq_true rfl⟩ hW.1 rfl rfl (Nat.le_of_ble_eq_true rfl) rfl dX6_badLabel_86 (fun σ' hp => ?_)
          subst hp
          refine ga_if_lt (tgt := 96) C dX6_badLabel_89 (by decide) (fun c1 => ?_) (fun c1 => ?_)
          · have h := gt_ip h c1
            exact gX6_badLabel_96 C hRet hr0 hk6 hW hF hl0 hl1 hl2 h
          · have h := gt_in h c1
            refine ga_iconst C dX6_badLabel_92 ⟨by decide, by decide⟩ ?_
            refine ga_goto (tgt := 110) C dX6_badLabel_93 (by decide) ?_
            exact gX6_badLabel_110 C hRet hr0 hk6 hW hF hl0 hl1 hl2 h
    · have h := gt_in h c1
      obtain ⟨hg, h⟩ := gt_gd h
      obtain ⟨g37_0, g43_1⟩ := hg
      refine ga_iload_n C dX6_badLabel_30 rfl hl3 ?_
      refine ga_aload_n C dX6_badLabel_31 rfl hl0 hr0 ?_
      refine gt_geta C (iX6_badLabel_X6) hW 10 rfl rfl (by decide) kX6_badLabel_23 dX6_badLabel_32 ?_
      refine ga_iload C dX6_badLabel_35 hl4 ?_
      refine gt_iald C hW 10 rfl g37_0.1 g37_0.2 dX6_badLabel_37 ?_
      refine ga_aload_n C dX6_badLabel_38 rfl hl0 hr0 ?_
      refine gt_geta C (iX6_badLabel_X6) hW 14 rfl rfl (by decide) kX6_badLabel_32 dX6_badLabel_39 ?_
      refine ga_iload_n C dX6_badLabel_42 rfl hl2 ?_
      refine gt_iald C hW 14 rfl g43_1.1 g43_1.2 dX6_badLabel_43 ?_
      refine ga_icmp_ne (tgt := 51) C dX6_badLabel_44 (by decide) (fun c1 => ?_) (fun c1 => ?_)
      · have h := gt_in h c1
        refine ga_iconst C dX6_badLabel_51 ⟨by decide, by decide⟩ ?_
        exact gX6_badLabel_52 C hRet hr0 hk6 hk19 hW hF hl0 hl1 hl2 hl4 h
      · have h := gt_ip h c1
        refine ga_iconst C dX6_badLabel_47 ⟨by decide, by decide⟩ ?_
        refine ga_goto (tgt := 52) C dX6_badLabel_48 (by decide) ?_
        exact gX6_badLabel_52 C hRet hr0 hk6 hk19 hW hF hl0 hl1 hl2 hl4 h
set_option maxHeartbeats 4000000 in
theorem gX6_badLabel_6 {X : ga_X} {D : va_G} {cI cZ : ClassId} {K : Nat} {r : Nat} {σ0 : ga_S} {res : gt_T × Int} (C : ga_C X cX6_badLabel yX6_badLabel wsX6_badLabel [] (gt_rm 2 46) (D, vwCl, cI, cZ) 5) (hRet : ∀ (pc : Nat) (lv : Nat → Option ga_V) (σ' : ga_S) (z : Int), decode cX6_badLabel pc = .ok (.ireturn, 1) → z = res.2 → (gt_O SX6 6 r res.1 σ' ∧ gt_F r (r + 14) σ0 σ') → ga_G X 0 0 K pc lv [.inl z] σ') (hr0 : r ≠ 0) : ∀ (n : Nat) (a : gt_T × Int × Int) (σ : ga_S) (lv : Nat → Option ga_V), gt_O SX6 6 r a.1 σ → gt_F r (r + 14) σ0 σ → lv 0 = some (.inr r) → lv 1 = some (.inl a.2.1) → lv 2 = some (.inl a.2.2) → gt_loop (fX6_badLabel_6) n a = some res → ga_G X 0 0 K 6 lv [] σ := by
  intro n
  induction n with
  | zero =>
    intro a _ lv _ _ _ _ _ h
    exact absurd (show (none : Option _) = some _ from h) (fun q => by cases q)
  | succ n hk6 =>
    intro a σ lv hW hF hl0 hl1 hl2 h
    have h : fX6_badLabel_6 (gt_loop (fX6_badLabel_6) n) a = some res := h
    revert hk6 h
    generalize gt_loop (fX6_badLabel_6) n = k6
    intro hk6 h
    unfold fX6_badLabel_6 at h
    refine ga_iload_n C dX6_badLabel_6 rfl hl2 ?_
    refine ga_aload_n C dX6_badLabel_7 rfl hl0 hr0 ?_
    refine gt_geti C (iX6_badLabel_X6) hW 13 rfl rfl (by decide) kX6_badLabel_72 dX6_badLabel_8 ?_
    refine ga_icmp_ge (tgt := 130) C dX6_badLabel_11 (by decide) (fun c1 => ?_) (fun c1 => ?_)
    · have h := gt_ip h c1
      refine ga_iconst C dX6_badLabel_130 ⟨by decide, by decide⟩ ?_
      cases h
      exact hRet _ _ _ _ dX6_badLabel_131 rfl ⟨hW, hF⟩
    · have h := gt_in h c1
      refine ga_iconst C dX6_badLabel_14 ⟨by decide, by decide⟩ ?_
      refine ga_istore_n C dX6_badLabel_15 rfl (by decide) ?_
      refine ga_iconst C dX6_badLabel_16 ⟨by decide, by decide⟩ ?_
      refine ga_istore C dX6_badLabel_17 (by decide) ?_
      exact gX6_badLabel_19 C hRet hr0 hk6 gt_fuel (a.1, a.2.1, a.2.2, (0 : Int), (0 : Int)) _ _ hW hF (gt_un (by decide) (gt_un (by decide) hl0)) (gt_un (by decide) (gt_un (by decide) hl1)) (gt_un (by decide) (gt_un (by decide) hl2)) (gt_un (by decide) gt_us) gt_us h
set_option maxHeartbeats 4000000 in
theorem gX6_badLabel_0 {X : ga_X} {D : va_G} {cI cZ : ClassId} {K : Nat} {r : Nat} {σ0 : ga_S} {res : gt_T × Int} (C : ga_C X cX6_badLabel yX6_badLabel wsX6_badLabel [] (gt_rm 2 46) (D, vwCl, cI, cZ) 5) (hRet : ∀ (pc : Nat) (lv : Nat → Option ga_V) (σ' : ga_S) (z : Int), decode cX6_badLabel pc = .ok (.ireturn, 1) → z = res.2 → (gt_O SX6 6 r res.1 σ' ∧ gt_F r (r + 14) σ0 σ') → ga_G X 0 0 K pc lv [.inl z] σ') (hr0 : r ≠ 0) {T : gt_T} {σ : ga_S} {l1 : Int} {lv : Nat → Option ga_V} (hW : gt_O SX6 6 r T σ) (hF : gt_F r (r + 14) σ0 σ) (hl0 : lv 0 = some (.inr r)) (hl1 : lv 1 = some (.inl l1)) (h : fX6_badLabel T l1 = some res) : ga_G X 0 0 K 0 lv [] σ := by
  unfold fX6_badLabel at h
  refine ga_aload_n C dX6_badLabel_0 rfl hl0 hr0 ?_
  obtain ⟨q1, hq, h⟩ := Option.bind_eq_some_iff.mp h
  refine gt_cVv (n := 0) (st := []) C (eX6_sort X.2.1 D cI cZ K hr0 hW hq) gX6_badLabel_X6_sort rfl (by decide +kernel) rfl ⟨Nat.le_of_ble_eq_true rfl, Nat.le_of_ble_eq_true rfl⟩ hW.1 rfl rfl (Nat.le_of_ble_eq_true rfl) rfl dX6_badLabel_1 (fun σ' hp => ?_)
  obtain ⟨hw, hf⟩ := hp
  have hF := hF.tr hf (Nat.le_refl _) (Nat.le_refl _)
  have hW := hw
  clear hf
  refine ga_iconst C dX6_badLabel_4 ⟨by decide, by decide⟩ ?_
  refine ga_istore_n C dX6_badLabel_5 rfl (by decide) ?_
  exact gX6_badLabel_6 C hRet hr0 gt_fuel (q1, l1, (0 : Int)) _ _ hW hF (gt_un (by decide) hl0) (gt_un (by decide) hl1) gt_us h
set_option maxHeartbeats 4000000 in
theorem eX6_badLabel (l : Launch) (D : va_G) (cI cZ : ClassId) (K : Nat) {r : Nat} (hr0 : r ≠ 0) {σ : ga_S} {T : gt_T} (hW : gt_O SX6 6 r T σ) {l1 : Int} {res : gt_T × Int} (h : fX6_badLabel T l1 = some res) : ga_Ev l (D, vwCl, cI, cZ) yX6_badLabel wsX6_badLabel (gt_rm 2 46) [] 0 0 K [.inr r, .inl l1] σ (fun σ' rv => (gt_O SX6 6 r res.1 σ' ∧ gt_F r (r + 14) σ σ') ∧ rv = some (.inl res.2)) := by
  refine ga_ofI (by decide +kernel) rfl gt_hcl (Nat.le_of_ble_eq_true rfl) (fun X hX C hret => ?_)
  exact gX6_badLabel_0 C (fun pc lv σ' z d hz hp => hret pc lv σ' z d ⟨hp, by rw [hz]⟩) hr0 hW gt_F.rf rfl rfl h
