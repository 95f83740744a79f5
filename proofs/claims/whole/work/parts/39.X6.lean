-- X6_isOut: isOut(I)Z
def fX6_isOut_34 (T : gt_T) (s0 : Int) : Option (Int) :=
  (if (s0 = 0 ∨ s0 = 1) then some s0 else none)
def fX6_isOut_29 (T : gt_T) : Option (Int) :=
  fX6_isOut_34 T (1 : Int)
def fX6_isOut_26 (T : gt_T) (s0 s1 : Int) : Option (Int) :=
  (if s0 = s1 then fX6_isOut_29 T else fX6_isOut_34 T (0 : Int))
def fX6_isOut (T : gt_T) (l1 : Int) : Option (Int) :=
  (if 0 ≤ l1 then (if (l1 % (4 : Int)) = (2 : Int) then fX6_isOut_29 T else (if (0 ≤ (Int.tdiv l1 (4 : Int)) ∧ (Int.tdiv l1 (4 : Int)) < 20) then (if (T.2 9 (Int.tdiv l1 (4 : Int)).toNat) ≤ 0 then fX6_isOut_26 T (l1 % (4 : Int)) (3 : Int) else fX6_isOut_26 T (l1 % (4 : Int)) (1 : Int)) else none)) else none)
theorem iX6_isOut_X6 : ∀ w ∈ u_ws RX6 TX6 23, w ∈ wsX6_isOut := by decide +kernel
theorem kX6_isOut_20 : Cond.fieldLink yX6_isOut.cls 20 (TX6 9).1 (TX6 9).2.1 (TX6 9).2.2.1 ∈ wsX6_isOut := by decide +kernel
set_option maxHeartbeats 4000000 in
theorem gX6_isOut_34 {X : ga_X} {D : va_G} {cI cZ : ClassId} {K : Nat} {r : Nat} {res : Int} {T : gt_T} {σ : ga_S} (C : ga_C X cX6_isOut yX6_isOut wsX6_isOut [] (gt_rm 0 0) (D, vwCl, cI, cZ) 3) (hRet : ∀ (pc : Nat) (lv : Nat → Option ga_V) (σ' : ga_S) (z : Int), decode cX6_isOut pc = .ok (.ireturn, 1) → (z = 0 ∨ z = 1) → z = res → (σ' = σ) → ga_G X 0 0 K pc lv [.inl z] σ') (hr0 : r ≠ 0) {s0 : Int} {lv : Nat → Option ga_V} (hW : gt_O SX6 6 r T σ) (h : fX6_isOut_34 T s0 = some res) : ga_G X 0 0 K 34 lv [.inl s0] σ := by
  unfold fX6_isOut_34 at h
  obtain ⟨hg, h⟩ := gt_gd h
  have g34_0 := hg
  cases h
  exact hRet _ _ _ _ dX6_isOut_34 g34_0 rfl rfl
set_option maxHeartbeats 4000000 in
theorem gX6_isOut_29 {X : ga_X} {D : va_G} {cI cZ : ClassId} {K : Nat} {r : Nat} {res : Int} {T : gt_T} {σ : ga_S} (C : ga_C X cX6_isOut yX6_isOut wsX6_isOut [] (gt_rm 0 0) (D, vwCl, cI, cZ) 3) (hRet : ∀ (pc : Nat) (lv : Nat → Option ga_V) (σ' : ga_S) (z : Int), decode cX6_isOut pc = .ok (.ireturn, 1) → (z = 0 ∨ z = 1) → z = res → (σ' = σ) → ga_G X 0 0 K pc lv [.inl z] σ') (hr0 : r ≠ 0) {lv : Nat → Option ga_V} (hW : gt_O SX6 6 r T σ) (h : fX6_isOut_29 T = some res) : ga_G X 0 0 K 29 lv [] σ := by
  unfold fX6_isOut_29 at h
  refine ga_iconst C dX6_isOut_29 ⟨by decide, by decide⟩ ?_
  refine ga_goto (tgt := 34) C dX6_isOut_30 (by decide) ?_
  exact gX6_isOut_34 C hRet hr0 hW h
set_option maxHeartbeats 4000000 in
theorem gX6_isOut_26 {X : ga_X} {D : va_G} {cI cZ : ClassId} {K : Nat} {r : Nat} {res : Int} {T : gt_T} {σ : ga_S} (C : ga_C X cX6_isOut yX6_isOut wsX6_isOut [] (gt_rm 0 0) (D, vwCl, cI, cZ) 3) (hRet : ∀ (pc : Nat) (lv : Nat → Option ga_V) (σ' : ga_S) (z : Int), decode cX6_isOut pc = .ok (.ireturn, 1) → (z = 0 ∨ z = 1) → z = res → (σ' = σ) → ga_G X 0 0 K pc lv [.inl z] σ') (hr0 : r ≠ 0) {s0 s1 : Int} {lv : Nat → Option ga_V} (hW : gt_O SX6 6 r T σ) (h : fX6_isOut_26 T s0 s1 = some res) : ga_G X 0 0 K 26 lv [.inl s1, .inl s0] σ := by
  unfold fX6_isOut_26 at h
  refine ga_icmp_ne (tgt := 33) C dX6_isOut_26 (by decide) (fun c1 => ?_) (fun c1 => ?_)
  · have h := gt_in h c1
    refine ga_iconst C dX6_isOut_33 ⟨by decide, by decide⟩ ?_
    exact gX6_isOut_34 C hRet hr0 hW h
  · have h := gt_ip h c1
    exact gX6_isOut_29 C hRet hr0 hW h
set_option maxHeartbeats 4000000 in
theorem gX6_isOut_0 {X : ga_X} {D : va_G} {cI cZ : ClassId} {K : Nat} {r : Nat} {res : Int} {T : gt_T} {σ : ga_S} (C : ga_C X cX6_isOut yX6_isOut wsX6_isOut [] (gt_rm 0 0) (D, vwCl, cI, cZ) 3) (hRet : ∀ (pc : Nat) (lv : Nat → Option ga_V) (σ' : ga_S) (z : Int), decode cX6_isOut pc = .ok (.ireturn, 1) → (z = 0 ∨ z = 1) → z = res → (σ' = σ) → ga_G X 0 0 K pc lv [.inl z] σ') (hr0 : r ≠ 0) {l1 : Int} {lv : Nat → Option ga_V} (hW : gt_O SX6 6 r T σ) (hl0 : lv 0 = some (.inr r)) (hl1 : lv 1 = some (.inl l1)) (h : fX6_isOut T l1 = some res) : ga_G X 0 0 K 0 lv [] σ := by
  unfold fX6_isOut at h
  obtain ⟨hg, h⟩ := gt_gd h
  have g2_0 := hg
  refine ga_iload_n C dX6_isOut_0 rfl hl1 ?_
  refine ga_iconst C dX6_isOut_1 ⟨by decide, by decide⟩ ?_
  refine ga_irem C dX6_isOut_2 (by decide) g2_0 ?_
  refine ga_istore_n C dX6_isOut_3 rfl (by decide) ?_
  refine ga_iload_n C dX6_isOut_4 rfl gt_us ?_
  refine ga_iconst C dX6_isOut_5 ⟨by decide, by decide⟩ ?_
  refine ga_icmp_eq (tgt := 29) C dX6_isOut_6 (by decide) (fun c1 => ?_) (fun c1 => ?_)
  · have h := gt_ip h c1
    exact gX6_isOut_29 C hRet hr0 hW h
  · have h := gt_in h c1
    obtain ⟨hg, h⟩ := gt_gd h
    have g17_0 := hg
    refine ga_iload_n C dX6_isOut_9 rfl gt_us ?_
    refine ga_aload_n C dX6_isOut_10 rfl (gt_un (by decide) hl0) hr0 ?_
    refine gt_geta C (iX6_isOut_X6) hW 9 rfl rfl (by decide) kX6_isOut_20 dX6_isOut_11 ?_
    refine ga_iload_n C dX6_isOut_14 rfl (gt_un (by decide) hl1) ?_
    refine ga_iconst C dX6_isOut_15 ⟨by decide, by decide⟩ ?_
    refine ga_idiv C dX6_isOut_16 (by decide) ?_
    refine gt_iald C hW 9 rfl g17_0.1 g17_0.2 dX6_isOut_17 ?_
    refine ga_if_le (tgt := 25) C dX6_isOut_18 (by decide) (fun c1 => ?_) (fun c1 => ?_)
    · have h := gt_ip h c1
      refine ga_iconst C dX6_isOut_25 ⟨by decide, by decide⟩ ?_
      exact gX6_isOut_26 C hRet hr0 hW h
    · have h := gt_in h c1
      refine ga_iconst C dX6_isOut_21 ⟨by decide, by decide⟩ ?_
      refine ga_goto (tgt := 26) C dX6_isOut_22 (by decide) ?_
      exact gX6_isOut_26 C hRet hr0 hW h
set_option maxHeartbeats 4000000 in
theorem eX6_isOut (l : Launch) (D : va_G) (cI cZ : ClassId) (K : Nat) {r : Nat} (hr0 : r ≠ 0) {σ : ga_S} {T : gt_T} (hW : gt_O SX6 6 r T σ) {l1 : Int} {res : Int} (h : fX6_isOut T l1 = some res) : ga_Ev l (D, vwCl, cI, cZ) yX6_isOut wsX6_isOut (gt_rm 0 0) [] 0 0 K [.inr r, .inl l1] σ (fun σ' rv => (σ' = σ) ∧ rv = some (.inl res)) := by
  refine ga_ofZ (by decide +kernel) rfl gt_hcl (Nat.le_of_ble_eq_true rfl) (fun X hX C hret => ?_)
  exact gX6_isOut_0 C (fun pc lv σ' z d h01 hz hp => hret pc lv σ' z d h01 ⟨hp, by rw [hz]⟩) hr0 hW rfl rfl h
-- X6_isUpper: isUpper(I)Z
def fX6_isUpper_12 (s0 : Int) : Option (Int) :=
  (if (s0 = 0 ∨ s0 = 1) then some s0 else none)
def fX6_isUpper (l0 : Int) : Option (Int) :=
  (if 0 ≤ l0 then (if (l0 % (2 : Int)) = (1 : Int) then fX6_isUpper_12 (1 : Int) else fX6_isUpper_12 (0 : Int)) else none)
set_option maxHeartbeats 4000000 in
theorem gX6_isUpper_12 {X : ga_X} {D : va_G} {cI cZ : ClassId} {K : Nat} {res : Int} {σ : ga_S} (C : ga_C X cX6_isUpper yX6_isUpper wsX6_isUpper [] (gt_rm 0 0) (D, vwCl, cI, cZ) 1) (hRet : ∀ (pc : Nat) (lv : Nat → Option ga_V) (σ' : ga_S) (z : Int), decode cX6_isUpper pc = .ok (.ireturn, 1) → (z = 0 ∨ z = 1) → z = res → σ' = σ → ga_G X 0 0 K pc lv [.inl z] σ') {s0 : Int} {lv : Nat → Option ga_V}  (h : fX6_isUpper_12 s0 = some res) : ga_G X 0 0 K 12 lv [.inl s0] σ := by
  unfold fX6_isUpper_12 at h
  obtain ⟨hg, h⟩ := gt_gd h
  have g12_0 := hg
  cases h
  exact hRet _ _ _ _ dX6_isUpper_12 g12_0 rfl rfl
set_option maxHeartbeats 4000000 in
theorem gX6_isUpper_0 {X : ga_X} {D : va_G} {cI cZ : ClassId} {K : Nat} {res : Int} {σ : ga_S} (C : ga_C X cX6_isUpper yX6_isUpper wsX6_isUpper [] (gt_rm 0 0) (D, vwCl, cI, cZ) 1) (hRet : ∀ (pc : Nat) (lv : Nat → Option ga_V) (σ' : ga_S) (z : Int), decode cX6_isUpper pc = .ok (.ireturn, 1) → (z = 0 ∨ z = 1) → z = res → σ' = σ → ga_G X 0 0 K pc lv [.inl z] σ') {l0 : Int} {lv : Nat → Option ga_V} (hl0 : lv 0 = some (.inl l0)) (h : fX6_isUpper l0 = some res) : ga_G X 0 0 K 0 lv [] σ := by
  unfold fX6_isUpper at h
  obtain ⟨hg, h⟩ := gt_gd h
  have g2_0 := hg
  refine ga_iload_n C dX6_isUpper_0 rfl hl0 ?_
  refine ga_iconst C dX6_isUpper_1 ⟨by decide, by decide⟩ ?_
  refine ga_irem C dX6_isUpper_2 (by decide) g2_0 ?_
  refine ga_iconst C dX6_isUpper_3 ⟨by decide, by decide⟩ ?_
  refine ga_icmp_ne (tgt := 11) C dX6_isUpper_4 (by decide) (fun c1 => ?_) (fun c1 => ?_)
  · have h := gt_in h c1
    refine ga_iconst C dX6_isUpper_11 ⟨by decide, by decide⟩ ?_
    exact gX6_isUpper_12 C hRet h
  · have h := gt_ip h c1
    refine ga_iconst C dX6_isUpper_7 ⟨by decide, by decide⟩ ?_
    refine ga_goto (tgt := 12) C dX6_isUpper_8 (by decide) ?_
    exact gX6_isUpper_12 C hRet h
set_option maxHeartbeats 4000000 in
theorem eX6_isUpper (l : Launch) (D : va_G) (cI cZ : ClassId) (K : Nat) {σ : ga_S} {l0 : Int} {res : Int} (h : fX6_isUpper l0 = some res) : ga_Ev l (D, vwCl, cI, cZ) yX6_isUpper wsX6_isUpper (gt_rm 0 0) [] 0 0 K [.inl l0] σ (fun σ' rv => (σ' = σ) ∧ rv = some (.inl res)) := by
  refine ga_ofZ (by decide +kernel) rfl gt_hcl (Nat.le_of_ble_eq_true rfl) (fun X hX C hret => ?_)
  exact gX6_isUpper_0 C (fun pc lv σ' z d h01 hz hp => hret pc lv σ' z d h01 ⟨hp, by rw [hz]⟩) rfl h
-- X6_placeOf: placeOf(IZ)I
def fX6_placeOf_43 (T : gt_T) (k5 : Int × Int × Int × Int → Option (Int)) (l1 l2 l4 s0 : Int) : Option (Int) :=
  (if (-2147483648 ≤ l4 + (1 : Int) ∧ l4 + (1 : Int) < 2147483648) then k5 (l1, l2, s0, l4 + (1 : Int)) else none)
def fX6_placeOf_42 (T : gt_T) (k5 : Int × Int × Int × Int → Option (Int)) (l1 l2 l3 l4 : Int) : Option (Int) :=
  fX6_placeOf_43 T k5 l1 l2 l4 l3
def fX6_placeOf_5 (T : gt_T) (k5 : Int × Int × Int × Int → Option (Int)) (a : Int × Int × Int × Int) : Option (Int) :=
  (if (-2147483648 ≤ (4 : Int) * (T.1 5) ∧ (4 : Int) * (T.1 5) < 2147483648) then (if ((4 : Int) * (T.1 5)) ≤ a.2.2.2 then some a.2.2.1 else (if (0 ≤ a.2.2.2 ∧ a.2.2.2 < 80) then (if (T.2 10 a.2.2.2.toNat) = a.1 then (fX6_isOut T a.2.2.2).bind (fun (q30 : Int) => (if q30 = a.2.1 then fX6_placeOf_43 T k5 a.1 a.2.1 a.2.2.2 a.2.2.2 else fX6_placeOf_42 T k5 a.1 a.2.1 a.2.2.1 a.2.2.2)) else fX6_placeOf_42 T k5 a.1 a.2.1 a.2.2.1 a.2.2.2) else none)) else none)
def fX6_placeOf (T : gt_T) (l1 l2 : Int) : Option (Int) :=
  gt_loop (fX6_placeOf_5 T) gt_fuel (l1, l2, (-1 : Int), (0 : Int))
theorem iX6_placeOf_X6 : ∀ w ∈ u_ws RX6 TX6 23, w ∈ wsX6_placeOf := by decide +kernel
theorem kX6_placeOf_23 : Cond.fieldLink yX6_placeOf.cls 23 (TX6 10).1 (TX6 10).2.1 (TX6 10).2.2.1 ∈ wsX6_placeOf := by decide +kernel
theorem kX6_placeOf_57 : Cond.fieldLink yX6_placeOf.cls 57 (TX6 5).1 (TX6 5).2.1 (TX6 5).2.2.1 ∈ wsX6_placeOf := by decide +kernel
set_option maxHeartbeats 4000000 in
theorem gX6_placeOf_43 {X : ga_X} {D : va_G} {cI cZ : ClassId} {K : Nat} {r : Nat} {res : Int} {T : gt_T} {σ : ga_S} {k5 : Int × Int × Int × Int → Option (Int)} (C : ga_C X cX6_placeOf yX6_placeOf wsX6_placeOf [] (gt_rm 1 22) (D, vwCl, cI, cZ) 5) (hRet : ∀ (pc : Nat) (lv : Nat → Option ga_V) (σ' : ga_S) (z : Int), decode cX6_placeOf pc = .ok (.ireturn, 1) → z = res → (σ' = σ) → ga_G X 0 0 K pc lv [.inl z] σ') (hr0 : r ≠ 0) (hk5 : ∀ (a : Int × Int × Int × Int) (lv : Nat → Option ga_V), gt_O SX6 6 r T σ → lv 0 = some (.inr r) → lv 1 = some (.inl a.1) → lv 2 = some (.inl a.2.1) → lv 3 = some (.inl a.2.2.1) → lv 4 = some (.inl a.2.2.2) → k5 a = some res → ga_G X 0 0 K 5 lv [] σ) {l1 l2 l4 s0 : Int} {lv : Nat → Option ga_V} (hW : gt_O SX6 6 r T σ) (hl0 : lv 0 = some (.inr r)) (hl1 : lv 1 = some (.inl l1)) (hl2 : lv 2 = some (.inl l2)) (hl4 : lv 4 = some (.inl l4)) (h : fX6_placeOf_43 T k5 l1 l2 l4 s0 = some res) : ga_G X 0 0 K 43 lv [.inl s0] σ := by
  unfold fX6_placeOf_43 at h
  obtain ⟨hg, h⟩ := gt_gd h
  have g44_0 := hg
  refine ga_istore_n C dX6_placeOf_43 rfl (by decide) ?_
  refine ga_iinc C dX6_placeOf_44 (gt_un (by decide) hl4) g44_0 ?_
  refine ga_goto (tgt := 5) C dX6_placeOf_47 (by decide) ?_
  exact hk5 (l1, l2, s0, l4 + (1 : Int)) _ hW (gt_un (by decide) (gt_un (by decide) hl0)) (gt_un (by decide) (gt_un (by decide) hl1)) (gt_un (by decide) (gt_un (by decide) hl2)) (gt_un (by decide) gt_us) gt_us h
set_option maxHeartbeats 4000000 in
theorem gX6_placeOf_42 {X : ga_X} {D : va_G} {cI cZ : ClassId} {K : Nat} {r : Nat} {res : Int} {T : gt_T} {σ : ga_S} {k5 : Int × Int × Int × Int → Option (Int)} (C : ga_C X cX6_placeOf yX6_placeOf wsX6_placeOf [] (gt_rm 1 22) (D, vwCl, cI, cZ) 5) (hRet : ∀ (pc : Nat) (lv : Nat → Option ga_V) (σ' : ga_S) (z : Int), decode cX6_placeOf pc = .ok (.ireturn, 1) → z = res → (σ' = σ) → ga_G X 0 0 K pc lv [.inl z] σ') (hr0 : r ≠ 0) (hk5 : ∀ (a : Int × Int × Int × Int) (lv : Nat → Option ga_V), gt_O SX6 6 r T σ → lv 0 = some (.inr r) → lv 1 = some (.inl a.1) → lv 2 = some (.inl a.2.1) → lv 3 = some (.inl a.2.2.1) → lv 4 = some (.inl a.2.2.2) → k5 a = some res → ga_G X 0 0 K 5 lv [] σ) {l1 l2 l3 l4 : Int} {lv : Nat → Option ga_V} (hW : gt_O SX6 6 r T σ) (hl0 : lv 0 = some (.inr r)) (hl1 : lv 1 = some (.inl l1)) (hl2 : lv 2 = some (.inl l2)) (hl3 : lv 3 = some (.inl l3)) (hl4 : lv 4 = some (.inl l4)) (h : fX6_placeOf_42 T k5 l1 l2 l3 l4 = some res) : ga_G X 0 0 K 42 lv [] σ := by
  unfold fX6_placeOf_42 at h
  refine ga_iload_n C dX6_placeOf_42 rfl hl3 ?_
  exact gX6_placeOf_43 C hRet hr0 hk5 hW hl0 hl1 hl2 hl4 h
set_option maxHeartbeats 4000000 in
theorem gX6_placeOf_5 {X : ga_X} {D : va_G} {cI cZ : ClassId} {K : Nat} {r : Nat} {res : Int} {T : gt_T} {σ : ga_S} (C : ga_C X cX6_placeOf yX6_placeOf wsX6_placeOf [] (gt_rm 1 22) (D, vwCl, cI, cZ) 5) (hRet : ∀ (pc : Nat) (lv : Nat → Option ga_V) (σ' : ga_S) (z : Int), decode cX6_placeOf pc = .ok (.ireturn, 1) → z = res → (σ' = σ) → ga_G X 0 0 K pc lv [.inl z] σ') (hr0 : r ≠ 0) : ∀ (n : Nat) (a : Int × Int × Int × Int) (lv : Nat → Option ga_V), gt_O SX6 6 r T σ → lv 0 = some (.inr r) → lv 1 = some (.inl a.1) → lv 2 = some (.inl a.2.1) → lv 3 = some (.inl a.2.2.1) → lv 4 = some (.inl a.2.2.2) → gt_loop (fX6_placeOf_5 T) n a = some res → ga_G X 0 0 K 5 lv [] σ := by
  intro n
  induction n with
  | zero =>
    intro a lv _ _ _ _ _ _ h
    exact absurd (show (none : Option _) = some _ from h) (fun q => by cases q)
  | succ n hk5 =>
    intro a lv hW hl0 hl1 hl2 hl3 hl4 h
    have h : fX6_placeOf_5 T (gt_loop (fX6_placeOf_5 T) n) a = some res := h
    revert hk5 h
    generalize gt_loop (fX6_placeOf_5 T) n = k5
    intro hk5 h
    unfold fX6_placeOf_5 at h
    obtain ⟨hg, h⟩ := gt_gd h
    have g12_0 := hg
    refine ga_iload C dX6_placeOf_5 hl4 ?_
    refine ga_iconst C dX6_placeOf_7 ⟨by decide, by decide⟩ ?_
    refine ga_aload_n C dX6_placeOf_8 rfl hl0 hr0 ?_
    refine gt_geti C (iX6_placeOf_X6) hW 5 rfl rfl (by decide) kX6_placeOf_57 dX6_placeOf_9 ?_
    refine ga_imul C dX6_placeOf_12 g12_0 ?_
    refine ga_icmp_ge (tgt := 50) C dX6_placeOf_13 (by decide) (fun c1 => ?_) (fun c1 => ?_)
    · have h := gt_ip h c1
      refine ga_iload_n C dX6_placeOf_50 rfl hl3 ?_
      cases h
      exact hRet _ _ _ _ dX6_placeOf_51 rfl rfl
    · have h := gt_in h c1
      obtain ⟨hg, h⟩ := gt_gd h
      have g22_0 := hg
      refine ga_aload_n C dX6_placeOf_16 rfl hl0 hr0 ?_
      refine gt_geta C (iX6_placeOf_X6) hW 10 rfl rfl (by decide) kX6_placeOf_23 dX6_placeOf_17 ?_
      refine ga_iload C dX6_placeOf_20 hl4 ?_
      refine gt_iald C hW 10 rfl g22_0.1 g22_0.2 dX6_placeOf_22 ?_
      refine ga_iload_n C dX6_placeOf_23 rfl hl1 ?_
      refine ga_icmp_ne (tgt := 42) C dX6_placeOf_24 (by decide) (fun c1 => ?_) (fun c1 => ?_)
      · have h := gt_in h c1
        exact gX6_placeOf_42 C hRet hr0 hk5 hW hl0 hl1 hl2 hl3 hl4 h
      · have h := gt_ip h c1
        refine ga_aload_n C dX6_placeOf_27 rfl hl0 hr0 ?_
        refine ga_iload C dX6_placeOf_28 hl4 ?_
        obtain ⟨q30, hq, h⟩ := Option.bind_eq_some_iff.mp h
        refine gt_cVi (n := 1) (st := []) C (eX6_isOut X.2.1 D cI cZ K hr0 hW hq) gX6_placeOf_X6_isOut rfl (by decide +kernel) rfl ⟨Nat.le_of_ble_eq_true rfl, Nat.le_of_ble_eq_true rfl⟩ hW.1 rfl rfl (Nat.le_of_ble_eq_true rfl) rfl dX6_placeOf_30 (fun σ' hp => ?_)
        subst hp
        refine ga_iload_n C dX6_placeOf_33 rfl hl2 ?_
        refine ga_icmp_ne (tgt := 42) C dX6_placeOf_34 (by decide) (fun c1 => ?_) (fun c1 => ?_)
        · have h := gt_in h c1
          exact gX6_placeOf_42 C hRet hr0 hk5 hW hl0 hl1 hl2 hl3 hl4 h
        · have h := gt_ip h c1
          refine ga_iload C dX6_placeOf_37 hl4 ?_
          refine ga_goto (tgt := 43) C dX6_placeOf_39 (by decide) ?_
          exact gX6_placeOf_43 C hRet hr0 hk5 hW hl0 hl1 hl2 hl4 h
set_option maxHeartbeats 4000000 in
theorem gX6_placeOf_0 {X : ga_X} {D : va_G} {cI cZ : ClassId} {K : Nat} {r : Nat} {res : Int} {T : gt_T} {σ : ga_S} (C : ga_C X cX6_placeOf yX6_placeOf wsX6_placeOf [] (gt_rm 1 22) (D, vwCl, cI, cZ) 5) (hRet : ∀ (pc : Nat) (lv : Nat → Option ga_V) (σ' : ga_S) (z : Int), decode cX6_placeOf pc = .ok (.ireturn, 1) → z = res → (σ' = σ) → ga_G X 0 0 K pc lv [.inl z] σ') (hr0 : r ≠ 0) {l1 l2 : Int} {lv : Nat → Option ga_V} (hW : gt_O SX6 6 r T σ) (hl0 : lv 0 = some (.inr r)) (hl1 : lv 1 = some (.inl l1)) (hl2 : lv 2 = some (.inl l2)) (h : fX6_placeOf T l1 l2 = some res) : ga_G X 0 0 K 0 lv [] σ := by
  unfold fX6_placeOf at h
  refine ga_iconst C dX6_placeOf_0 ⟨by decide, by decide⟩ ?_
  refine ga_istore_n C dX6_placeOf_1 rfl (by decide) ?_
  refine ga_iconst C dX6_placeOf_2 ⟨by decide, by decide⟩ ?_
  refine ga_istore C dX6_placeOf_3 (by decide) ?_
  exact gX6_placeOf_5 C hRet hr0 gt_fuel (l1, l2, (-1 : Int), (0 : Int)) _ hW (gt_un (by decide) (gt_un (by decide) hl0)) (gt_un (by decide) (gt_un (by decide) hl1)) (gt_un (by decide) (gt_un (by decide) hl2)) (gt_un (by decide) gt_us) gt_us h
set_option maxHeartbeats 4000000 in
theorem eX6_placeOf (l : Launch) (D : va_G) (cI cZ : ClassId) (K : Nat) {r : Nat} (hr0 : r ≠ 0) {σ : ga_S} {T : gt_T} (hW : gt_O SX6 6 r T σ) {l1 l2 : Int} {res : Int} (h : fX6_placeOf T l1 l2 = some res) : ga_Ev l (D, vwCl, cI, cZ) yX6_placeOf wsX6_placeOf (gt_rm 1 22) [] 0 0 K [.inr r, .inl l1, .inl l2] σ (fun σ' rv => (σ' = σ) ∧ rv = some (.inl res)) := by
  refine ga_ofI (by decide +kernel) rfl gt_hcl (Nat.le_of_ble_eq_true rfl) (fun X hX C hret => ?_)
  exact gX6_placeOf_0 C (fun pc lv σ' z d hz hp => hret pc lv σ' z d ⟨hp, by rw [hz]⟩) hr0 hW rfl rfl rfl h
-- X6_across: across(I)I
def fX6_across (l0 : Int) : Option (Int) :=
  (if (-2147483648 ≤ (Int.tdiv l0 (4 : Int)) * (4 : Int) ∧ (Int.tdiv l0 (4 : Int)) * (4 : Int) < 2147483648) ∧ (-2147483648 ≤ l0 + (2 : Int) ∧ l0 + (2 : Int) < 2147483648) ∧ 0 ≤ (l0 + (2 : Int)) ∧ (-2147483648 ≤ ((Int.tdiv l0 (4 : Int)) * (4 : Int)) + ((l0 + (2 : Int)) % (4 : Int)) ∧ ((Int.tdiv l0 (4 : Int)) * (4 : Int)) + ((l0 + (2 : Int)) % (4 : Int)) < 2147483648) then some (((Int.tdiv l0 (4 : Int)) * (4 : Int)) + ((l0 + (2 : Int)) % (4 : Int))) else none)
set_option maxHeartbeats 4000000 in
theorem gX6_across_0 {X : ga_X} {D : va_G} {cI cZ : ClassId} {K : Nat} {res : Int} {σ : ga_S} (C : ga_C X cX6_across yX6_across wsX6_across [] (gt_rm 0 0) (D, vwCl, cI, cZ) 1) (hRet : ∀ (pc : Nat) (lv : Nat → Option ga_V) (σ' : ga_S) (z : Int), decode cX6_across pc = .ok (.ireturn, 1) → z = res → σ' = σ → ga_G X 0 0 K pc lv [.inl z] σ') {l0 : Int} {lv : Nat → Option ga_V} (hl0 : lv 0 = some (.inl l0)) (h : fX6_across l0 = some res) : ga_G X 0 0 K 0 lv [] σ := by
  unfold fX6_across at h
  obtain ⟨hg, h⟩ := gt_gd h
  obtain ⟨g4_0, g7_1, g9_2, g10_3⟩ := hg
  refine ga_iload_n C dX6_across_0 rfl hl0 ?_
  refine ga_iconst C dX6_across_1 ⟨by decide, by decide⟩ ?_
  refine ga_idiv C dX6_across_2 (by decide) ?_
  refine ga_iconst C dX6_across_3 ⟨by decide, by decide⟩ ?_
  refine ga_imul C dX6_across_4 g4_0 ?_
  refine ga_iload_n C dX6_across_5 rfl hl0 ?_
  refine ga_iconst C dX6_across_6 ⟨by decide, by decide⟩ ?_
  refine ga_iadd C dX6_across_7 g7_1 ?_
  refine ga_iconst C dX6_across_8 ⟨by decide, by decide⟩ ?_
  refine ga_irem C dX6_across_9 (by decide) g9_2 ?_
  refine ga_iadd C dX6_across_10 g10_3 ?_
  cases h
  exact hRet _ _ _ _ dX6_across_11 rfl rfl
set_option maxHeartbeats 4000000 in
theorem eX6_across (l : Launch) (D : va_G) (cI cZ : ClassId) (K : Nat) {σ : ga_S} {l0 : Int} {res : Int} (h : fX6_across l0 = some res) : ga_Ev l (D, vwCl, cI, cZ) yX6_across wsX6_across (gt_rm 0 0) [] 0 0 K [.inl l0] σ (fun σ' rv => (σ' = σ) ∧ rv = some (.inl res)) := by
  refine ga_ofI (by decide +kernel) rfl gt_hcl (Nat.le_of_ble_eq_true rfl) (fun X hX C hret => ?_)
  exact gX6_across_0 C (fun pc lv σ' z d hz hp => hret pc lv σ' z d ⟨hp, by rw [hz]⟩) rfl h
-- X6_next: next(I)I
def fX6_next (T : gt_T) (l1 : Int) : Option (Int) :=
  (fX6_placeOf T l1 (0 : Int)).bind (fun (q7 : Int) => (fX6_across q7).bind (fun (q10 : Int) => (if (0 ≤ q10 ∧ q10 < 80) then some (T.2 10 q10.toNat) else none)))
theorem iX6_next_X6 : ∀ w ∈ u_ws RX6 TX6 23, w ∈ wsX6_next := by decide +kernel
theorem kX6_next_23 : Cond.fieldLink yX6_next.cls 23 (TX6 10).1 (TX6 10).2.1 (TX6 10).2.2.1 ∈ wsX6_next := by decide +kernel
set_option maxHeartbeats 4000000 in
theorem gX6_next_0 {X : ga_X} {D : va_G} {cI cZ : ClassId} {K : Nat} {r : Nat} {res : Int} {T : gt_T} {σ : ga_S} (C : ga_C X cX6_next yX6_next wsX6_next [] (gt_rm 2 46) (D, vwCl, cI, cZ) 2) (hRet : ∀ (pc : Nat) (lv : Nat → Option ga_V) (σ' : ga_S) (z : Int), decode cX6_next pc = .ok (.ireturn, 1) → z = res → (σ' = σ) → ga_G X 0 0 K pc lv [.inl z] σ') (hr0 : r ≠ 0) {l1 : Int} {lv : Nat → Option ga_V} (hW : gt_O SX6 6 r T σ) (hl0 : lv 0 = some (.inr r)) (hl1 : lv 1 = some (.inl l1)) (h : fX6_next T l1 = some res) : ga_G X 0 0 K 0 lv [] σ := by
  unfold fX6_next at h
  refine ga_aload_n C dX6_next_0 rfl hl0 hr0 ?_
  refine gt_geta C (iX6_next_X6) hW 10 rfl rfl (by decide) kX6_next_23 dX6_next_1 ?_
  refine ga_aload_n C dX6_next_4 rfl hl0 hr0 ?_
  refine ga_iload_n C dX6_next_5 rfl hl1 ?_
  refine ga_iconst C dX6_next_6 ⟨by decide, by decide⟩ ?_
  obtain ⟨q7, hq, h⟩ := Option.bind_eq_some_iff.mp h
  refine gt_cVi (n := 2) (st := [.inr (r + 4)]) C (eX6_placeOf X.2.1 D cI cZ K hr0 hW hq) gX6_next_X6_placeOf rfl (by decide +kernel) rfl ⟨Nat.le_of_ble_eq_true rfl, Nat.le_of_ble_eq_true rfl⟩ hW.1 rfl rfl (Nat.le_of_ble_eq_true rfl) rfl dX6_next_7 (fun σ' hp => ?_)
  subst hp
  obtain ⟨q10, hq, h⟩ := Option.bind_eq_some_iff.mp h
  refine gt_cSi (n := 1) (st := [.inr (r + 4)]) C (eX6_across X.2.1 D cI cZ K hq) gX6_next_X6_across rfl (by decide +kernel) rfl ⟨Nat.le_of_ble_eq_true rfl, Nat.le_of_ble_eq_true rfl⟩ (Nat.le_of_ble_eq_true rfl) rfl dX6_next_10 (fun σ' hp => ?_)
  subst hp
  obtain ⟨hg, h⟩ := gt_gd h
  have g13_0 := hg
  refine gt_iald C hW 10 rfl g13_0.1 g13_0.2 dX6_next_13 ?_
  cases h
  exact hRet _ _ _ _ dX6_next_14 rfl rfl
set_option maxHeartbeats 4000000 in
theorem eX6_next (l : Launch) (D : va_G) (cI cZ : ClassId) (K : Nat) {r : Nat} (hr0 : r ≠ 0) {σ : ga_S} {T : gt_T} (hW : gt_O SX6 6 r T σ) {l1 : Int} {res : Int} (h : fX6_next T l1 = some res) : ga_Ev l (D, vwCl, cI, cZ) yX6_next wsX6_next (gt_rm 2 46) [] 0 0 K [.inr r, .inl l1] σ (fun σ' rv => (σ' = σ) ∧ rv = some (.inl res)) := by
  refine ga_ofI (by decide +kernel) rfl gt_hcl (Nat.le_of_ble_eq_true rfl) (fun X hX C hret => ?_)
  exact gX6_next_0 C (fun pc lv σ' z d hz hp => hret pc lv σ' z d ⟨hp, by rw [hz]⟩) hr0 hW rfl rfl h
-- X6_upperIn: upperIn(I)I
def fX6_upperIn_14 (T : gt_T) (s0 : Int) : Option (Int) :=
  some s0
def fX6_upperIn (T : gt_T) (l1 : Int) : Option (Int) :=
  (if (0 ≤ l1 ∧ l1 < 20) then (if (T.2 9 l1.toNat) ≤ 0 then fX6_upperIn_14 T (1 : Int) else fX6_upperIn_14 T (3 : Int)) else none)
theorem iX6_upperIn_X6 : ∀ w ∈ u_ws RX6 TX6 23, w ∈ wsX6_upperIn := by decide +kernel
theorem kX6_upperIn_20 : Cond.fieldLink yX6_upperIn.cls 20 (TX6 9).1 (TX6 9).2.1 (TX6 9).2.2.1 ∈ wsX6_upperIn := by decide +kernel
set_option maxHeartbeats 4000000 in
theorem gX6_upperIn_14 {X : ga_X} {D : va_G} {cI cZ : ClassId} {K : Nat} {r : Nat} {res : Int} {T : gt_T} {σ : ga_S} (C : ga_C X cX6_upperIn yX6_upperIn wsX6_upperIn [] (gt_rm 0 0) (D, vwCl, cI, cZ) 2) (hRet : ∀ (pc : Nat) (lv : Nat → Option ga_V) (σ' : ga_S) (z : Int), decode cX6_upperIn pc = .ok (.ireturn, 1) → z = res → (σ' = σ) → ga_G X 0 0 K pc lv [.inl z] σ') (hr0 : r ≠ 0) {s0 : Int} {lv : Nat → Option ga_V} (hW : gt_O SX6 6 r T σ) (h : fX6_upperIn_14 T s0 = some res) : ga_G X 0 0 K 14 lv [.inl s0] σ := by
  unfold fX6_upperIn_14 at h
  cases h
  exact hRet _ _ _ _ dX6_upperIn_14 rfl rfl
set_option maxHeartbeats 4000000 in
theorem gX6_upperIn_0 {X : ga_X} {D : va_G} {cI cZ : ClassId} {K : Nat} {r : Nat} {res : Int} {T : gt_T} {σ : ga_S} (C : ga_C X cX6_upperIn yX6_upperIn wsX6_upperIn [] (gt_rm 0 0) (D, vwCl, cI, cZ) 2) (hRet : ∀ (pc : Nat) (lv : Nat → Option ga_V) (σ' : ga_S) (z : Int), decode cX6_upperIn pc = .ok (.ireturn, 1) → z = res → (σ' = σ) → ga_G X 0 0 K pc lv [.inl z] σ') (hr0 : r ≠ 0) {l1 : Int} {lv : Nat → Option ga_V} (hW : gt_O SX6 6 r T σ) (hl0 : lv 0 = some (.inr r)) (hl1 : lv 1 = some (.inl l1)) (h : fX6_upperIn T l1 = some res) : ga_G X 0 0 K 0 lv [] σ := by
  unfold fX6_upperIn at h
  obtain ⟨hg, h⟩ := gt_gd h
  have g5_0 := hg
  refine ga_aload_n C dX6_upperIn_0 rfl hl0 hr0 ?_
  refine gt_geta C (iX6_upperIn_X6) hW 9 rfl rfl (by decide) kX6_upperIn_20 dX6_upperIn_1 ?_
  refine ga_iload_n C dX6_upperIn_4 rfl hl1 ?_
  refine gt_iald C hW 9 rfl g5_0.1 g5_0.2 dX6_upperIn_5 ?_
  refine ga_if_le (tgt := 13) C dX6_upperIn_6 (by decide) (fun c1 => ?_) (fun c1 => ?_)
  · have h := gt_ip h c1
    refine ga_iconst C dX6_upperIn_13 ⟨by decide, by decide⟩ ?_
    exact gX6_upperIn_14 C hRet hr0 hW h
  · have h := gt_in h c1
    refine ga_iconst C dX6_upperIn_9 ⟨by decide, by decide⟩ ?_
    refine ga_goto (tgt := 14) C dX6_upperIn_10 (by decide) ?_
    exact gX6_upperIn_14 C hRet hr0 hW h
set_option maxHeartbeats 4000000 in
theorem eX6_upperIn (l : Launch) (D : va_G) (cI cZ : ClassId) (K : Nat) {r : Nat} (hr0 : r ≠ 0) {σ : ga_S} {T : gt_T} (hW : gt_O SX6 6 r T σ) {l1 : Int} {res : Int} (h : fX6_upperIn T l1 = some res) : ga_Ev l (D, vwCl, cI, cZ) yX6_upperIn wsX6_upperIn (gt_rm 0 0) [] 0 0 K [.inr r, .inl l1] σ (fun σ' rv => (σ' = σ) ∧ rv = some (.inl res)) := by
  refine ga_ofI (by decide +kernel) rfl gt_hcl (Nat.le_of_ble_eq_true rfl) (fun X hX C hret => ?_)
  exact gX6_upperIn_0 C (fun pc lv σ' z d hz hp => hret pc lv σ' z d ⟨hp, by rw [hz]⟩) hr0 hW rfl rfl h
-- X6_sort: sort()V
def fX6_sort_132 (k7 : gt_T × Int → Option (gt_T)) (T : gt_T) (l1 : Int) : Option (gt_T) :=
  (if (-2147483648 ≤ l1 + (1 : Int) ∧ l1 + (1 : Int) < 2147483648) then k7 (T, l1 + (1 : Int)) else none)
def fX6_sort_110 (k7 : gt_T × Int → Option (gt_T)) (T : gt_T) (l1 l3 : Int) : Option (gt_T) :=
  (if (0 ≤ l1 ∧ l1 < 80) ∧ (0 ≤ l3 ∧ l3 < 80) ∧ (-2147483648 ≤ (T.1 13) + (1 : Int) ∧ (T.1 13) + (1 : Int) < 2147483648) then fX6_sort_132 k7 ((va_up T.1 13 ((T.1 13) + (1 : Int))), (va_up T.2 14 (va_up (T.2 14) l3.toNat (T.2 10 l1.toNat)))) l1 else none)
def fX6_sort_69 (k7 : gt_T × Int → Option (gt_T)) (k69 : gt_T × Int × Int → Option (gt_T)) (a : gt_T × Int × Int) : Option (gt_T) :=
  (if a.2.2 ≤ 0 then fX6_sort_110 k7 a.1 a.2.1 a.2.2 else (if (-2147483648 ≤ a.2.2 - (1 : Int) ∧ a.2.2 - (1 : Int) < 2147483648) ∧ (0 ≤ (a.2.2 - (1 : Int)) ∧ (a.2.2 - (1 : Int)) < 80) ∧ (0 ≤ a.2.1 ∧ a.2.1 < 80) then (if (a.1.2 14 (a.2.2 - (1 : Int)).toNat) ≤ (a.1.2 10 a.2.1.toNat) then fX6_sort_110 k7 a.1 a.2.1 a.2.2 else (if (-2147483648 ≤ a.2.2 - (1 : Int) ∧ a.2.2 - (1 : Int) < 2147483648) ∧ (0 ≤ (a.2.2 - (1 : Int)) ∧ (a.2.2 - (1 : Int)) < 80) ∧ (0 ≤ a.2.2 ∧ a.2.2 < 80) ∧ (-2147483648 ≤ a.2.2 + (-1 : Int) ∧ a.2.2 + (-1 : Int) < 2147483648) then k69 ((a.1.1, (va_up a.1.2 14 (va_up (a.1.2 14) a.2.2.toNat (a.1.2 14 (a.2.2 - (1 : Int)).toNat)))), a.2.1, a.2.2 + (-1 : Int)) else none)) else none))
def fX6_sort_53 (k7 : gt_T × Int → Option (gt_T)) (k21 : gt_T × Int × Int × Int → Option (gt_T)) (T : gt_T) (l1 l3 s0 : Int) : Option (gt_T) :=
  (if (-2147483648 ≤ l3 + (1 : Int) ∧ l3 + (1 : Int) < 2147483648) then k21 (T, l1, s0, l3 + (1 : Int)) else none)
def fX6_sort_48 (k7 : gt_T × Int → Option (gt_T)) (k21 : gt_T × Int × Int × Int → Option (gt_T)) (T : gt_T) (l1 l3 : Int) : Option (gt_T) :=
  fX6_sort_53 k7 k21 T l1 l3 (1 : Int)
def fX6_sort_21 (k7 : gt_T × Int → Option (gt_T)) (k21 : gt_T × Int × Int × Int → Option (gt_T)) (a : gt_T × Int × Int × Int) : Option (gt_T) :=
  (if (a.1.1 13) ≤ a.2.2.2 then (if a.2.2.1 = 0 then gt_loop (fX6_sort_69 k7) gt_fuel (a.1, a.2.1, a.1.1 13) else fX6_sort_132 k7 a.1 a.2.1) else (if a.2.2.1 = 0 then (if (0 ≤ a.2.2.2 ∧ a.2.2.2 < 80) ∧ (0 ≤ a.2.1 ∧ a.2.1 < 80) then (if (a.1.2 14 a.2.2.2.toNat) = (a.1.2 10 a.2.1.toNat) then fX6_sort_48 k7 k21 a.1 a.2.1 a.2.2.2 else fX6_sort_53 k7 k21 a.1 a.2.1 a.2.2.2 (0 : Int)) else none) else fX6_sort_48 k7 k21 a.1 a.2.1 a.2.2.2))
def fX6_sort_7 (k7 : gt_T × Int → Option (gt_T)) (a : gt_T × Int) : Option (gt_T) :=
  (if (-2147483648 ≤ (4 : Int) * (a.1.1 5) ∧ (4 : Int) * (a.1.1 5) < 2147483648) then (if ((4 : Int) * (a.1.1 5)) ≤ a.2 then some a.1 else gt_loop (fX6_sort_21 k7) gt_fuel (a.1, a.2, (0 : Int), (0 : Int))) else none)
def fX6_sort (T : gt_T) : Option (gt_T) :=
  gt_loop (fX6_sort_7) gt_fuel (((va_up T.1 13 (0 : Int)), T.2), (0 : Int))
theorem iX6_sort_X6 : ∀ w ∈ u_ws RX6 TX6 23, w ∈ wsX6_sort := by decide +kernel
theorem kX6_sort_23 : Cond.fieldLink yX6_sort.cls 23 (TX6 10).1 (TX6 10).2.1 (TX6 10).2.2.1 ∈ wsX6_sort := by decide +kernel
theorem kX6_sort_32 : Cond.fieldLink yX6_sort.cls 32 (TX6 14).1 (TX6 14).2.1 (TX6 14).2.2.1 ∈ wsX6_sort := by decide +kernel
theorem kX6_sort_57 : Cond.fieldLink yX6_sort.cls 57 (TX6 5).1 (TX6 5).2.1 (TX6 5).2.2.1 ∈ wsX6_sort := by decide +kernel
theorem kX6_sort_72 : Cond.fieldLink yX6_sort.cls 72 (TX6 13).1 (TX6 13).2.1 (TX6 13).2.2.1 ∈ wsX6_sort := by decide +kernel
set_option maxHeartbeats 4000000 in
theorem gX6_sort_132 {X : ga_X} {D : va_G} {cI cZ : ClassId} {K : Nat} {r : Nat} {σ0 : ga_S} {res : gt_T} {k7 : gt_T × Int → Option (gt_T)} (C : ga_C X cX6_sort yX6_sort wsX6_sort [] (gt_rm 0 0) (D, vwCl, cI, cZ) 4) (hRet : ∀ (pc : Nat) (lv : Nat → Option ga_V) (σ' : ga_S), decode cX6_sort pc = .ok (.return_, 1) → (gt_O SX6 6 r res σ' ∧ gt_F r (r + 14) σ0 σ') → ga_G X 0 0 K pc lv [] σ') (hr0 : r ≠ 0) (hk7 : ∀ (a : gt_T × Int) (σ : ga_S) (lv : Nat → Option ga_V), gt_O SX6 6 r a.1 σ → gt_F r (r + 14) σ0 σ → lv 0 = some (.inr r) → lv 1 = some (.inl a.2) → k7 a = some res → ga_G X 0 0 K 7 lv [] σ) {T : gt_T} {σ : ga_S} {l1 : Int} {lv : Nat → Option ga_V} (hW : gt_O SX6 6 r T σ) (hF : gt_F r (r + 14) σ0 σ) (hl0 : lv 0 = some (.inr r)) (hl1 : lv 1 = some (.inl l1)) (h : fX6_sort_132 k7 T l1 = some res) : ga_G X 0 0 K 132 lv [] σ := by
  unfold fX6_sort_132 at h
  obtain ⟨hg, h⟩ := gt_gd h
  have g132_0 := hg
  refine ga_iinc C dX6_sort_132 hl1 g132_0 ?_
  refine ga_goto (tgt := 7) C dX6_sort_135 (by decide) ?_
  exact hk7 (T, l1 + (1 : Int)) _ _ hW hF (gt_un (by decide) hl0) gt_us h
set_option maxHeartbeats 4000000 in
theorem gX6_sort_110 {X : ga_X} {D : va_G} {cI cZ : ClassId} {K : Nat} {r : Nat} {σ0 : ga_S} {res : gt_T} {k7 : gt_T × Int → Option (gt_T)} (C : ga_C X cX6_sort yX6_sort wsX6_sort [] (gt_rm 0 0) (D, vwCl, cI, cZ) 4) (hRet : ∀ (pc : Nat) (lv : Nat → Option ga_V) (σ' : ga_S), decode cX6_sort pc = .ok (.return_, 1) → (gt_O SX6 6 r res σ' ∧ gt_F r (r + 14) σ0 σ') → ga_G X 0 0 K pc lv [] σ') (hr0 : r ≠ 0) (hk7 : ∀ (a : gt_T × Int) (σ : ga_S) (lv : Nat → Option ga_V), gt_O SX6 6 r a.1 σ → gt_F r (r + 14) σ0 σ → lv 0 = some (.inr r) → lv 1 = some (.inl a.2) → k7 a = some res → ga_G X 0 0 K 7 lv [] σ) {T : gt_T} {σ : ga_S} {l1 l3 : Int} {lv : Nat → Option ga_V} (hW : gt_O SX6 6 r T σ) (hF : gt_F r (r + 14) σ0 σ) (hl0 : lv 0 = some (.inr r)) (hl1 : lv 1 = some (.inl l1)) (hl3 : lv 3 = some (.inl l3)) (h : fX6_sort_110 k7 T l1 l3 = some res) : ga_G X 0 0 K 110 lv [] σ := by
  unfold fX6_sort_110 at h
  obtain ⟨hg, h⟩ := gt_gd h
  obtain ⟨g120_0, g121_1, g128_2⟩ := hg
  refine ga_aload_n C dX6_sort_110 rfl hl0 hr0 ?_
  refine gt_geta C (iX6_sort_X6) hW 14 rfl rfl (by decide) kX6_sort_32 dX6_sort_111 ?_
  refine ga_iload_n C dX6_sort_114 rfl hl3 ?_
  refine ga_aload_n C dX6_sort_115 rfl hl0 hr0 ?_
  refine gt_geta C (iX6_sort_X6) hW 10 rfl rfl (by decide) kX6_sort_23 dX6_sort_116 ?_
  refine ga_iload_n C dX6_sort_119 rfl hl1 ?_
  refine gt_iald C hW 10 rfl g120_0.1 g120_0.2 dX6_sort_120 ?_
  refine gt_iast C okX6 hW hF ⟨Nat.le_refl _, Nat.le_refl _⟩ 14 rfl g121_1.1 g121_1.2 dX6_sort_121 (fun σ hW hF hf => ?_)
  refine ga_aload_n C dX6_sort_122 rfl hl0 hr0 ?_
  refine ga_dup C dX6_sort_123 ?_
  refine gt_geti C (iX6_sort_X6) hW 13 rfl rfl (by decide) kX6_sort_72 dX6_sort_124 ?_
  refine ga_iconst C dX6_sort_127 ⟨by decide, by decide⟩ ?_
  refine ga_iadd C dX6_sort_128 g128_2 ?_
  refine gt_puti C okX6 (by decide) (iX6_sort_X6) tyX6 tyX6_ok nmX6 hW hF ⟨Nat.le_refl _, Nat.le_refl _⟩ 13 rfl rfl (by decide) kX6_sort_72 rfl (by decide +kernel) dX6_sort_129 (fun σ hW hF hf => ?_)
  exact gX6_sort_132 C hRet hr0 hk7 hW hF hl0 hl1 h
set_option maxHeartbeats 4000000 in
theorem gX6_sort_69 {X : ga_X} {D : va_G} {cI cZ : ClassId} {K : Nat} {r : Nat} {σ0 : ga_S} {res : gt_T} {k7 : gt_T × Int → Option (gt_T)} (C : ga_C X cX6_sort yX6_sort wsX6_sort [] (gt_rm 0 0) (D, vwCl, cI, cZ) 4) (hRet : ∀ (pc : Nat) (lv : Nat → Option ga_V) (σ' : ga_S), decode cX6_sort pc = .ok (.return_, 1) → (gt_O SX6 6 r res σ' ∧ gt_F r (r + 14) σ0 σ') → ga_G X 0 0 K pc lv [] σ') (hr0 : r ≠ 0) (hk7 : ∀ (a : gt_T × Int) (σ : ga_S) (lv : Nat → Option ga_V), gt_O SX6 6 r a.1 σ → gt_F r (r + 14) σ0 σ → lv 0 = some (.inr r) → lv 1 = some (.inl a.2) → k7 a = some res → ga_G X 0 0 K 7 lv [] σ) : ∀ (n : Nat) (a : gt_T × Int × Int) (σ : ga_S) (lv : Nat → Option ga_V), gt_O SX6 6 r a.1 σ → gt_F r (r + 14) σ0 σ → lv 0 = some (.inr r) → lv 1 = some (.inl a.2.1) → lv 3 = some (.inl a.2.2) → gt_loop (fX6_sort_69 k7) n a = some res → ga_G X 0 0 K 69 lv [] σ := by
  intro n
  induction n with
  | zero =>
    intro a _ lv _ _ _ _ _ h
    exact absurd (show (none : Option _) = some _ from h) (fun q => by cases q)
  | succ n hk69 =>
    intro a σ lv hW hF hl0 hl1 hl3 h
    have h : fX6_sort_69 k7 (gt_loop (fX6_sort_69 k7) n) a = some res := h
    revert hk69 h
    generalize gt_loop (fX6_sort_69 k7) n = k69
    intro hk69 h
    unfold fX6_sort_69 at h
    refine ga_iload_n C dX6_sort_69 rfl hl3 ?_
    refine ga_if_le (tgt := 110) C dX6_sort_70 (by decide) (fun c1 => ?_) (fun c1 => ?_)
    · have h := gt_ip h c1
      exact gX6_sort_110 C hRet hr0 hk7 hW hF hl0 hl1 hl3 h
    · have h := gt_in h c1
      obtain ⟨hg, h⟩ := gt_gd h
      obtain ⟨g79_0, g80_1, g86_2⟩ := hg
      refine ga_aload_n C dX6_sort_73 rfl hl0 hr0 ?_
      refine gt_geta C (iX6_sort_X6) hW 14 rfl rfl (by decide) kX6_sort_32 dX6_sort_74 ?_
      refine ga_iload_n C dX6_sort_77 rfl hl3 ?_
      refine ga_iconst C dX6_sort_78 ⟨by decide, by decide⟩ ?_
      refine ga_isub C dX6_sort_79 g79_0 ?_
      refine gt_iald C hW 14 rfl g80_1.1 g80_1.2 dX6_sort_80 ?_
      refine ga_aload_n C dX6_sort_81 rfl hl0 hr0 ?_
      refine gt_geta C (iX6_sort_X6) hW 10 rfl rfl (by decide) kX6_sort_23 dX6_sort_82 ?_
      refine ga_iload_n C dX6_sort_85 rfl hl1 ?_
      refine gt_iald C hW 10 rfl g86_2.1 g86_2.2 dX6_sort_86 ?_
      refine ga_icmp_le (tgt := 110) C dX6_sort_87 (by decide) (fun c1 => ?_) (fun c1 => ?_)
      · have h := gt_ip h c1
        exact gX6_sort_110 C hRet hr0 hk7 hW hF hl0 hl1 hl3 h
      · have h := gt_in h c1
        obtain ⟨hg, h⟩ := gt_gd h
        obtain ⟨g101_0, g102_1, g103_2, g104_3⟩ := hg
        refine ga_aload_n C dX6_sort_90 rfl hl0 hr0 ?_
        refine gt_geta C (iX6_sort_X6) hW 14 rfl rfl (by decide) kX6_sort_32 dX6_sort_91 ?_
        refine ga_iload_n C dX6_sort_94 rfl hl3 ?_
        refine ga_aload_n C dX6_sort_95 rfl hl0 hr0 ?_
        refine gt_geta C (iX6_sort_X6) hW 14 rfl rfl (by decide) kX6_sort_32 dX6_sort_96 ?_
        refine ga_iload_n C dX6_sort_99 rfl hl3 ?_
        refine ga_iconst C dX6_sort_100 ⟨by decide, by decide⟩ ?_
        refine ga_isub C dX6_sort_101 g101_0 ?_
        refine gt_iald C hW 14 rfl g102_1.1 g102_1.2 dX6_sort_102 ?_
        refine gt_iast C okX6 hW hF ⟨Nat.le_refl _, Nat.le_refl _⟩ 14 rfl g103_2.1 g103_2.2 dX6_sort_103 (fun σ hW hF hf => ?_)
        refine ga_iinc C dX6_sort_104 hl3 g104_3 ?_
        refine ga_goto (tgt := 69) C dX6_sort_107 (by decide) ?_
        exact hk69 ((a.1.1, (va_up a.1.2 14 (va_up (a.1.2 14) a.2.2.toNat (a.1.2 14 (a.2.2 - (1 : Int)).toNat)))), a.2.1, a.2.2 + (-1 : Int)) _ _ hW hF (gt_un (by decide) hl0) (gt_un (by decide) hl1) gt_us h
set_option maxHeartbeats 4000000 in
theorem gX6_sort_53 {X : ga_X} {D : va_G} {cI cZ : ClassId} {K : Nat} {r : Nat} {σ0 : ga_S} {res : gt_T} {k7 : gt_T × Int → Option (gt_T)} {k21 : gt_T × Int × Int × Int → Option (gt_T)} (C : ga_C X cX6_sort yX6_sort wsX6_sort [] (gt_rm 0 0) (D, vwCl, cI, cZ) 4) (hRet : ∀ (pc : Nat) (lv : Nat → Option ga_V) (σ' : ga_S), decode cX6_sort pc = .ok (.return_, 1) → (gt_O SX6 6 r res σ' ∧ gt_F r (r + 14) σ0 σ') → ga_G X 0 0 K pc lv [] σ') (hr0 : r ≠ 0) (hk7 : ∀ (a : gt_T × Int) (σ : ga_S) (lv : Nat → Option ga_V), gt_O SX6 6 r a.1 σ → gt_F r (r + 14) σ0 σ → lv 0 = some (.inr r) → lv 1 = some (.inl a.2) → k7 a = some res → ga_G X 0 0 K 7 lv [] σ) (hk21 : ∀ (a : gt_T × Int × Int × Int) (σ : ga_S) (lv : Nat → Option ga_V), gt_O SX6 6 r a.1 σ → gt_F r (r + 14) σ0 σ → lv 0 = some (.inr r) → lv 1 = some (.inl a.2.1) → lv 2 = some (.inl a.2.2.1) → lv 3 = some (.inl a.2.2.2) → k21 a = some res → ga_G X 0 0 K 21 lv [] σ) {T : gt_T} {σ : ga_S} {l1 l3 s0 : Int} {lv : Nat → Option ga_V} (hW : gt_O SX6 6 r T σ) (hF : gt_F r (r + 14) σ0 σ) (hl0 : lv 0 = some (.inr r)) (hl1 : lv 1 = some (.inl l1)) (hl3 : lv 3 = some (.inl l3)) (h : fX6_sort_53 k7 k21 T l1 l3 s0 = some res) : ga_G X 0 0 K 53 lv [.inl s0] σ := by
  unfold fX6_sort_53 at h
  obtain ⟨hg, h⟩ := gt_gd h
  have g54_0 := hg
  refine ga_istore_n C dX6_sort_53 rfl (by decide) ?_
  refine ga_iinc C dX6_sort_54 (gt_un (by decide) hl3) g54_0 ?_
  refine ga_goto (tgt := 21) C dX6_sort_57 (by decide) ?_
  exact hk21 (T, l1, s0, l3 + (1 : Int)) _ _ hW hF (gt_un (by decide) (gt_un (by decide) hl0)) (gt_un (by decide) (gt_un (by decide) hl1)) (gt_un (by decide) gt_us) gt_us h
set_option maxHeartbeats 4000000 in
theorem gX6_sort_48 {X : ga_X} {D : va_G} {cI cZ : ClassId} {K : Nat} {r : Nat} {σ0 : ga_S} {res : gt_T} {k7 : gt_T × Int → Option (gt_T)} {k21 : gt_T × Int × Int × Int → Option (gt_T)} (C : ga_C X cX6_sort yX6_sort wsX6_sort [] (gt_rm 0 0) (D, vwCl, cI, cZ) 4) (hRet : ∀ (pc : Nat) (lv : Nat → Option ga_V) (σ' : ga_S), decode cX6_sort pc = .ok (.return_, 1) → (gt_O SX6 6 r res σ' ∧ gt_F r (r + 14) σ0 σ') → ga_G X 0 0 K pc lv [] σ') (hr0 : r ≠ 0) (hk7 : ∀ (a : gt_T × Int) (σ : ga_S) (lv : Nat → Option ga_V), gt_O SX6 6 r a.1 σ → gt_F r (r + 14) σ0 σ → lv 0 = some (.inr r) → lv 1 = some (.inl a.2) → k7 a = some res → ga_G X 0 0 K 7 lv [] σ) (hk21 : ∀ (a : gt_T × Int × Int × Int) (σ : ga_S) (lv : Nat → Option ga_V), gt_O SX6 6 r a.1 σ → gt_F r (r + 14) σ0 σ → lv 0 = some (.inr r) → lv 1 = some (.inl a.2.1) → lv 2 = some (.inl a.2.2.1) → lv 3 = some (.inl a.2.2.2) → k21 a = some res → ga_G X 0 0 K 21 lv [] σ) {T : gt_T} {σ : ga_S} {l1 l3 : Int} {lv : Nat → Option ga_V} (hW : gt_O SX6 6 r T σ) (hF : gt_F r (r + 14) σ0 σ) (hl0 : lv 0 = some (.inr r)) (hl1 : lv 1 = some (.inl l1)) (hl3 : lv 3 = some (.inl l3)) (h : fX6_sort_48 k7 k21 T l1 l3 = some res) : ga_G X 0 0 K 48 lv [] σ := by
  unfold fX6_sort_48 at h
  refine ga_iconst C dX6_sort_48 ⟨by decide, by decide⟩ ?_
  refine ga_goto (tgt := 53) C dX6_sort_49 (by decide) ?_
  exact gX6_sort_53 C hRet hr0 hk7 hk21 hW hF hl0 hl1 hl3 h
set_option maxHeartbeats 4000000 in
theorem gX6_sort_21 {X : ga_X} {D : va_G} {cI cZ : ClassId} {K : Nat} {r : Nat} {σ0 : ga_S} {res : gt_T} {k7 : gt_T × Int → Option (gt_T)} (C : ga_C X cX6_sort yX6_sort wsX6_sort [] (gt_rm 0 0) (D, vwCl, cI, cZ) 4) (hRet : ∀ (pc : Nat) (lv : Nat → Option ga_V) (σ' : ga_S), decode cX6_sort pc = .ok (.return_, 1) → (gt_O SX6 6 r res σ' ∧ gt_F r (r + 14) σ0 σ') → ga_G X 0 0 K pc lv [] σ') (hr0 : r ≠ 0) (hk7 : ∀ (a : gt_T × Int) (σ : ga_S) (lv : Nat → Option ga_V), gt_O SX6 6 r a.1 σ → gt_F r (r + 14) σ0 σ → lv 0 = some (.inr r) → lv 1 = some (.inl a.2) → k7 a = some res → ga_G X 0 0 K 7 lv [] σ) : ∀ (n : Nat) (a : gt_T × Int × Int × Int) (σ : ga_S) (lv : Nat → Option ga_V), gt_O SX6 6 r a.1 σ → gt_F r (r + 14) σ0 σ → lv 0 = some (.inr r) → lv 1 = some (.inl a.2.1) → lv 2 = some (.inl a.2.2.1) → lv 3 = some (.inl a.2.2.2) → gt_loop (fX6_sort_21 k7) n a = some res → ga_G X 0 0 K 21 lv [] σ := by
  intro n
  induction n with
  | zero =>
    intro a _ lv _ _ _ _ _ _ h
    exact absurd (show (none : Option _) = some _ from h) (fun q => by cases q)
  | succ n hk21 =>
    intro a σ lv hW hF hl0 hl1 hl2 hl3 h
    have h : fX6_sort_21 k7 (gt_loop (fX6_sort_21 k7) n) a = some res := h
    revert hk21 h
    generalize gt_loop (fX6_sort_21 k7) n = k21
    intro hk21 h
    unfold fX6_sort_21 at h
    refine ga_iload_n C dX6_sort_21 rfl hl3 ?_
    refine ga_aload_n C dX6_sort_22 rfl hl0 hr0 ?_
    refine gt_geti C (iX6_sort_X6) hW 13 rfl rfl (by decide) kX6_sort_72 dX6_sort_23 ?_
    refine ga_icmp_ge (tgt := 60) C dX6_sort_26 (by decide) (fun c1 => ?_) (fun c1 => ?_)
    · have h := gt_ip h c1
      refine ga_iload_n C dX6_sort_60 rfl hl2 ?_
      refine ga_if_ne (tgt := 132) C dX6_sort_61 (by decide) (fun c1 => ?_) (fun c1 => ?_)
      · have h := gt_in h c1
        exact gX6_sort_132 C hRet hr0 hk7 hW hF hl0 hl1 h
      · have h := gt_ip h c1
        refine ga_aload_n C dX6_sort_64 rfl hl0 hr0 ?_
        refine gt_geti C (iX6_sort_X6) hW 13 rfl rfl (by decide) kX6_sort_72 dX6_sort_65 ?_
        refine ga_istore_n C dX6_sort_68 rfl (by decide) ?_
        exact gX6_sort_69 C hRet hr0 hk7 gt_fuel (a.1, a.2.1, a.1.1 13) _ _ hW hF (gt_un (by decide) hl0) (gt_un (by decide) hl1) gt_us h
    · have h := gt_in h c1
      refine ga_iload_n C dX6_sort_29 rfl hl2 ?_
      refine ga_if_ne (tgt := 48) C dX6_sort_30 (by decide) (fun c1 => ?_) (fun c1 => ?_)
      · have h := gt_in h c1
        exact gX6_sort_48 C hRet hr0 hk7 hk21 hW hF hl0 hl1 hl3 h
      · have h := gt_ip h c1
        obtain ⟨hg, h⟩ := gt_gd h
        obtain ⟨g38_0, g44_1⟩ := hg
        refine ga_aload_n C dX6_sort_33 rfl hl0 hr0 ?_
        refine gt_geta C (iX6_sort_X6) hW 14 rfl rfl (by decide) kX6_sort_32 dX6_sort_34 ?_
        refine ga_iload_n C dX6_sort_37 rfl hl3 ?_
        refine gt_iald C hW 14 rfl g38_0.1 g38_0.2 dX6_sort_38 ?_
        refine ga_aload_n C dX6_sort_39 rfl hl0 hr0 ?_
        refine gt_geta C (iX6_sort_X6) hW 10 rfl rfl (by decide) kX6_sort_23 dX6_sort_40 ?_
        refine ga_iload_n C dX6_sort_43 rfl hl1 ?_
        refine gt_iald C hW 10 rfl g44_1.1 g44_1.2 dX6_sort_44 ?_
        refine ga_icmp_ne (tgt := 52) C dX6_sort_45 (by decide) (fun c1 => ?_) (fun c1 => ?_)
        · have h := gt_in h c1
          refine ga_iconst C dX6_sort_52 ⟨by decide, by decide⟩ ?_
          exact gX6_sort_53 C hRet hr0 hk7 hk21 hW hF hl0 hl1 hl3 h
        · have h := gt_ip h c1
          exact gX6_sort_48 C hRet hr0 hk7 hk21 hW hF hl0 hl1 hl3 h
set_option maxHeartbeats 4000000 in
theorem gX6_sort_7 {X : ga_X} {D : va_G} {cI cZ : ClassId} {K : Nat} {r : Nat} {σ0 : ga_S} {res : gt_T} (C : ga_C X cX6_sort yX6_sort wsX6_sort [] (gt_rm 0 0) (D, vwCl, cI, cZ) 4) (hRet : ∀ (pc : Nat) (lv : Nat → Option ga_V) (σ' : ga_S), decode cX6_sort pc = .ok (.return_, 1) → (gt_O SX6 6 r res σ' ∧ gt_F r (r + 14) σ0 σ') → ga_G X 0 0 K pc lv [] σ') (hr0 : r ≠ 0) : ∀ (n : Nat) (a : gt_T × Int) (σ : ga_S) (lv : Nat → Option ga_V), gt_O SX6 6 r a.1 σ → gt_F r (r + 14) σ0 σ → lv 0 = some (.inr r) → lv 1 = some (.inl a.2) → gt_loop (fX6_sort_7) n a = some res → ga_G X 0 0 K 7 lv [] σ := by
  intro n
  induction n with
  | zero =>
    intro a _ lv _ _ _ _ h
    exact absurd (show (none : Option _) = some _ from h) (fun q => by cases q)
  | succ n hk7 =>
    intro a σ lv hW hF hl0 hl1 h
    have h : fX6_sort_7 (gt_loop (fX6_sort_7) n) a = some res := h
    revert hk7 h
    generalize gt_loop (fX6_sort_7) n = k7
    intro hk7 h
    unfold fX6_sort_7 at h
    obtain ⟨hg, h⟩ := gt_gd h
    have g13_0 := hg
    refine ga_iload_n C dX6_sort_7 rfl hl1 ?_
    refine ga_iconst C dX6_sort_8 ⟨by decide, by decide⟩ ?_
    refine ga_aload_n C dX6_sort_9 rfl hl0 hr0 ?_
    refine gt_geti C (iX6_sort_X6) hW 5 rfl rfl (by decide) kX6_sort_57 dX6_sort_10 ?_
    refine ga_imul C dX6_sort_13 g13_0 ?_
    refine ga_icmp_ge (tgt := 138) C dX6_sort_14 (by decide) (fun c1 => ?_) (fun c1 => ?_)
    · have h := gt_ip h c1
      cases h
      exact hRet _ _ _ dX6_sort_138 ⟨hW, hF⟩
    · have h := gt_in h c1
      refine ga_iconst C dX6_sort_17 ⟨by decide, by decide⟩ ?_
      refine ga_istore_n C dX6_sort_18 rfl (by decide) ?_
      refine ga_iconst C dX6_sort_19 ⟨by decide, by decide⟩ ?_
      refine ga_istore_n C dX6_sort_20 rfl (by decide) ?_
      exact gX6_sort_21 C hRet hr0 hk7 gt_fuel (a.1, a.2, (0 : Int), (0 : Int)) _ _ hW hF (gt_un (by decide) (gt_un (by decide) hl0)) (gt_un (by decide) (gt_un (by decide) hl1)) (gt_un (by decide) gt_us) gt_us h
set_option maxHeartbeats 4000000 in
theorem gX6_sort_0 {X : ga_X} {D : va_G} {cI cZ : ClassId} {K : Nat} {r : Nat} {σ0 : ga_S} {res : gt_T} (C : ga_C X cX6_sort yX6_sort wsX6_sort [] (gt_rm 0 0) (D, vwCl, cI, cZ) 4) (hRet : ∀ (pc : Nat) (lv : Nat → Option ga_V) (σ' : ga_S), decode cX6_sort pc = .ok (.return_, 1) → (gt_O SX6 6 r res σ' ∧ gt_F r (r + 14) σ0 σ') → ga_G X 0 0 K pc lv [] σ') (hr0 : r ≠ 0) {T : gt_T} {σ : ga_S} {lv : Nat → Option ga_V} (hW : gt_O SX6 6 r T σ) (hF : gt_F r (r + 14) σ0 σ) (hl0 : lv 0 = some (.inr r)) (h : fX6_sort T = some res) : ga_G X 0 0 K 0 lv [] σ := by
  unfold fX6_sort at h
  refine ga_aload_n C dX6_sort_0 rfl hl0 hr0 ?_
  refine ga_iconst C dX6_sort_1 ⟨by decide, by decide⟩ ?_
  refine gt_puti C okX6 (by decide) (iX6_sort_X6) tyX6 tyX6_ok nmX6 hW hF ⟨Nat.le_refl _, Nat.le_refl _⟩ 13 rfl rfl (by decide) kX6_sort_72 rfl (by decide +kernel) dX6_sort_2 (fun σ hW hF hf => ?_)
  refine ga_iconst C dX6_sort_5 ⟨by decide, by decide⟩ ?_
  refine ga_istore_n C dX6_sort_6 rfl (by decide) ?_
  exact gX6_sort_7 C hRet hr0 gt_fuel (((va_up T.1 13 (0 : Int)), T.2), (0 : Int)) _ _ hW hF (gt_un (by decide) hl0) gt_us h
set_option maxHeartbeats 4000000 in
theorem eX6_sort (l : Launch) (D : va_G) (cI cZ : ClassId) (K : Nat) {r : Nat} (hr0 : r ≠ 0) {σ : ga_S} {T : gt_T} (hW : gt_O SX6 6 r T σ) {res : gt_T} (h : fX6_sort T = some res) : ga_Ev l (D, vwCl, cI, cZ) yX6_sort wsX6_sort (gt_rm 0 0) [] 0 0 K [.inr r] σ (fun σ' rv => (gt_O SX6 6 r res σ' ∧ gt_F r (r + 14) σ σ') ∧ rv = none) := by
  refine ga_ofV (by decide +kernel) rfl gt_hcl (Nat.le_of_ble_eq_true rfl) (fun X hX C hret => ?_)
  exact gX6_sort_0 C (fun pc lv σ' d hp => hret pc lv σ' d ⟨hp, rfl⟩) hr0 hW gt_F.rf rfl h
-- X6_components: components()V
def fX6_components_138 (k32 : gt_T × Int → Option (gt_T)) (T : gt_T) (l1 s0 s1 : Int) : Option (gt_T) :=
  (if (-2147483648 ≤ s0 + s1 ∧ s0 + s1 < 2147483648) ∧ (-2147483648 ≤ l1 + (1 : Int) ∧ l1 + (1 : Int) < 2147483648) then k32 (((va_up T.1 19 (s0 + s1)), T.2), l1 + (1 : Int)) else none)
def fX6_components_124 (k32 : gt_T × Int → Option (gt_T)) (T : gt_T) (l1 l3 : Int) : Option (gt_T) :=
  (if l3 = 0 then fX6_components_138 k32 T l1 (T.1 19) (0 : Int) else fX6_components_138 k32 T l1 (T.1 19) (1 : Int))
def fX6_components_67 (k32 : gt_T × Int → Option (gt_T)) (k67 : gt_T × Int × Int × Int → Option (gt_T)) (a : gt_T × Int × Int × Int) : Option (gt_T) :=
  (if a.2.2.2 = 0 then fX6_components_124 k32 a.1 a.2.1 a.2.2.2 else (fX6_placeOf a.1 a.2.2.1 (1 : Int)).bind (fun (q78 : Int) => (if (0 ≤ q78 ∧ q78 < 80) then (if 0 ≤ (a.1.2 21 q78.toNat) then fX6_components_124 k32 a.1 a.2.1 a.2.2.2 else (fX6_placeOf a.1 a.2.2.1 (1 : Int)).bind (fun (q92 : Int) => (if (0 ≤ q92 ∧ q92 < 80) then (fX6_placeOf (a.1.1, (va_up a.1.2 21 (va_up (a.1.2 21) q92.toNat (a.1.1 19)))) a.2.2.1 (0 : Int)).bind (fun (q107 : Int) => (if (0 ≤ q107 ∧ q107 < 80) then (fX6_next (a.1.1, (va_up (va_up a.1.2 21 (va_up (a.1.2 21) q92.toNat (a.1.1 19))) 21 (va_up ((va_up a.1.2 21 (va_up (a.1.2 21) q92.toNat (a.1.1 19))) 21) q107.toNat (a.1.1 19)))) a.2.2.1).bind (fun (q117 : Int) => k67 ((a.1.1, (va_up (va_up a.1.2 21 (va_up (a.1.2 21) q92.toNat (a.1.1 19))) 21 (va_up ((va_up a.1.2 21 (va_up (a.1.2 21) q92.toNat (a.1.1 19))) 21) q107.toNat (a.1.1 19)))), a.2.1, q117, a.2.2.2)) else none)) else none))) else none)))
def fX6_components_66 (k32 : gt_T × Int → Option (gt_T)) (T : gt_T) (l1 l2 s0 : Int) : Option (gt_T) :=
  gt_loop (fX6_components_67 k32) gt_fuel (T, l1, l2, s0)
def fX6_components_32 (k32 : gt_T × Int → Option (gt_T)) (a : gt_T × Int) : Option (gt_T) :=
  (if (a.1.1 13) ≤ a.2 then some a.1 else (if (0 ≤ a.2 ∧ a.2 < 80) then (fX6_placeOf a.1 (a.1.2 14 a.2.toNat) (1 : Int)).bind (fun (q54 : Int) => (if (0 ≤ q54 ∧ q54 < 80) then (if 0 ≤ (a.1.2 21 q54.toNat) then fX6_components_66 k32 a.1 a.2 (a.1.2 14 a.2.toNat) (0 : Int) else fX6_components_66 k32 a.1 a.2 (a.1.2 14 a.2.toNat) (1 : Int)) else none)) else none))
def fX6_components_2 (k2 : gt_T × Int → Option (gt_T)) (a : gt_T × Int) : Option (gt_T) :=
  (if (80 : Int) ≤ a.2 then (fX6_sort ((va_up a.1.1 19 (0 : Int)), a.1.2)).bind (fun (q27 : gt_T) => gt_loop (fX6_components_32) gt_fuel (q27, (0 : Int))) else (if (0 ≤ a.2 ∧ a.2 < 80) ∧ (-2147483648 ≤ a.2 + (1 : Int) ∧ a.2 + (1 : Int) < 2147483648) then k2 ((a.1.1, (va_up a.1.2 21 (va_up (a.1.2 21) a.2.toNat (-1 : Int)))), a.2 + (1 : Int)) else none))
def fX6_components (T : gt_T) : Option (gt_T) :=
  gt_loop (fX6_components_2) gt_fuel (T, (0 : Int))
theorem iX6_components_X6 : ∀ w ∈ u_ws RX6 TX6 23, w ∈ wsX6_components := by decide +kernel
theorem kX6_components_32 : Cond.fieldLink yX6_components.cls 32 (TX6 14).1 (TX6 14).2.1 (TX6 14).2.2.1 ∈ wsX6_components := by decide +kernel
theorem kX6_components_48 : Cond.fieldLink yX6_components.cls 48 (TX6 21).1 (TX6 21).2.1 (TX6 21).2.2.1 ∈ wsX6_components := by decide +kernel
theorem kX6_components_72 : Cond.fieldLink yX6_components.cls 72 (TX6 13).1 (TX6 13).2.1 (TX6 13).2.2.1 ∈ wsX6_components := by decide +kernel
theorem kX6_components_75 : Cond.fieldLink yX6_components.cls 75 (TX6 19).1 (TX6 19).2.1 (TX6 19).2.2.1 ∈ wsX6_components := by decide +kernel
set_option maxHeartbeats 4000000 in
theorem gX6_components_138 {X : ga_X} {D : va_G} {cI cZ : ClassId} {K : Nat} {r : Nat} {σ0 : ga_S} {res : gt_T} {k32 : gt_T × Int → Option (gt_T)} (C : ga_C X cX6_components yX6_components wsX6_components [] (gt_rm 3 67) (D, vwCl, cI, cZ) 4) (hRet : ∀ (pc : Nat) (lv : Nat → Option ga_V) (σ' : ga_S), decode cX6_components pc = .ok (.return_, 1) → (gt_O SX6 6 r res σ' ∧ gt_F r (r + 14) σ0 σ') → ga_G X 0 0 K pc lv [] σ') (hr0 : r ≠ 0) (hk32 : ∀ (a : gt_T × Int) (σ : ga_S) (lv : Nat → Option ga_V), gt_O SX6 6 r a.1 σ → gt_F r (r + 14) σ0 σ → lv 0 = some (.inr r) → lv 1 = some (.inl a.2) → k32 a = some res → ga_G X 0 0 K 32 lv [] σ) {T : gt_T} {σ : ga_S} {l1 s0 s1 : Int} {lv : Nat → Option ga_V} (hW : gt_O SX6 6 r T σ) (hF : gt_F r (r + 14) σ0 σ) (hl0 : lv 0 = some (.inr r)) (hl1 : lv 1 = some (.inl l1)) (h : fX6_components_138 k32 T l1 s0 s1 = some res) : ga_G X 0 0 K 138 lv [.inl s1, .inl s0, .inr r] σ := by
  unfold fX6_components_138 at h
  obtain ⟨hg, h⟩ := gt_gd h
  obtain ⟨g138_0, g142_1⟩ := hg
  refine ga_iadd C dX6_components_138 g138_0 ?_
  refine gt_puti C okX6 (by decide) (iX6_components_X6) tyX6 tyX6_ok nmX6 hW hF ⟨Nat.le_refl _, Nat.le_refl _⟩ 19 rfl rfl (by decide) kX6_components_75 rfl (by decide +kernel) dX6_components_139 (fun σ hW hF hf => ?_)
  refine ga_iinc C dX6_components_142 hl1 g142_1 ?_
  refine ga_goto (tgt := 32) C dX6_components_145 (by decide) ?_
  exact hk32 (((va_up T.1 19 (s0 + s1)), T.2), l1 + (1 : Int)) _ _ hW hF (gt_un (by decide) hl0) gt_us h
set_option maxHeartbeats 4000000 in
theorem gX6_components_124 {X : ga_X} {D : va_G} {cI cZ : ClassId} {K : Nat} {r : Nat} {σ0 : ga_S} {res : gt_T} {k32 : gt_T × Int → Option (gt_T)} (C : ga_C X cX6_components yX6_components wsX6_components [] (gt_rm 3 67) (D, vwCl, cI, cZ) 4) (hRet : ∀ (pc : Nat) (lv : Nat → Option ga_V) (σ' : ga_S), decode cX6_components pc = .ok (.return_, 1) → (gt_O SX6 6 r res σ' ∧ gt_F r (r + 14) σ0 σ') → ga_G X 0 0 K pc lv [] σ') (hr0 : r ≠ 0) (hk32 : ∀ (a : gt_T × Int) (σ : ga_S) (lv : Nat → Option ga_V), gt_O SX6 6 r a.1 σ → gt_F r (r + 14) σ0 σ → lv 0 = some (.inr r) → lv 1 = some (.inl a.2) → k32 a = some res → ga_G X 0 0 K 32 lv [] σ) {T : gt_T} {σ : ga_S} {l1 l3 : Int} {lv : Nat → Option ga_V} (hW : gt_O SX6 6 r T σ) (hF : gt_F r (r + 14) σ0 σ) (hl0 : lv 0 = some (.inr r)) (hl1 : lv 1 = some (.inl l1)) (hl3 : lv 3 = some (.inl l3)) (h : fX6_components_124 k32 T l1 l3 = some res) : ga_G X 0 0 K 124 lv [] σ := by
  unfold fX6_components_124 at h
  refine ga_aload_n C dX6_components_124 rfl hl0 hr0 ?_
  refine ga_dup C dX6_components_125 ?_
  refine gt_geti C (iX6_components_X6) hW 19 rfl rfl (by decide) kX6_components_75 dX6_components_126 ?_
  refine ga_iload_n C dX6_components_129 rfl hl3 ?_
  refine ga_if_eq (tgt := 137) C dX6_components_130 (by decide) (fun c1 => ?_) (fun c1 => ?_)
  · have h := gt_ip h c1
    refine ga_iconst C dX6_components_137 ⟨by decide, by decide⟩ ?_
    exact gX6_components_138 C hRet hr0 hk32 hW hF hl0 hl1 h
  · have h := gt_in h c1
    refine ga_iconst C dX6_components_133 ⟨by decide, by decide⟩ ?_
    refine ga_goto (tgt := 138) C dX6_components_134 (by decide) ?_
    exact gX6_components_138 C hRet hr0 hk32 hW hF hl0 hl1 h
set_option maxHeartbeats 4000000 in
theorem gX6_components_67 {X : ga_X} {D : va_G} {cI cZ : ClassId} {K : Nat} {r : Nat} {σ0 : ga_S} {res : gt_T} {k32 : gt_T × Int → Option (gt_T)} (C : ga_C X cX6_components yX6_components wsX6_components [] (gt_rm 3 67) (D, vwCl, cI, cZ) 4) (hRet : ∀ (pc : Nat) (lv : Nat → Option ga_V) (σ' : ga_S), decode cX6_components pc = .ok (.return_, 1) → (gt_O SX6 6 r res σ' ∧ gt_F r (r + 14) σ0 σ') → ga_G X 0 0 K pc lv [] σ') (hr0 : r ≠ 0) (hk32 : ∀ (a : gt_T × Int) (σ : ga_S) (lv : Nat → Option ga_V), gt_O SX6 6 r a.1 σ → gt_F r (r + 14) σ0 σ → lv 0 = some (.inr r) → lv 1 = some (.inl a.2) → k32 a = some res → ga_G X 0 0 K 32 lv [] σ) : ∀ (n : Nat) (a : gt_T × Int × Int × Int) (σ : ga_S) (lv : Nat → Option ga_V), gt_O SX6 6 r a.1 σ → gt_F r (r + 14) σ0 σ → lv 0 = some (.inr r) → lv 1 = some (.inl a.2.1) → lv 2 = some (.inl a.2.2.1) → lv 3 = some (.inl a.2.2.2) → gt_loop (fX6_components_67 k32) n a = some res → ga_G X 0 0 K 67 lv [] σ := by
  intro n
  induction n with
  | zero =>
    intro a _ lv _ _ _ _ _ _ h
    exact absurd (show (none : Option _) = some _ from h) (fun q => by cases q)
  | succ n hk67 =>
    intro a σ lv hW hF hl0 hl1 hl2 hl3 h
    have h : fX6_components_67 k32 (gt_loop (fX6_components_67 k32) n) a = some res := h
    revert hk67 h
    generalize gt_loop (fX6_components_67 k32) n = k67
    intro hk67 h
    unfold fX6_components_67 at h
    refine ga_iload_n C dX6_components_67 rfl hl3 ?_
    refine ga_if_eq (tgt := 124) C dX6_components_68 (by decide) (fun c1 => ?_) (fun c1 => ?_)
    · have h := gt_ip h c1
      exact gX6_components_124 C hRet hr0 hk32 hW hF hl0 hl1 hl3 h
    · have h := gt_in h c1
      refine ga_aload_n C dX6_components_71 rfl hl0 hr0 ?_
      refine gt_geta C (iX6_components_X6) hW 21 rfl rfl (by decide) kX6_components_48 dX6_components_72 ?_
      refine ga_aload_n C dX6_components_75 rfl hl0 hr0 ?_
      refine ga_iload_n C dX6_components_76 rfl hl2 ?_
      refine ga_iconst C dX6_components_77 ⟨by decide, by decide⟩ ?_
      obtain ⟨q78, hq, h⟩ := Option.bind_eq_some_iff.mp h
      refine gt_cVi (n := 2) (st := [.inr (r + 12)]) C (eX6_placeOf X.2.1 D cI cZ K hr0 hW hq) gX6_components_X6_placeOf rfl (by decide +kernel) rfl ⟨Nat.le_of_ble_eq_true rfl, Nat.le_of_ble_eq_true rfl⟩ hW.1 rfl rfl (Nat.le_of_ble_eq_true rfl) rfl dX6_components_78 (fun σ' hp => ?_)
      subst hp
      obtain ⟨hg, h⟩ := gt_gd h
      have g81_0 := hg
      refine gt_iald C hW 21 rfl g81_0.1 g81_0.2 dX6_components_81 ?_
      refine ga_if_ge (tgt := 124) C dX6_components_82 (by decide) (fun c1 => ?_) (fun c1 => ?_)
      · have h := gt_ip h c1
        exact gX6_components_124 C hRet hr0 hk32 hW hF hl0 hl1 hl3 h
      · have h := gt_in h c1
        refine ga_aload_n C dX6_components_85 rfl hl0 hr0 ?_
        refine gt_geta C (iX6_components_X6) hW 21 rfl rfl (by decide) kX6_components_48 dX6_components_86 ?_
        refine ga_aload_n C dX6_components_89 rfl hl0 hr0 ?_
        refine ga_iload_n C dX6_components_90 rfl hl2 ?_
        refine ga_iconst C dX6_components_91 ⟨by decide, by decide⟩ ?_
        obtain ⟨q92, hq, h⟩ := Option.bind_eq_some_iff.mp h
        refine gt_cVi (n := 2) (st := [.inr (r + 12)]) C (eX6_placeOf X.2.1 D cI cZ K hr0 hW hq) gX6_components_X6_placeOf rfl (by decide +kernel) rfl ⟨Nat.le_of_ble_eq_true rfl, Nat.le_of_ble_eq_true rfl⟩ hW.1 rfl rfl (Nat.le_of_ble_eq_true rfl) rfl dX6_components_92 (fun σ' hp => ?_)
        subst hp
        obtain ⟨hg, h⟩ := gt_gd h
        have g99_0 := hg
        refine ga_aload_n C dX6_components_95 rfl hl0 hr0 ?_
        refine gt_geti C (iX6_components_X6) hW 19 rfl rfl (by decide) kX6_components_75 dX6_components_96 ?_
        refine gt_iast C okX6 hW hF ⟨Nat.le_refl _, Nat.le_refl _⟩ 21 rfl g99_0.1 g99_0.2 dX6_components_99 (fun σ hW hF hf => ?_)
        refine ga_aload_n C dX6_components_100 rfl hl0 hr0 ?_
        refine gt_geta C (iX6_components_X6) hW 21 rfl rfl (by decide) kX6_components_48 dX6_components_101 ?_
        refine ga_aload_n C dX6_components_104 rfl hl0 hr0 ?_
        refine ga_iload_n C dX6_components_105 rfl hl2 ?_
        refine ga_iconst C dX6_components_106 ⟨by decide, by decide⟩ ?_
        obtain ⟨q107, hq, h⟩ := Option.bind_eq_some_iff.mp h
        refine gt_cVi (n := 2) (st := [.inr (r + 12)]) C (eX6_placeOf X.2.1 D cI cZ K hr0 hW hq) gX6_components_X6_placeOf rfl (by decide +kernel) rfl ⟨Nat.le_of_ble_eq_true rfl, Nat.le_of_ble_eq_true rfl⟩ hW.1 rfl rfl (Nat.le_of_ble_eq_true rfl) rfl dX6_components_107 (fun σ' hp => ?_)
        subst hp
        obtain ⟨hg, h⟩ := gt_gd h
        have g114_0 := hg
        refine ga_aload_n C dX6_components_110 rfl hl0 hr0 ?_
        refine gt_geti C (iX6_components_X6) hW 19 rfl rfl (by decide) kX6_components_75 dX6_components_111 ?_
        refine gt_iast C okX6 hW hF ⟨Nat.le_refl _, Nat.le_refl _⟩ 21 rfl g114_0.1 g114_0.2 dX6_components_114 (fun σ hW hF hf => ?_)
        refine ga_aload_n C dX6_components_115 rfl hl0 hr0 ?_
        refine ga_iload_n C dX6_components_116 rfl hl2 ?_
        obtain ⟨q117, hq, h⟩ := Option.bind_eq_some_iff.mp h
        refine gt_cVi (n := 1) (st := []) C (eX6_next X.2.1 D cI cZ K hr0 hW hq) gX6_components_X6_next rfl (by decide +kernel) rfl ⟨Nat.le_of_ble_eq_true rfl, Nat.le_of_ble_eq_true rfl⟩ hW.1 rfl rfl (Nat.le_of_ble_eq_true rfl) rfl dX6_components_117 (fun σ' hp => ?_)
        subst hp
        refine ga_istore_n C dX6_components_120 rfl (by decide) ?_
        refine ga_goto (tgt := 67) C dX6_components_121 (by decide) ?_
        exact hk67 ((a.1.1, (va_up (va_up a.1.2 21 (va_up (a.1.2 21) q92.toNat (a.1.1 19))) 21 (va_up ((va_up a.1.2 21 (va_up (a.1.2 21) q92.toNat (a.1.1 19))) 21) q107.toNat (a.1.1 19)))), a.2.1, q117, a.2.2.2) _ _ hW hF (gt_un (by decide) hl0) (gt_un (by decide) hl1) gt_us (gt_un (by decide) hl3) h
set_option maxHeartbeats 4000000 in
theorem gX6_components_66 {X : ga_X} {D : va_G} {cI cZ : ClassId} {K : Nat} {r : Nat} {σ0 : ga_S} {res : gt_T} {k32 : gt_T × Int → Option (gt_T)} (C : ga_C X cX6_components yX6_components wsX6_components [] (gt_rm 3 67) (D, vwCl, cI, cZ) 4) (hRet : ∀ (pc : Nat) (lv : Nat → Option ga_V) (σ' : ga_S), decode cX6_components pc = .ok (.return_, 1) → (gt_O SX6 6 r res σ' ∧ gt_F r (r + 14) σ0 σ') → ga_G X 0 0 K pc lv [] σ') (hr0 : r ≠ 0) (hk32 : ∀ (a : gt_T × Int) (σ : ga_S) (lv : Nat → Option ga_V), gt_O SX6 6 r a.1 σ → gt_F r (r + 14) σ0 σ → lv 0 = some (.inr r) → lv 1 = some (.inl a.2) → k32 a = some res → ga_G X 0 0 K 32 lv [] σ) {T : gt_T} {σ : ga_S} {l1 l2 s0 : Int} {lv : Nat → Option ga_V} (hW : gt_O SX6 6 r T σ) (hF : gt_F r (r + 14) σ0 σ) (hl0 : lv 0 = some (.inr r)) (hl1 : lv 1 = some (.inl l1)) (hl2 : lv 2 = some (.inl l2)) (h : fX6_components_66 k32 T l1 l2 s0 = some res) : ga_G X 0 0 K 66 lv [.inl s0] σ := by
  unfold fX6_components_66 at h
  refine ga_istore_n C dX6_components_66 rfl (by decide) ?_
  exact gX6_components_67 C hRet hr0 hk32 gt_fuel (T, l1, l2, s0) _ _ hW hF (gt_un (by decide) hl0) (gt_un (by decide) hl1) (gt_un (by decide) hl2) gt_us h
set_option maxHeartbeats 4000000 in
theorem gX6_components_32 {X : ga_X} {D : va_G} {cI cZ : ClassId} {K : Nat} {r : Nat} {σ0 : ga_S} {res : gt_T} (C : ga_C X cX6_components yX6_components wsX6_components [] (gt_rm 3 67) (D, vwCl, cI, cZ) 4) (hRet : ∀ (pc : Nat) (lv : Nat → Option ga_V) (σ' : ga_S), decode cX6_components pc = .ok (.return_, 1) → (gt_O SX6 6 r res σ' ∧ gt_F r (r + 14) σ0 σ') → ga_G X 0 0 K pc lv [] σ') (hr0 : r ≠ 0) : ∀ (n : Nat) (a : gt_T × Int) (σ : ga_S) (lv : Nat → Option ga_V), gt_O SX6 6 r a.1 σ → gt_F r (r + 14) σ0 σ → lv 0 = some (.inr r) → lv 1 = some (.inl a.2) → gt_loop (fX6_components_32) n a = some res → ga_G X 0 0 K 32 lv [] σ := by
  intro n
  induction n with
  | zero =>
    intro a _ lv _ _ _ _ h
    exact absurd (show (none : Option _) = some _ from h) (fun q => by cases q)
  | succ n hk32 =>
    intro a σ lv hW hF hl0 hl1 h
    have h : fX6_components_32 (gt_loop (fX6_components_32) n) a = some res := h
    revert hk32 h
    generalize gt_loop (fX6_components_32) n = k32
    intro hk32 h
    unfold fX6_components_32 at h
    refine ga_iload_n C dX6_components_32 rfl hl1 ?_
    refine ga_aload_n C dX6_components_33 rfl hl0 hr0 ?_
    refine gt_geti C (iX6_components_X6) hW 13 rfl rfl (by decide) kX6_components_72 dX6_components_34 ?_
    refine ga_icmp_ge (tgt := 148) C dX6_components_37 (by decide) (fun c1 => ?_) (fun c1 => ?_)
    · have h := gt_ip h c1
      cases h
      exact hRet _ _ _ dX6_components_148 ⟨hW, hF⟩
    · have h := gt_in h c1
      obtain ⟨hg, h⟩ := gt_gd h
      have g45_0 := hg
      refine ga_aload_n C dX6_components_40 rfl hl0 hr0 ?_
      refine gt_geta C (iX6_components_X6) hW 14 rfl rfl (by decide) kX6_components_32 dX6_components_41 ?_
      refine ga_iload_n C dX6_components_44 rfl hl1 ?_
      refine gt_iald C hW 14 rfl g45_0.1 g45_0.2 dX6_components_45 ?_
      refine ga_istore_n C dX6_components_46 rfl (by decide) ?_
      refine ga_aload_n C dX6_components_47 rfl (gt_un (by decide) hl0) hr0 ?_
      refine gt_geta C (iX6_components_X6) hW 21 rfl rfl (by decide) kX6_components_48 dX6_components_48 ?_
      refine ga_aload_n C dX6_components_51 rfl (gt_un (by decide) hl0) hr0 ?_
      refine ga_iload_n C dX6_components_52 rfl gt_us ?_
      refine ga_iconst C dX6_components_53 ⟨by decide, by decide⟩ ?_
      obtain ⟨q54, hq, h⟩ := Option.bind_eq_some_iff.mp h
      refine gt_cVi (n := 2) (st := [.inr (r + 12)]) C (eX6_placeOf X.2.1 D cI cZ K hr0 hW hq) gX6_components_X6_placeOf rfl (by decide +kernel) rfl ⟨Nat.le_of_ble_eq_true rfl, Nat.le_of_ble_eq_true rfl⟩ hW.1 rfl rfl (Nat.le_of_ble_eq_true rfl) rfl dX6_components_54 (fun σ' hp => ?_)
      subst hp
      obtain ⟨hg, h⟩ := gt_gd h
      have g57_0 := hg
      refine gt_iald C hW 21 rfl g57_0.1 g57_0.2 dX6_components_57 ?_
      refine ga_if_ge (tgt := 65) C dX6_components_58 (by decide) (fun c1 => ?_) (fun c1 => ?_)
      · have h := gt_ip h c1
        refine ga_iconst C dX6_components_65 ⟨by decide, by decide⟩ ?_
        exact gX6_components_66 C hRet hr0 hk32 hW hF (gt_un (by decide) hl0) (gt_un (by decide) hl1) gt_us h
      · have h := gt_in h c1
        refine ga_iconst C dX6_components_61 ⟨by decide, by decide⟩ ?_
        refine ga_goto (tgt := 66) C dX6_components_62 (by decide) ?_
        exact gX6_components_66 C hRet hr0 hk32 hW hF (gt_un (by decide) hl0) (gt_un (by decide) hl1) gt_us h
set_option maxHeartbeats 4000000 in
theorem gX6_components_2 {X : ga_X} {D : va_G} {cI cZ : ClassId} {K : Nat} {r : Nat} {σ0 : ga_S} {res : gt_T} (C : ga_C X cX6_components yX6_components wsX6_components [] (gt_rm 3 67) (D, vwCl, cI, cZ) 4) (hRet : ∀ (pc : Nat) (lv : Nat → Option ga_V) (σ' : ga_S), decode cX6_components pc = .ok (.return_, 1) → (gt_O SX6 6 r res σ' ∧ gt_F r (r + 14) σ0 σ') → ga_G X 0 0 K pc lv [] σ') (hr0 : r ≠ 0) : ∀ (n : Nat) (a : gt_T × Int) (σ : ga_S) (lv : Nat → Option ga_V), gt_O SX6 6 r a.1 σ → gt_F r (r + 14) σ0 σ → lv 0 = some (.inr r) → lv 1 = some (.inl a.2) → gt_loop (fX6_components_2) n a = some res → ga_G X 0 0 K 2 lv [] σ := by
  intro n
  induction n with
  | zero =>
    intro a _ lv _ _ _ _ h
    exact absurd (show (none : Option _) = some _ from h) (fun q => by cases q)
  | succ n hk2 =>
    intro a σ lv hW hF hl0 hl1 h
    have h : fX6_components_2 (gt_loop (fX6_components_2) n) a = some res := h
    revert hk2 h
    generalize gt_loop (fX6_components_2) n = k2
    intro hk2 h
    unfold fX6_components_2 at h
    refine ga_iload_n C dX6_components_2 rfl hl1 ?_
    refine ga_bipush C dX6_components_3 ⟨by decide, by decide⟩ (by decide) ?_
    refine ga_icmp_ge (tgt := 21) C dX6_components_5 (by decide) (fun c1 => ?_) (fun c1 => ?_)
    · have h := gt_ip h c1
      refine ga_aload_n C dX6_components_21 rfl hl0 hr0 ?_
      refine ga_iconst C dX6_components_22 ⟨by decide, by decide⟩ ?_
      refine gt_puti C okX6 (by decide) (iX6_components_X6) tyX6 tyX6_ok nmX6 hW hF ⟨Nat.le_refl _, Nat.le_refl _⟩ 19 rfl rfl (by decide) kX6_components_75 rfl (by decide +kernel) dX6_components_23 (fun σ hW hF hf => ?_)
      refine ga_aload_n C dX6_components_26 rfl hl0 hr0 ?_
      obtain ⟨q27, hq, h⟩ := Option.bind_eq_some_iff.mp h
      refine gt_cVv (n := 0) (st := []) C (eX6_sort X.2.1 D cI cZ K hr0 hW hq) gX6_components_X6_sort rfl (by decide +kernel) rfl ⟨Nat.le_of_ble_eq_true rfl, Nat.le_of_ble_eq_true rfl⟩ hW.1 rfl rfl (Nat.le_of_ble_eq_true rfl) rfl dX6_components_27 (fun σ' hp => ?_)
      obtain ⟨hw, hf⟩ := hp
      have hF := hF.tr hf (Nat.le_refl _) (Nat.le_refl _)
      have hW := hw
      clear hf
      refine ga_iconst C dX6_components_30 ⟨by decide, by decide⟩ ?_
      refine ga_istore_n C dX6_components_31 rfl (by decide) ?_
      exact gX6_components_32 C hRet hr0 gt_fuel (q27, (0 : Int)) _ _ hW hF (gt_un (by decide) hl0) gt_us h
    · have h := gt_in h c1
      obtain ⟨hg, h⟩ := gt_gd h
      obtain ⟨g14_0, g15_1⟩ := hg
      refine ga_aload_n C dX6_components_8 rfl hl0 hr0 ?_
      refine gt_geta C (iX6_components_X6) hW 21 rfl rfl (by decide) kX6_components_48 dX6_components_9 ?_
      refine ga_iload_n C dX6_components_12 rfl hl1 ?_
      refine ga_iconst C dX6_components_13 ⟨by decide, by decide⟩ ?_
      refine gt_iast C okX6 hW hF ⟨Nat.le_refl _, Nat.le_refl _⟩ 21 rfl g14_0.1 g14_0.2 dX6_components_14 (fun σ hW hF hf => ?_)
      refine ga_iinc C dX6_components_15 hl1 g15_1 ?_
      refine ga_goto (tgt := 2) C dX6_components_18 (by decide) ?_
      exact hk2 ((a.1.1, (va_up a.1.2 21 (va_up (a.1.2 21) a.2.toNat (-1 : Int)))), a.2 + (1 : Int)) _ _ hW hF (gt_un (by decide) hl0) gt_us h
set_option maxHeartbeats 4000000 in
theorem gX6_components_0 {X : ga_X} {D : va_G} {cI cZ : ClassId} {K : Nat} {r : Nat} {σ0 : ga_S} {res : gt_T} (C : ga_C X cX6_components yX6_components wsX6_components [] (gt_rm 3 67) (D, vwCl, cI, cZ) 4) (hRet : ∀ (pc : Nat) (lv : Nat → Option ga_V) (σ' : ga_S), decode cX6_components pc = .ok (.return_, 1) → (gt_O SX6 6 r res σ' ∧ gt_F r (r + 14) σ0 σ') → ga_G X 0 0 K pc lv [] σ') (hr0 : r ≠ 0) {T : gt_T} {σ : ga_S} {lv : Nat → Option ga_V} (hW : gt_O SX6 6 r T σ) (hF : gt_F r (r + 14) σ0 σ) (hl0 : lv 0 = some (.inr r)) (h : fX6_components T = some res) : ga_G X 0 0 K 0 lv [] σ := by
  unfold fX6_components at h
  refine ga_iconst C dX6_components_0 ⟨by decide, by decide⟩ ?_
  refine ga_istore_n C dX6_components_1 rfl (by decide) ?_
  exact gX6_components_2 C hRet hr0 gt_fuel (T, (0 : Int)) _ _ hW hF (gt_un (by decide) hl0) gt_us h
set_option maxHeartbeats 4000000 in
theorem eX6_components (l : Launch) (D : va_G) (cI cZ : ClassId) (K : Nat) {r : Nat} (hr0 : r ≠ 0) {σ : ga_S} {T : gt_T} (hW : gt_O SX6 6 r T σ) {res : gt_T} (h : fX6_components T = some res) : ga_Ev l (D, vwCl, cI, cZ) yX6_components wsX6_components (gt_rm 3 67) [] 0 0 K [.inr r] σ (fun σ' rv => (gt_O SX6 6 r res σ' ∧ gt_F r (r + 14) σ σ') ∧ rv = none) := by
  refine ga_ofV (by decide +kernel) rfl gt_hcl (Nat.le_of_ble_eq_true rfl) (fun X hX C hret => ?_)
  exact gX6_components_0 C (fun pc lv σ' d hp => hret pc lv σ' d ⟨hp, rfl⟩) hr0 hW gt_F.rf rfl h
-- X6_componentOf: componentOf(I)I
def fX6_componentOf (T : gt_T) (l1 : Int) : Option (gt_T × Int) :=
  (fX6_components T).bind (fun (q1 : gt_T) => (fX6_placeOf q1 l1 (1 : Int)).bind (fun (q11 : Int) => (if (0 ≤ q11 ∧ q11 < 80) then some (q1, q1.2 21 q11.toNat) else none)))
theorem iX6_componentOf_X6 : ∀ w ∈ u_ws RX6 TX6 23, w ∈ wsX6_componentOf := by decide +kernel
theorem kX6_componentOf_48 : Cond.fieldLink yX6_componentOf.cls 48 (TX6 21).1 (TX6 21).2.1 (TX6 21).2.2.1 ∈ wsX6_componentOf := by decide +kernel
set_option maxHeartbeats 4000000 in
theorem gX6_componentOf_0 {X : ga_X} {D : va_G} {cI cZ : ClassId} {K : Nat} {r : Nat} {σ0 : ga_S} {res : gt_T × Int} (C : ga_C X cX6_componentOf yX6_componentOf wsX6_componentOf [] (gt_rm 4 90) (D, vwCl, cI, cZ) 2) (hRet : ∀ (pc : Nat) (lv : Nat → Option ga_V) (σ' : ga_S) (z : Int), decode cX6_componentOf pc = .ok (.ireturn, 1) → z = res.2 → (gt_O SX6 6 r res.1 σ' ∧ gt_F r (r + 14) σ0 σ') → ga_G X 0 0 K pc lv [.inl z] σ') (hr0 : r ≠ 0) {T : gt_T} {σ : ga_S} {l1 : Int} {lv : Nat → Option ga_V} (hW : gt_O SX6 6 r T σ) (hF : gt_F r (r + 14) σ0 σ) (hl0 : lv 0 = some (.inr r)) (hl1 : lv 1 = some (.inl l1)) (h : fX6_componentOf T l1 = some res) : ga_G X 0 0 K 0 lv [] σ := by
  unfold fX6_componentOf at h
  refine ga_aload_n C dX6_componentOf_0 rfl hl0 hr0 ?_
  obtain ⟨q1, hq, h⟩ := Option.bind_eq_some_iff.mp h
  refine gt_cVv (n := 0) (st := []) C (eX6_components X.2.1 D cI cZ K hr0 hW hq) gX6_componentOf_X6_components rfl (by decide +kernel) rfl ⟨Nat.le_of_ble_eq_true rfl, Nat.le_of_ble_eq_true rfl⟩ hW.1 rfl rfl (Nat.le_of_ble_eq_true rfl) rfl dX6_componentOf_1 (fun σ' hp => ?_)
  obtain ⟨hw, hf⟩ := hp
  have hF := hF.tr hf (Nat.le_refl _) (Nat.le_refl _)
  have hW := hw
  clear hf
  refine ga_aload_n C dX6_componentOf_4 rfl hl0 hr0 ?_
  refine gt_geta C (iX6_componentOf_X6) hW 21 rfl rfl (by decide) kX6_componentOf_48 dX6_componentOf_5 ?_
  refine ga_aload_n C dX6_componentOf_8 rfl hl0 hr0 ?_
  refine ga_iload_n C dX6_componentOf_9 rfl hl1 ?_
  refine ga_iconst C dX6_componentOf_10 ⟨by decide, by decide⟩ ?_
  obtain ⟨q11, hq, h⟩ := Option.bind_eq_some_iff.mp h
  refine gt_cVi (n := 2) (st := [.inr (r + 12)]) C (eX6_placeOf X.2.1 D cI cZ K hr0 hW hq) gX6_componentOf_X6_placeOf rfl (by decide +kernel) rfl ⟨Nat.le_of_ble_eq_true rfl, Nat.le_of_ble_eq_true rfl⟩ hW.1 rfl rfl (Nat.le_of_ble_eq_true rfl) rfl dX6_componentOf_11 (fun σ' hp => ?_)
  subst hp
  obtain ⟨hg, h⟩ := gt_gd h
  have g14_0 := hg
  refine gt_iald C hW 21 rfl g14_0.1 g14_0.2 dX6_componentOf_14 ?_
  cases h
  exact hRet _ _ _ _ dX6_componentOf_15 rfl ⟨hW, hF⟩
set_option maxHeartbeats 4000000 in
theorem eX6_componentOf (l : Launch) (D : va_G) (cI cZ : ClassId) (K : Nat) {r : Nat} (hr0 : r ≠ 0) {σ : ga_S} {T : gt_T} (hW : gt_O SX6 6 r T σ) {l1 : Int} {res : gt_T × Int} (h : fX6_componentOf T l1 = some res) : ga_Ev l (D, vwCl, cI, cZ) yX6_componentOf wsX6_componentOf (gt_rm 4 90) [] 0 0 K [.inr r, .inl l1] σ (fun σ' rv => (gt_O SX6 6 r res.1 σ' ∧ gt_F r (r + 14) σ σ') ∧ rv = some (.inl res.2)) := by
  refine ga_ofI (by decide +kernel) rfl gt_hcl (Nat.le_of_ble_eq_true rfl) (fun X hX C hret => ?_)
  exact gX6_componentOf_0 C (fun pc lv σ' z d hz hp => hret pc lv σ' z d ⟨hp, by rw [hz]⟩) hr0 hW gt_F.rf rfl rfl h
-- X6_beginning: beginning(I)I
def fX6_beginning_47 (k13 : gt_T × Int × Int × Int → Option (gt_T × Int)) (T : gt_T) (l1 l3 s0 : Int) : Option (gt_T × Int) :=
  (if (-2147483648 ≤ l3 + (-1 : Int) ∧ l3 + (-1 : Int) < 2147483648) then k13 (T, l1, s0, l3 + (-1 : Int)) else none)
def fX6_beginning_13 (k13 : gt_T × Int × Int × Int → Option (gt_T × Int)) (a : gt_T × Int × Int × Int) : Option (gt_T × Int) :=
  (if a.2.2.2 < 0 then some (a.1, a.2.2.1) else (if (0 ≤ a.2.2.2 ∧ a.2.2.2 < 80) then (fX6_placeOf a.1 (a.1.2 14 a.2.2.2.toNat) (1 : Int)).bind (fun (q29 : Int) => (if (0 ≤ q29 ∧ q29 < 80) then (if (a.1.2 21 q29.toNat) = a.2.1 then (if (0 ≤ a.2.2.2 ∧ a.2.2.2 < 80) then fX6_beginning_47 k13 a.1 a.2.1 a.2.2.2 (a.1.2 14 a.2.2.2.toNat) else none) else fX6_beginning_47 k13 a.1 a.2.1 a.2.2.2 a.2.2.1) else none)) else none))
def fX6_beginning (T : gt_T) (l1 : Int) : Option (gt_T × Int) :=
  (fX6_components T).bind (fun (q3 : gt_T) => (if (-2147483648 ≤ (q3.1 13) - (1 : Int) ∧ (q3.1 13) - (1 : Int) < 2147483648) then gt_loop (fX6_beginning_13) gt_fuel (q3, l1, (0 : Int), (q3.1 13) - (1 : Int)) else none))
theorem iX6_beginning_X6 : ∀ w ∈ u_ws RX6 TX6 23, w ∈ wsX6_beginning := by decide +kernel
theorem kX6_beginning_32 : Cond.fieldLink yX6_beginning.cls 32 (TX6 14).1 (TX6 14).2.1 (TX6 14).2.2.1 ∈ wsX6_beginning := by decide +kernel
theorem kX6_beginning_48 : Cond.fieldLink yX6_beginning.cls 48 (TX6 21).1 (TX6 21).2.1 (TX6 21).2.2.1 ∈ wsX6_beginning := by decide +kernel
theorem kX6_beginning_72 : Cond.fieldLink yX6_beginning.cls 72 (TX6 13).1 (TX6 13).2.1 (TX6 13).2.2.1 ∈ wsX6_beginning := by decide +kernel
set_option maxHeartbeats 4000000 in
theorem gX6_beginning_47 {X : ga_X} {D : va_G} {cI cZ : ClassId} {K : Nat} {r : Nat} {σ0 : ga_S} {res : gt_T × Int} {k13 : gt_T × Int × Int × Int → Option (gt_T × Int)} (C : ga_C X cX6_beginning yX6_beginning wsX6_beginning [] (gt_rm 4 90) (D, vwCl, cI, cZ) 4) (hRet : ∀ (pc : Nat) (lv : Nat → Option ga_V) (σ' : ga_S) (z : Int), decode cX6_beginning pc = .ok (.ireturn, 1) → z = res.2 → (gt_O SX6 6 r res.1 σ' ∧ gt_F r (r + 14) σ0 σ') → ga_G X 0 0 K pc lv [.inl z] σ') (hr0 : r ≠ 0) (hk13 : ∀ (a : gt_T × Int × Int × Int) (σ : ga_S) (lv : Nat → Option ga_V), gt_O SX6 6 r a.1 σ → gt_F r (r + 14) σ0 σ → lv 0 = some (.inr r) → lv 1 = some (.inl a.2.1) → lv 2 = some (.inl a.2.2.1) → lv 3 = some (.inl a.2.2.2) → k13 a = some res → ga_G X 0 0 K 13 lv [] σ) {T : gt_T} {σ : ga_S} {l1 l3 s0 : Int} {lv : Nat → Option ga_V} (hW : gt_O SX6 6 r T σ) (hF : gt_F r (r + 14) σ0 σ) (hl0 : lv 0 = some (.inr r)) (hl1 : lv 1 = some (.inl l1)) (hl3 : lv 3 = some (.inl l3)) (h : fX6_beginning_47 k13 T l1 l3 s0 = some res) : ga_G X 0 0 K 47 lv [.inl s0] σ := by
  unfold fX6_beginning_47 at h
  obtain ⟨hg, h⟩ := gt_gd h
  have g48_0 := hg
  refine ga_istore_n C dX6_beginning_47 rfl (by decide) ?_
  refine ga_iinc C dX6_beginning_48 (gt_un (by decide) hl3) g48_0 ?_
  refine ga_goto (tgt := 13) C dX6_beginning_51 (by decide) ?_
  exact hk13 (T, l1, s0, l3 + (-1 : Int)) _ _ hW hF (gt_un (by decide) (gt_un (by decide) hl0)) (gt_un (by decide) (gt_un (by decide) hl1)) (gt_un (by decide) gt_us) gt_us h
set_option maxHeartbeats 4000000 in
theorem gX6_beginning_13 {X : ga_X} {D : va_G} {cI cZ : ClassId} {K : Nat} {r : Nat} {σ0 : ga_S} {res : gt_T × Int} (C : ga_C X cX6_beginning yX6_beginning wsX6_beginning [] (gt_rm 4 90) (D, vwCl, cI, cZ) 4) (hRet : ∀ (pc : Nat) (lv : Nat → Option ga_V) (σ' : ga_S) (z : Int), decode cX6_beginning pc = .ok (.ireturn, 1) → z = res.2 → (gt_O SX6 6 r res.1 σ' ∧ gt_F r (r + 14) σ0 σ') → ga_G X 0 0 K pc lv [.inl z] σ') (hr0 : r ≠ 0) : ∀ (n : Nat) (a : gt_T × Int × Int × Int) (σ : ga_S) (lv : Nat → Option ga_V), gt_O SX6 6 r a.1 σ → gt_F r (r + 14) σ0 σ → lv 0 = some (.inr r) → lv 1 = some (.inl a.2.1) → lv 2 = some (.inl a.2.2.1) → lv 3 = some (.inl a.2.2.2) → gt_loop (fX6_beginning_13) n a = some res → ga_G X 0 0 K 13 lv [] σ := by
  intro n
  induction n with
  | zero =>
    intro a _ lv _ _ _ _ _ _ h
    exact absurd (show (none : Option _) = some _ from h) (fun q => by cases q)
  | succ n hk13 =>
    intro a σ lv hW hF hl0 hl1 hl2 hl3 h
    have h : fX6_beginning_13 (gt_loop (fX6_beginning_13) n) a = some res := h
    revert hk13 h
    generalize gt_loop (fX6_beginning_13) n = k13
    intro hk13 h
    unfold fX6_beginning_13 at h
    refine ga_iload_n C dX6_beginning_13 rfl hl3 ?_
    refine ga_if_lt (tgt := 54) C dX6_beginning_14 (by decide) (fun c1 => ?_) (fun c1 => ?_)
    · have h := gt_ip h c1
      refine ga_iload_n C dX6_beginning_54 rfl hl2 ?_
      cases h
      exact hRet _ _ _ _ dX6_beginning_55 rfl ⟨hW, hF⟩
    · have h := gt_in h c1
      obtain ⟨hg, h⟩ := gt_gd h
      have g27_0 := hg
      refine ga_aload_n C dX6_beginning_17 rfl hl0 hr0 ?_
      refine gt_geta C (iX6_beginning_X6) hW 21 rfl rfl (by decide) kX6_beginning_48 dX6_beginning_18 ?_
      refine ga_aload_n C dX6_beginning_21 rfl hl0 hr0 ?_
      refine ga_aload_n C dX6_beginning_22 rfl hl0 hr0 ?_
      refine gt_geta C (iX6_beginning_X6) hW 14 rfl rfl (by decide) kX6_beginning_32 dX6_beginning_23 ?_
      refine ga_iload_n C dX6_beginning_26 rfl hl3 ?_
      refine gt_iald C hW 14 rfl g27_0.1 g27_0.2 dX6_beginning_27 ?_
      refine ga_iconst C dX6_beginning_28 ⟨by decide, by decide⟩ ?_
      obtain ⟨q29, hq, h⟩ := Option.bind_eq_some_iff.mp h
      refine gt_cVi (n := 2) (st := [.inr (r + 12)]) C (eX6_placeOf X.2.1 D cI cZ K hr0 hW hq) gX6_beginning_X6_placeOf rfl (by decide +kernel) rfl ⟨Nat.le_of_ble_eq_true rfl, Nat.le_of_ble_eq_true rfl⟩ hW.1 rfl rfl (Nat.le_of_ble_eq_true rfl) rfl dX6_beginning_29 (fun σ' hp => ?_)
      subst hp
      obtain ⟨hg, h⟩ := gt_gd h
      have g32_0 := hg
      refine gt_iald C hW 21 rfl g32_0.1 g32_0.2 dX6_beginning_32 ?_
      refine ga_iload_n C dX6_beginning_33 rfl hl1 ?_
      refine ga_icmp_ne (tgt := 46) C dX6_beginning_34 (by decide) (fun c1 => ?_) (fun c1 => ?_)
      · have h := gt_in h c1
        refine ga_iload_n C dX6_beginning_46 rfl hl2 ?_
        exact gX6_beginning_47 C hRet hr0 hk13 hW hF hl0 hl1 hl3 h
      · have h := gt_ip h c1
        obtain ⟨hg, h⟩ := gt_gd h
        have g42_0 := hg
        refine ga_aload_n C dX6_beginning_37 rfl hl0 hr0 ?_
        refine gt_geta C (iX6_beginning_X6) hW 14 rfl rfl (by decide) kX6_beginning_32 dX6_beginning_38 ?_
        refine ga_iload_n C dX6_beginning_41 rfl hl3 ?_
        refine gt_iald C hW 14 rfl g42_0.1 g42_0.2 dX6_beginning_42 ?_
        refine ga_goto (tgt := 47) C dX6_beginning_43 (by decide) ?_
        exact gX6_beginning_47 C hRet hr0 hk13 hW hF hl0 hl1 hl3 h
set_option maxHeartbeats 4000000 in
theorem gX6_beginning_0 {X : ga_X} {D : va_G} {cI cZ : ClassId} {K : Nat} {r : Nat} {σ0 : ga_S} {res : gt_T × Int} (C : ga_C X cX6_beginning yX6_beginning wsX6_beginning [] (gt_rm 4 90) (D, vwCl, cI, cZ) 4) (hRet : ∀ (pc : Nat) (lv : Nat → Option ga_V) (σ' : ga_S) (z : Int), decode cX6_beginning pc = .ok (.ireturn, 1) → z = res.2 → (gt_O SX6 6 r res.1 σ' ∧ gt_F r (r + 14) σ0 σ') → ga_G X 0 0 K pc lv [.inl z] σ') (hr0 : r ≠ 0) {T : gt_T} {σ : ga_S} {l1 : Int} {lv : Nat → Option ga_V} (hW : gt_O SX6 6 r T σ) (hF : gt_F r (r + 14) σ0 σ) (hl0 : lv 0 = some (.inr r)) (hl1 : lv 1 = some (.inl l1)) (h : fX6_beginning T l1 = some res) : ga_G X 0 0 K 0 lv [] σ := by
  unfold fX6_beginning at h
  refine ga_iconst C dX6_beginning_0 ⟨by decide, by decide⟩ ?_
  refine ga_istore_n C dX6_beginning_1 rfl (by decide) ?_
  refine ga_aload_n C dX6_beginning_2 rfl (gt_un (by decide) hl0) hr0 ?_
  obtain ⟨q3, hq, h⟩ := Option.bind_eq_some_iff.mp h
  refine gt_cVv (n := 0) (st := []) C (eX6_components X.2.1 D cI cZ K hr0 hW hq) gX6_beginning_X6_components rfl (by decide +kernel) rfl ⟨Nat.le_of_ble_eq_true rfl, Nat.le_of_ble_eq_true rfl⟩ hW.1 rfl rfl (Nat.le_of_ble_eq_true rfl) rfl dX6_beginning_3 (fun σ' hp => ?_)
  obtain ⟨hw, hf⟩ := hp
  have hF := hF.tr hf (Nat.le_refl _) (Nat.le_refl _)
  have hW := hw
  clear hf
  obtain ⟨hg, h⟩ := gt_gd h
  have g11_0 := hg
  refine ga_aload_n C dX6_beginning_6 rfl (gt_un (by decide) hl0) hr0 ?_
  refine gt_geti C (iX6_beginning_X6) hW 13 rfl rfl (by decide) kX6_beginning_72 dX6_beginning_7 ?_
  refine ga_iconst C dX6_beginning_10 ⟨by decide, by decide⟩ ?_
  refine ga_isub C dX6_beginning_11 g11_0 ?_
  refine ga_istore_n C dX6_beginning_12 rfl (by decide) ?_
  exact gX6_beginning_13 C hRet hr0 gt_fuel (q3, l1, (0 : Int), (q3.1 13) - (1 : Int)) _ _ hW hF (gt_un (by decide) (gt_un (by decide) hl0)) (gt_un (by decide) (gt_un (by decide) hl1)) (gt_un (by decide) gt_us) gt_us h
set_option maxHeartbeats 4000000 in
theorem eX6_beginning (l : Launch) (D : va_G) (cI cZ : ClassId) (K : Nat) {r : Nat} (hr0 : r ≠ 0) {σ : ga_S} {T : gt_T} (hW : gt_O SX6 6 r T σ) {l1 : Int} {res : gt_T × Int} (h : fX6_beginning T l1 = some res) : ga_Ev l (D, vwCl, cI, cZ) yX6_beginning wsX6_beginning (gt_rm 4 90) [] 0 0 K [.inr r, .inl l1] σ (fun σ' rv => (gt_O SX6 6 r res.1 σ' ∧ gt_F r (r + 14) σ σ') ∧ rv = some (.inl res.2)) := by
  refine ga_ofI (by decide +kernel) rfl gt_hcl (Nat.le_of_ble_eq_true rfl) (fun X hX C hret => ?_)
  exact gX6_beginning_0 C (fun pc lv σ' z d hz hp => hret pc lv σ' z d ⟨hp, by rw [hz]⟩) hr0 hW gt_F.rf rfl rfl h
-- X6_hang: hang()V
def fX6_hang_107 (k25 : gt_T × Int → Option (gt_T)) (k33 : gt_T × Int × Int → Option (gt_T)) (k45 : gt_T × Int × Int × Int → Option (gt_T)) (T : gt_T) (l1 l2 l3 : Int) : Option (gt_T) :=
  (if (-2147483648 ≤ l3 + (1 : Int) ∧ l3 + (1 : Int) < 2147483648) then k45 (T, l1, l2, l3 + (1 : Int)) else none)
def fX6_hang_45 (k25 : gt_T × Int → Option (gt_T)) (k33 : gt_T × Int × Int → Option (gt_T)) (k45 : gt_T × Int × Int × Int → Option (gt_T)) (a : gt_T × Int × Int × Int) : Option (gt_T) :=
  (if (-2147483648 ≤ (4 : Int) * (a.1.1 5) ∧ (4 : Int) * (a.1.1 5) < 2147483648) then (if ((4 : Int) * (a.1.1 5)) ≤ a.2.2.2 then (if (-2147483648 ≤ a.2.2.1 + (1 : Int) ∧ a.2.2.1 + (1 : Int) < 2147483648) then k33 (a.1, a.2.1, a.2.2.1 + (1 : Int)) else none) else (if (0 ≤ a.2.2.1 ∧ a.2.2.1 < 80) ∧ (0 ≤ a.2.2.2 ∧ a.2.2.2 < 80) then (if (a.1.2 10 a.2.2.1.toNat) = (a.1.2 10 a.2.2.2.toNat) then (if (0 ≤ (Int.tdiv a.2.2.1 (4 : Int)) ∧ (Int.tdiv a.2.2.1 (4 : Int)) < 20) ∧ (0 ≤ (Int.tdiv a.2.2.2 (4 : Int)) ∧ (Int.tdiv a.2.2.2 (4 : Int)) < 20) then (if (a.1.2 18 (Int.tdiv a.2.2.2 (4 : Int)).toNat) ≤ (a.1.2 18 (Int.tdiv a.2.2.1 (4 : Int)).toNat) then fX6_hang_107 k25 k33 k45 a.1 a.2.1 a.2.2.1 a.2.2.2 else (if (0 ≤ (Int.tdiv a.2.2.1 (4 : Int)) ∧ (Int.tdiv a.2.2.1 (4 : Int)) < 20) ∧ (0 ≤ (Int.tdiv a.2.2.2 (4 : Int)) ∧ (Int.tdiv a.2.2.2 (4 : Int)) < 20) then fX6_hang_107 k25 k33 k45 (a.1.1, (va_up a.1.2 18 (va_up (a.1.2 18) (Int.tdiv a.2.2.2 (4 : Int)).toNat (a.1.2 18 (Int.tdiv a.2.2.1 (4 : Int)).toNat)))) (1 : Int) a.2.2.1 a.2.2.2 else none)) else none) else fX6_hang_107 k25 k33 k45 a.1 a.2.1 a.2.2.1 a.2.2.2) else none)) else none)
def fX6_hang_33 (k25 : gt_T × Int → Option (gt_T)) (k33 : gt_T × Int × Int → Option (gt_T)) (a : gt_T × Int × Int) : Option (gt_T) :=
  (if (-2147483648 ≤ (4 : Int) * (a.1.1 5) ∧ (4 : Int) * (a.1.1 5) < 2147483648) then (if ((4 : Int) * (a.1.1 5)) ≤ a.2.2 then k25 (a.1, a.2.1) else gt_loop (fX6_hang_45 k25 k33) gt_fuel (a.1, a.2.1, a.2.2, (0 : Int))) else none)
def fX6_hang_25 (k25 : gt_T × Int → Option (gt_T)) (a : gt_T × Int) : Option (gt_T) :=
  (if a.2 = 0 then some a.1 else gt_loop (fX6_hang_33 k25) gt_fuel (a.1, (0 : Int), (0 : Int)))
def fX6_hang_2 (k2 : gt_T × Int → Option (gt_T)) (a : gt_T × Int) : Option (gt_T) :=
  (if (a.1.1 5) ≤ a.2 then gt_loop (fX6_hang_25) gt_fuel (a.1, (1 : Int)) else (if (0 ≤ a.2 ∧ a.2 < 20) ∧ (-2147483648 ≤ a.2 + (1 : Int) ∧ a.2 + (1 : Int) < 2147483648) then k2 ((a.1.1, (va_up a.1.2 18 (va_up (a.1.2 18) a.2.toNat a.2))), a.2 + (1 : Int)) else none))
def fX6_hang (T : gt_T) : Option (gt_T) :=
  gt_loop (fX6_hang_2) gt_fuel (T, (0 : Int))
theorem iX6_hang_X6 : ∀ w ∈ u_ws RX6 TX6 23, w ∈ wsX6_hang := by decide +kernel
theorem kX6_hang_23 : Cond.fieldLink yX6_hang.cls 23 (TX6 10).1 (TX6 10).2.1 (TX6 10).2.2.1 ∈ wsX6_hang := by decide +kernel
theorem kX6_hang_45 : Cond.fieldLink yX6_hang.cls 45 (TX6 18).1 (TX6 18).2.1 (TX6 18).2.2.1 ∈ wsX6_hang := by decide +kernel
theorem kX6_hang_57 : Cond.fieldLink yX6_hang.cls 57 (TX6 5).1 (TX6 5).2.1 (TX6 5).2.2.1 ∈ wsX6_hang := by decide +kernel
set_option maxHeartbeats 4000000 in
theorem gX6_hang_107 {X : ga_X} {D : va_G} {cI cZ : ClassId} {K : Nat} {r : Nat} {σ0 : ga_S} {res : gt_T} {k25 : gt_T × Int → Option (gt_T)} {k33 : gt_T × Int × Int → Option (gt_T)} {k45 : gt_T × Int × Int × Int → Option (gt_T)} (C : ga_C X cX6_hang yX6_hang wsX6_hang [] (gt_rm 0 0) (D, vwCl, cI, cZ) 4) (hRet : ∀ (pc : Nat) (lv : Nat → Option ga_V) (σ' : ga_S), decode cX6_hang pc = .ok (.return_, 1) → (gt_O SX6 6 r res σ' ∧ gt_F r (r + 14) σ0 σ') → ga_G X 0 0 K pc lv [] σ') (hr0 : r ≠ 0) (hk25 : ∀ (a : gt_T × Int) (σ : ga_S) (lv : Nat → Option ga_V), gt_O SX6 6 r a.1 σ → gt_F r (r + 14) σ0 σ → lv 0 = some (.inr r) → lv 1 = some (.inl a.2) → k25 a = some res → ga_G X 0 0 K 25 lv [] σ) (hk33 : ∀ (a : gt_T × Int × Int) (σ : ga_S) (lv : Nat → Option ga_V), gt_O SX6 6 r a.1 σ → gt_F r (r + 14) σ0 σ → lv 0 = some (.inr r) → lv 1 = some (.inl a.2.1) → lv 2 = some (.inl a.2.2) → k33 a = some res → ga_G X 0 0 K 33 lv [] σ) (hk45 : ∀ (a : gt_T × Int × Int × Int) (σ : ga_S) (lv : Nat → Option ga_V), gt_O SX6 6 r a.1 σ → gt_F r (r + 14) σ0 σ → lv 0 = some (.inr r) → lv 1 = some (.inl a.2.1) → lv 2 = some (.inl a.2.2.1) → lv 3 = some (.inl a.2.2.2) → k45 a = some res → ga_G X 0 0 K 45 lv [] σ) {T : gt_T} {σ : ga_S} {l1 l2 l3 : Int} {lv : Nat → Option ga_V} (hW : gt_O SX6 6 r T σ) (hF : gt_F r (r + 14) σ0 σ) (hl0 : lv 0 = some (.inr r)) (hl1 : lv 1 = some (.inl l1)) (hl2 : lv 2 = some (.inl l2)) (hl3 : lv 3 = some (.inl l3)) (h : fX6_hang_107 k25 k33 k45 T l1 l2 l3 = some res) : ga_G X 0 0 K 107 lv [] σ := by
  unfold fX6_hang_107 at h
  obtain ⟨hg, h⟩ := gt_gd h
  have g107_0 := hg
  refine ga_iinc C dX6_hang_107 hl3 g107_0 ?_
  refine ga_goto (tgt := 45) C dX6_hang_110 (by decide) ?_
  exact hk45 (T, l1, l2, l3 + (1 : Int)) _ _ hW hF (gt_un (by decide) hl0) (gt_un (by decide) hl1) (gt_un (by decide) hl2) gt_us h
set_option maxHeartbeats 4000000 in
theorem gX6_hang_45 {X : ga_X} {D : va_G} {cI cZ : ClassId} {K : Nat} {r : Nat} {σ0 : ga_S} {res : gt_T} {k25 : gt_T × Int → Option (gt_T)} {k33 : gt_T × Int × Int → Option (gt_T)} (C : ga_C X cX6_hang yX6_hang wsX6_hang [] (gt_rm 0 0) (D, vwCl, cI, cZ) 4) (hRet : ∀ (pc : Nat) (lv : Nat → Option ga_V) (σ' : ga_S), decode cX6_hang pc = .ok (.return_, 1) → (gt_O SX6 6 r res σ' ∧ gt_F r (r + 14) σ0 σ') → ga_G X 0 0 K pc lv [] σ') (hr0 : r ≠ 0) (hk25 : ∀ (a : gt_T × Int) (σ : ga_S) (lv : Nat → Option ga_V), gt_O SX6 6 r a.1 σ → gt_F r (r + 14) σ0 σ → lv 0 = some (.inr r) → lv 1 = some (.inl a.2) → k25 a = some res → ga_G X 0 0 K 25 lv [] σ) (hk33 : ∀ (a : gt_T × Int × Int) (σ : ga_S) (lv : Nat → Option ga_V), gt_O SX6 6 r a.1 σ → gt_F r (r + 14) σ0 σ → lv 0 = some (.inr r) → lv 1 = some (.inl a.2.1) → lv 2 = some (.inl a.2.2) → k33 a = some res → ga_G X 0 0 K 33 lv [] σ) : ∀ (n : Nat) (a : gt_T × Int × Int × Int) (σ : ga_S) (lv : Nat → Option ga_V), gt_O SX6 6 r a.1 σ → gt_F r (r + 14) σ0 σ → lv 0 = some (.inr r) → lv 1 = some (.inl a.2.1) → lv 2 = some (.inl a.2.2.1) → lv 3 = some (.inl a.2.2.2) → gt_loop (fX6_hang_45 k25 k33) n a = some res → ga_G X 0 0 K 45 lv [] σ := by
  intro n
  induction n with
  | zero =>
    intro a _ lv _ _ _ _ _ _ h
    exact absurd (show (none : Option _) = some _ from h) (fun q => by cases q)
  | succ n hk45 =>
    intro a σ lv hW hF hl0 hl1 hl2 hl3 h
    have h : fX6_hang_45 k25 k33 (gt_loop (fX6_hang_45 k25 k33) n) a = some res := h
    revert hk45 h
    generalize gt_loop (fX6_hang_45 k25 k33) n = k45
    intro hk45 h
    unfold fX6_hang_45 at h
    obtain ⟨hg, h⟩ := gt_gd h
    have g51_0 := hg
    refine ga_iload_n C dX6_hang_45 rfl hl3 ?_
    refine ga_iconst C dX6_hang_46 ⟨by decide, by decide⟩ ?_
    refine ga_aload_n C dX6_hang_47 rfl hl0 hr0 ?_
    refine gt_geti C (iX6_hang_X6) hW 5 rfl rfl (by decide) kX6_hang_57 dX6_hang_48 ?_
    refine ga_imul C dX6_hang_51 g51_0 ?_
    refine ga_icmp_ge (tgt := 113) C dX6_hang_52 (by decide) (fun c1 => ?_) (fun c1 => ?_)
    · have h := gt_ip h c1
      obtain ⟨hg, h⟩ := gt_gd h
      have g113_0 := hg
      refine ga_iinc C dX6_hang_113 hl2 g113_0 ?_
      refine ga_goto (tgt := 33) C dX6_hang_116 (by decide) ?_
      exact hk33 (a.1, a.2.1, a.2.2.1 + (1 : Int)) _ _ hW hF (gt_un (by decide) hl0) (gt_un (by decide) hl1) gt_us h
    · have h := gt_in h c1
      obtain ⟨hg, h⟩ := gt_gd h
      obtain ⟨g60_0, g66_1⟩ := hg
      refine ga_aload_n C dX6_hang_55 rfl hl0 hr0 ?_
      refine gt_geta C (iX6_hang_X6) hW 10 rfl rfl (by decide) kX6_hang_23 dX6_hang_56 ?_
      refine ga_iload_n C dX6_hang_59 rfl hl2 ?_
      refine gt_iald C hW 10 rfl g60_0.1 g60_0.2 dX6_hang_60 ?_
      refine ga_aload_n C dX6_hang_61 rfl hl0 hr0 ?_
      refine gt_geta C (iX6_hang_X6) hW 10 rfl rfl (by decide) kX6_hang_23 dX6_hang_62 ?_
      refine ga_iload_n C dX6_hang_65 rfl hl3 ?_
      refine gt_iald C hW 10 rfl g66_1.1 g66_1.2 dX6_hang_66 ?_
      refine ga_icmp_ne (tgt := 107) C dX6_hang_67 (by decide) (fun c1 => ?_) (fun c1 => ?_)
      · have h := gt_in h c1
        exact gX6_hang_107 C hRet hr0 hk25 hk33 hk45 hW hF hl0 hl1 hl2 hl3 h
      · have h := gt_ip h c1
        obtain ⟨hg, h⟩ := gt_gd h
        obtain ⟨g77_0, g85_1⟩ := hg
        refine ga_aload_n C dX6_hang_70 rfl hl0 hr0 ?_
        refine gt_geta C (iX6_hang_X6) hW 18 rfl rfl (by decide) kX6_hang_45 dX6_hang_71 ?_
        refine ga_iload_n C dX6_hang_74 rfl hl2 ?_
        refine ga_iconst C dX6_hang_75 ⟨by decide, by decide⟩ ?_
        refine ga_idiv C dX6_hang_76 (by decide) ?_
        refine gt_iald C hW 18 rfl g77_0.1 g77_0.2 dX6_hang_77 ?_
        refine ga_aload_n C dX6_hang_78 rfl hl0 hr0 ?_
        refine gt_geta C (iX6_hang_X6) hW 18 rfl rfl (by decide) kX6_hang_45 dX6_hang_79 ?_
        refine ga_iload_n C dX6_hang_82 rfl hl3 ?_
        refine ga_iconst C dX6_hang_83 ⟨by decide, by decide⟩ ?_
        refine ga_idiv C dX6_hang_84 (by decide) ?_
        refine gt_iald C hW 18 rfl g85_1.1 g85_1.2 dX6_hang_85 ?_
        refine ga_icmp_ge (tgt := 107) C dX6_hang_86 (by decide) (fun c1 => ?_) (fun c1 => ?_)
        · have h := gt_ip h c1
          exact gX6_hang_107 C hRet hr0 hk25 hk33 hk45 hW hF hl0 hl1 hl2 hl3 h
        · have h := gt_in h c1
          obtain ⟨hg, h⟩ := gt_gd h
          obtain ⟨g103_0, g104_1⟩ := hg
          refine ga_aload_n C dX6_hang_89 rfl hl0 hr0 ?_
          refine gt_geta C (iX6_hang_X6) hW 18 rfl rfl (by decide) kX6_hang_45 dX6_hang_90 ?_
          refine ga_iload_n C dX6_hang_93 rfl hl3 ?_
          refine ga_iconst C dX6_hang_94 ⟨by decide, by decide⟩ ?_
          refine ga_idiv C dX6_hang_95 (by decide) ?_
          refine ga_aload_n C dX6_hang_96 rfl hl0 hr0 ?_
          refine gt_geta C (iX6_hang_X6) hW 18 rfl rfl (by decide) kX6_hang_45 dX6_hang_97 ?_
          refine ga_iload_n C dX6_hang_100 rfl hl2 ?_
          refine ga_iconst C dX6_hang_101 ⟨by decide, by decide⟩ ?_
          refine ga_idiv C dX6_hang_102 (by decide) ?_
          refine gt_iald C hW 18 rfl g103_0.1 g103_0.2 dX6_hang_103 ?_
          refine gt_iast C okX6 hW hF ⟨Nat.le_refl _, Nat.le_refl _⟩ 18 rfl g104_1.1 g104_1.2 dX6_hang_104 (fun σ hW hF hf => ?_)
          refine ga_iconst C dX6_hang_105 ⟨by decide, by decide⟩ ?_
          refine ga_istore_n C dX6_hang_106 rfl (by decide) ?_
          exact gX6_hang_107 C hRet hr0 hk25 hk33 hk45 hW hF (gt_un (by decide) hl0) gt_us (gt_un (by decide) hl2) (gt_un (by decide) hl3) h
set_option maxHeartbeats 4000000 in
theorem gX6_hang_33 {X : ga_X} {D : va_G} {cI cZ : ClassId} {K : Nat} {r : Nat} {σ0 : ga_S} {res : gt_T} {k25 : gt_T × Int → Option (gt_T)} (C : ga_C X cX6_hang yX6_hang wsX6_hang [] (gt_rm 0 0) (D, vwCl, cI, cZ) 4) (hRet : ∀ (pc : Nat) (lv : Nat → Option ga_V) (σ' : ga_S), decode cX6_hang pc = .ok (.return_, 1) → (gt_O SX6 6 r res σ' ∧ gt_F r (r + 14) σ0 σ') → ga_G X 0 0 K pc lv [] σ') (hr0 : r ≠ 0) (hk25 : ∀ (a : gt_T × Int) (σ : ga_S) (lv : Nat → Option ga_V), gt_O SX6 6 r a.1 σ → gt_F r (r + 14) σ0 σ → lv 0 = some (.inr r) → lv 1 = some (.inl a.2) → k25 a = some res → ga_G X 0 0 K 25 lv [] σ) : ∀ (n : Nat) (a : gt_T × Int × Int) (σ : ga_S) (lv : Nat → Option ga_V), gt_O SX6 6 r a.1 σ → gt_F r (r + 14) σ0 σ → lv 0 = some (.inr r) → lv 1 = some (.inl a.2.1) → lv 2 = some (.inl a.2.2) → gt_loop (fX6_hang_33 k25) n a = some res → ga_G X 0 0 K 33 lv [] σ := by
  intro n
  induction n with
  | zero =>
    intro a _ lv _ _ _ _ _ h
    exact absurd (show (none : Option _) = some _ from h) (fun q => by cases q)
  | succ n hk33 =>
    intro a σ lv hW hF hl0 hl1 hl2 h
    have h : fX6_hang_33 k25 (gt_loop (fX6_hang_33 k25) n) a = some res := h
    revert hk33 h
    generalize gt_loop (fX6_hang_33 k25) n = k33
    intro hk33 h
    unfold fX6_hang_33 at h
    obtain ⟨hg, h⟩ := gt_gd h
    have g39_0 := hg
    refine ga_iload_n C dX6_hang_33 rfl hl2 ?_
    refine ga_iconst C dX6_hang_34 ⟨by decide, by decide⟩ ?_
    refine ga_aload_n C dX6_hang_35 rfl hl0 hr0 ?_
    refine gt_geti C (iX6_hang_X6) hW 5 rfl rfl (by decide) kX6_hang_57 dX6_hang_36 ?_
    refine ga_imul C dX6_hang_39 g39_0 ?_
    refine ga_icmp_ge (tgt := 119) C dX6_hang_40 (by decide) (fun c1 => ?_) (fun c1 => ?_)
    · have h := gt_ip h c1
      refine ga_goto (tgt := 25) C dX6_hang_119 (by decide) ?_
      exact hk25 (a.1, a.2.1) _ _ hW hF hl0 hl1 h
    · have h := gt_in h c1
      refine ga_iconst C dX6_hang_43 ⟨by decide, by decide⟩ ?_
      refine ga_istore_n C dX6_hang_44 rfl (by decide) ?_
      exact gX6_hang_45 C hRet hr0 hk25 hk33 gt_fuel (a.1, a.2.1, a.2.2, (0 : Int)) _ _ hW hF (gt_un (by decide) hl0) (gt_un (by decide) hl1) (gt_un (by decide) hl2) gt_us h
set_option maxHeartbeats 4000000 in
theorem gX6_hang_25 {X : ga_X} {D : va_G} {cI cZ : ClassId} {K : Nat} {r : Nat} {σ0 : ga_S} {res : gt_T} (C : ga_C X cX6_hang yX6_hang wsX6_hang [] (gt_rm 0 0) (D, vwCl, cI, cZ) 4) (hRet : ∀ (pc : Nat) (lv : Nat → Option ga_V) (σ' : ga_S), decode cX6_hang pc = .ok (.return_, 1) → (gt_O SX6 6 r res σ' ∧ gt_F r (r + 14) σ0 σ') → ga_G X 0 0 K pc lv [] σ') (hr0 : r ≠ 0) : ∀ (n : Nat) (a : gt_T × Int) (σ : ga_S) (lv : Nat → Option ga_V), gt_O SX6 6 r a.1 σ → gt_F r (r + 14) σ0 σ → lv 0 = some (.inr r) → lv 1 = some (.inl a.2) → gt_loop (fX6_hang_25) n a = some res → ga_G X 0 0 K 25 lv [] σ := by
  intro n
  induction n with
  | zero =>
    intro a _ lv _ _ _ _ h
    exact absurd (show (none : Option _) = some _ from h) (fun q => by cases q)
  | succ n hk25 =>
    intro a σ lv hW hF hl0 hl1 h
    have h : fX6_hang_25 (gt_loop (fX6_hang_25) n) a = some res := h
    revert hk25 h
    generalize gt_loop (fX6_hang_25) n = k25
    intro hk25 h
    unfold fX6_hang_25 at h
    refine ga_iload_n C dX6_hang_25 rfl hl1 ?_
    refine ga_if_eq (tgt := 122) C dX6_hang_26 (by decide) (fun c1 => ?_) (fun c1 => ?_)
    · have h := gt_ip h c1
      cases h
      exact hRet _ _ _ dX6_hang_122 ⟨hW, hF⟩
    · have h := gt_in h c1
      refine ga_iconst C dX6_hang_29 ⟨by decide, by decide⟩ ?_
      refine ga_istore_n C dX6_hang_30 rfl (by decide) ?_
      refine ga_iconst C dX6_hang_31 ⟨by decide, by decide⟩ ?_
      refine ga_istore_n C dX6_hang_32 rfl (by decide) ?_
      exact gX6_hang_33 C hRet hr0 hk25 gt_fuel (a.1, (0 : Int), (0 : Int)) _ _ hW hF (gt_un (by decide) (gt_un (by decide) hl0)) (gt_un (by decide) gt_us) gt_us h
set_option maxHeartbeats 4000000 in
theorem gX6_hang_2 {X : ga_X} {D : va_G} {cI cZ : ClassId} {K : Nat} {r : Nat} {σ0 : ga_S} {res : gt_T} (C : ga_C X cX6_hang yX6_hang wsX6_hang [] (gt_rm 0 0) (D, vwCl, cI, cZ) 4) (hRet : ∀ (pc : Nat) (lv : Nat → Option ga_V) (σ' : ga_S), decode cX6_hang pc = .ok (.return_, 1) → (gt_O SX6 6 r res σ' ∧ gt_F r (r + 14) σ0 σ') → ga_G X 0 0 K pc lv [] σ') (hr0 : r ≠ 0) : ∀ (n : Nat) (a : gt_T × Int) (σ : ga_S) (lv : Nat → Option ga_V), gt_O SX6 6 r a.1 σ → gt_F r (r + 14) σ0 σ → lv 0 = some (.inr r) → lv 1 = some (.inl a.2) → gt_loop (fX6_hang_2) n a = some res → ga_G X 0 0 K 2 lv [] σ := by
  intro n
  induction n with
  | zero =>
    intro a _ lv _ _ _ _ h
    exact absurd (show (none : Option _) = some _ from h) (fun q => by cases q)
  | succ n hk2 =>
    intro a σ lv hW hF hl0 hl1 h
    have h : fX6_hang_2 (gt_loop (fX6_hang_2) n) a = some res := h
    revert hk2 h
    generalize gt_loop (fX6_hang_2) n = k2
    intro hk2 h
    unfold fX6_hang_2 at h
    refine ga_iload_n C dX6_hang_2 rfl hl1 ?_
    refine ga_aload_n C dX6_hang_3 rfl hl0 hr0 ?_
    refine gt_geti C (iX6_hang_X6) hW 5 rfl rfl (by decide) kX6_hang_57 dX6_hang_4 ?_
    refine ga_icmp_ge (tgt := 23) C dX6_hang_7 (by decide) (fun c1 => ?_) (fun c1 => ?_)
    · have h := gt_ip h c1
      refine ga_iconst C dX6_hang_23 ⟨by decide, by decide⟩ ?_
      refine ga_istore_n C dX6_hang_24 rfl (by decide) ?_
      exact gX6_hang_25 C hRet hr0 gt_fuel (a.1, (1 : Int)) _ _ hW hF (gt_un (by decide) hl0) gt_us h
    · have h := gt_in h c1
      obtain ⟨hg, h⟩ := gt_gd h
      obtain ⟨g16_0, g17_1⟩ := hg
      refine ga_aload_n C dX6_hang_10 rfl hl0 hr0 ?_
      refine gt_geta C (iX6_hang_X6) hW 18 rfl rfl (by decide) kX6_hang_45 dX6_hang_11 ?_
      refine ga_iload_n C dX6_hang_14 rfl hl1 ?_
      refine ga_iload_n C dX6_hang_15 rfl hl1 ?_
      refine gt_iast C okX6 hW hF ⟨Nat.le_refl _, Nat.le_refl _⟩ 18 rfl g16_0.1 g16_0.2 dX6_hang_16 (fun σ hW hF hf => ?_)
      refine ga_iinc C dX6_hang_17 hl1 g17_1 ?_
      refine ga_goto (tgt := 2) C dX6_hang_20 (by decide) ?_
      exact hk2 ((a.1.1, (va_up a.1.2 18 (va_up (a.1.2 18) a.2.toNat a.2))), a.2 + (1 : Int)) _ _ hW hF (gt_un (by decide) hl0) gt_us h
set_option maxHeartbeats 4000000 in
theorem gX6_hang_0 {X : ga_X} {D : va_G} {cI cZ : ClassId} {K : Nat} {r : Nat} {σ0 : ga_S} {res : gt_T} (C : ga_C X cX6_hang yX6_hang wsX6_hang [] (gt_rm 0 0) (D, vwCl, cI, cZ) 4) (hRet : ∀ (pc : Nat) (lv : Nat → Option ga_V) (σ' : ga_S), decode cX6_hang pc = .ok (.return_, 1) → (gt_O SX6 6 r res σ' ∧ gt_F r (r + 14) σ0 σ') → ga_G X 0 0 K pc lv [] σ') (hr0 : r ≠ 0) {T : gt_T} {σ : ga_S} {lv : Nat → Option ga_V} (hW : gt_O SX6 6 r T σ) (hF : gt_F r (r + 14) σ0 σ) (hl0 : lv 0 = some (.inr r)) (h : fX6_hang T = some res) : ga_G X 0 0 K 0 lv [] σ := by
  unfold fX6_hang at h
  refine ga_iconst C dX6_hang_0 ⟨by decide, by decide⟩ ?_
  refine ga_istore_n C dX6_hang_1 rfl (by decide) ?_
  exact gX6_hang_2 C hRet hr0 gt_fuel (T, (0 : Int)) _ _ hW hF (gt_un (by decide) hl0) gt_us h
set_option maxHeartbeats 4000000 in
theorem eX6_hang (l : Launch) (D : va_G) (cI cZ : ClassId) (K : Nat) {r : Nat} (hr0 : r ≠ 0) {σ : ga_S} {T : gt_T} (hW : gt_O SX6 6 r T σ) {res : gt_T} (h : fX6_hang T = some res) : ga_Ev l (D, vwCl, cI, cZ) yX6_hang wsX6_hang (gt_rm 0 0) [] 0 0 K [.inr r] σ (fun σ' rv => (gt_O SX6 6 r res σ' ∧ gt_F r (r + 14) σ σ') ∧ rv = none) := by
  refine ga_ofV (by decide +kernel) rfl gt_hcl (Nat.le_of_ble_eq_true rfl) (fun X hX C hret => ?_)
  exact gX6_hang_0 C (fun pc lv σ' d hp => hret pc lv σ' d ⟨hp, rfl⟩) hr0 hW gt_F.rf rfl h
-- X6_pieceOf: pieceOf(I)I
def fX6_pieceOf_34 (k8 : gt_T × Int × Int × Int → Option (gt_T × Int)) (T : gt_T) (l1 l3 s0 s1 : Int) : Option (gt_T × Int) :=
  (if (-2147483648 ≤ s0 + s1 ∧ s0 + s1 < 2147483648) ∧ (-2147483648 ≤ l3 + (1 : Int) ∧ l3 + (1 : Int) < 2147483648) then k8 (T, l1, s0 + s1, l3 + (1 : Int)) else none)
def fX6_pieceOf_8 (k8 : gt_T × Int × Int × Int → Option (gt_T × Int)) (a : gt_T × Int × Int × Int) : Option (gt_T × Int) :=
  (if (0 ≤ a.2.1 ∧ a.2.1 < 20) then (if (a.1.2 18 a.2.1.toNat) ≤ a.2.2.2 then some (a.1, a.2.2.1) else (if (0 ≤ a.2.2.2 ∧ a.2.2.2 < 20) then (if (a.1.2 18 a.2.2.2.toNat) = a.2.2.2 then fX6_pieceOf_34 k8 a.1 a.2.1 a.2.2.2 a.2.2.1 (1 : Int) else fX6_pieceOf_34 k8 a.1 a.2.1 a.2.2.2 a.2.2.1 (0 : Int)) else none)) else none)
def fX6_pieceOf (T : gt_T) (l1 : Int) : Option (gt_T × Int) :=
  (fX6_hang T).bind (fun (q1 : gt_T) => gt_loop (fX6_pieceOf_8) gt_fuel (q1, l1, (0 : Int), (0 : Int)))
theorem iX6_pieceOf_X6 : ∀ w ∈ u_ws RX6 TX6 23, w ∈ wsX6_pieceOf := by decide +kernel
theorem kX6_pieceOf_45 : Cond.fieldLink yX6_pieceOf.cls 45 (TX6 18).1 (TX6 18).2.1 (TX6 18).2.2.1 ∈ wsX6_pieceOf := by decide +kernel
set_option maxHeartbeats 4000000 in
theorem gX6_pieceOf_34 {X : ga_X} {D : va_G} {cI cZ : ClassId} {K : Nat} {r : Nat} {σ0 : ga_S} {res : gt_T × Int} {k8 : gt_T × Int × Int × Int → Option (gt_T × Int)} (C : ga_C X cX6_pieceOf yX6_pieceOf wsX6_pieceOf [] (gt_rm 1 23) (D, vwCl, cI, cZ) 4) (hRet : ∀ (pc : Nat) (lv : Nat → Option ga_V) (σ' : ga_S) (z : Int), decode cX6_pieceOf pc = .ok (.ireturn, 1) → z = res.2 → (gt_O SX6 6 r res.1 σ' ∧ gt_F r (r + 14) σ0 σ') → ga_G X 0 0 K pc lv [.inl z] σ') (hr0 : r ≠ 0) (hk8 : ∀ (a : gt_T × Int × Int × Int) (σ : ga_S) (lv : Nat → Option ga_V), gt_O SX6 6 r a.1 σ → gt_F r (r + 14) σ0 σ → lv 0 = some (.inr r) → lv 1 = some (.inl a.2.1) → lv 2 = some (.inl a.2.2.1) → lv 3 = some (.inl a.2.2.2) → k8 a = some res → ga_G X 0 0 K 8 lv [] σ) {T : gt_T} {σ : ga_S} {l1 l3 s0 s1 : Int} {lv : Nat → Option ga_V} (hW : gt_O SX6 6 r T σ) (hF : gt_F r (r + 14) σ0 σ) (hl0 : lv 0 = some (.inr r)) (hl1 : lv 1 = some (.inl l1)) (hl3 : lv 3 = some (.inl l3)) (h : fX6_pieceOf_34 k8 T l1 l3 s0 s1 = some res) : ga_G X 0 0 K 34 lv [.inl s1, .inl s0] σ := by
  unfold fX6_pieceOf_34 at h
  obtain ⟨hg, h⟩ := gt_gd h
  obtain ⟨g34_0, g36_1⟩ := hg
  refine ga_iadd C dX6_pieceOf_34 g34_0 ?_
  refine ga_istore_n C dX6_pieceOf_35 rfl (by decide) ?_
  refine ga_iinc C dX6_pieceOf_36 (gt_un (by decide) hl3) g36_1 ?_
  refine ga_goto (tgt := 8) C dX6_pieceOf_39 (by decide) ?_
  exact hk8 (T, l1, s0 + s1, l3 + (1 : Int)) _ _ hW hF (gt_un (by decide) (gt_un (by decide) hl0)) (gt_un (by decide) (gt_un (by decide) hl1)) (gt_un (by decide) gt_us) gt_us h
set_option maxHeartbeats 4000000 in
theorem gX6_pieceOf_8 {X : ga_X} {D : va_G} {cI cZ : ClassId} {K : Nat} {r : Nat} {σ0 : ga_S} {res : gt_T × Int} (C : ga_C X cX6_pieceOf yX6_pieceOf wsX6_pieceOf [] (gt_rm 1 23) (D, vwCl, cI, cZ) 4) (hRet : ∀ (pc : Nat) (lv : Nat → Option ga_V) (σ' : ga_S) (z : Int), decode cX6_pieceOf pc = .ok (.ireturn, 1) → z = res.2 → (gt_O SX6 6 r res.1 σ' ∧ gt_F r (r + 14) σ0 σ') → ga_G X 0 0 K pc lv [.inl z] σ') (hr0 : r ≠ 0) : ∀ (n : Nat) (a : gt_T × Int × Int × Int) (σ : ga_S) (lv : Nat → Option ga_V), gt_O SX6 6 r a.1 σ → gt_F r (r + 14) σ0 σ → lv 0 = some (.inr r) → lv 1 = some (.inl a.2.1) → lv 2 = some (.inl a.2.2.1) → lv 3 = some (.inl a.2.2.2) → gt_loop (fX6_pieceOf_8) n a = some res → ga_G X 0 0 K 8 lv [] σ := by
  intro n
  induction n with
  | zero =>
    intro a _ lv _ _ _ _ _ _ h
    exact absurd (show (none : Option _) = some _ from h) (fun q => by cases q)
  | succ n hk8 =>
    intro a σ lv hW hF hl0 hl1 hl2 hl3 h
    have h : fX6_pieceOf_8 (gt_loop (fX6_pieceOf_8) n) a = some res := h
    revert hk8 h
    generalize gt_loop (fX6_pieceOf_8) n = k8
    intro hk8 h
    unfold fX6_pieceOf_8 at h
    obtain ⟨hg, h⟩ := gt_gd h
    have g14_0 := hg
    refine ga_iload_n C dX6_pieceOf_8 rfl hl3 ?_
    refine ga_aload_n C dX6_pieceOf_9 rfl hl0 hr0 ?_
    refine gt_geta C (iX6_pieceOf_X6) hW 18 rfl rfl (by decide) kX6_pieceOf_45 dX6_pieceOf_10 ?_
    refine ga_iload_n C dX6_pieceOf_13 rfl hl1 ?_
    refine gt_iald C hW 18 rfl g14_0.1 g14_0.2 dX6_pieceOf_14 ?_
    refine ga_icmp_ge (tgt := 42) C dX6_pieceOf_15 (by decide) (fun c1 => ?_) (fun c1 => ?_)
    · have h := gt_ip h c1
      refine ga_iload_n C dX6_pieceOf_42 rfl hl2 ?_
      cases h
      exact hRet _ _ _ _ dX6_pieceOf_43 rfl ⟨hW, hF⟩
    · have h := gt_in h c1
      obtain ⟨hg, h⟩ := gt_gd h
      have g24_0 := hg
      refine ga_iload_n C dX6_pieceOf_18 rfl hl2 ?_
      refine ga_aload_n C dX6_pieceOf_19 rfl hl0 hr0 ?_
      refine gt_geta C (iX6_pieceOf_X6) hW 18 rfl rfl (by decide) kX6_pieceOf_45 dX6_pieceOf_20 ?_
      refine ga_iload_n C dX6_pieceOf_23 rfl hl3 ?_
      refine gt_iald C hW 18 rfl g24_0.1 g24_0.2 dX6_pieceOf_24 ?_
      refine ga_iload_n C dX6_pieceOf_25 rfl hl3 ?_
      refine ga_icmp_ne (tgt := 33) C dX6_pieceOf_26 (by decide) (fun c1 => ?_) (fun c1 => ?_)
      · have h := gt_in h c1
        refine ga_iconst C dX6_pieceOf_33 ⟨by decide, by decide⟩ ?_
        exact gX6_pieceOf_34 C hRet hr0 hk8 hW hF hl0 hl1 hl3 h
      · have h := gt_ip h c1
        refine ga_iconst C dX6_pieceOf_29 ⟨by decide, by decide⟩ ?_
        refine ga_goto (tgt := 34) C dX6_pieceOf_30 (by decide) ?_
        exact gX6_pieceOf_34 C hRet hr0 hk8 hW hF hl0 hl1 hl3 h
set_option maxHeartbeats 4000000 in
theorem gX6_pieceOf_0 {X : ga_X} {D : va_G} {cI cZ : ClassId} {K : Nat} {r : Nat} {σ0 : ga_S} {res : gt_T × Int} (C : ga_C X cX6_pieceOf yX6_pieceOf wsX6_pieceOf [] (gt_rm 1 23) (D, vwCl, cI, cZ) 4) (hRet : ∀ (pc : Nat) (lv : Nat → Option ga_V) (σ' : ga_S) (z : Int), decode cX6_pieceOf pc = .ok (.ireturn, 1) → z = res.2 → (gt_O SX6 6 r res.1 σ' ∧ gt_F r (r + 14) σ0 σ') → ga_G X 0 0 K pc lv [.inl z] σ') (hr0 : r ≠ 0) {T : gt_T} {σ : ga_S} {l1 : Int} {lv : Nat → Option ga_V} (hW : gt_O SX6 6 r T σ) (hF : gt_F r (r + 14) σ0 σ) (hl0 : lv 0 = some (.inr r)) (hl1 : lv 1 = some (.inl l1)) (h : fX6_pieceOf T l1 = some res) : ga_G X 0 0 K 0 lv [] σ := by
  unfold fX6_pieceOf at h
  refine ga_aload_n C dX6_pieceOf_0 rfl hl0 hr0 ?_
  obtain ⟨q1, hq, h⟩ := Option.bind_eq_some_iff.mp h
  refine gt_cVv (n := 0) (st := []) C (eX6_hang X.2.1 D cI cZ K hr0 hW hq) gX6_pieceOf_X6_hang rfl (by decide +kernel) rfl ⟨Nat.le_of_ble_eq_true rfl, Nat.le_of_ble_eq_true rfl⟩ hW.1 rfl rfl (Nat.le_of_ble_eq_true rfl) rfl dX6_pieceOf_1 (fun σ' hp => ?_)
  obtain ⟨hw, hf⟩ := hp
  have hF := hF.tr hf (Nat.le_refl _) (Nat.le_refl _)
  have hW := hw
  clear hf
  refine ga_iconst C dX6_pieceOf_4 ⟨by decide, by decide⟩ ?_
  refine ga_istore_n C dX6_pieceOf_5 rfl (by decide) ?_
  refine ga_iconst C dX6_pieceOf_6 ⟨by decide, by decide⟩ ?_
  refine ga_istore_n C dX6_pieceOf_7 rfl (by decide) ?_
  exact gX6_pieceOf_8 C hRet hr0 gt_fuel (q1, l1, (0 : Int), (0 : Int)) _ _ hW hF (gt_un (by decide) (gt_un (by decide) hl0)) (gt_un (by decide) (gt_un (by decide) hl1)) (gt_un (by decide) gt_us) gt_us h
set_option maxHeartbeats 4000000 in
theorem eX6_pieceOf (l : Launch) (D : va_G) (cI cZ : ClassId) (K : Nat) {r : Nat} (hr0 : r ≠ 0) {σ : ga_S} {T : gt_T} (hW : gt_O SX6 6 r T σ) {l1 : Int} {res : gt_T × Int} (h : fX6_pieceOf T l1 = some res) : ga_Ev l (D, vwCl, cI, cZ) yX6_pieceOf wsX6_pieceOf (gt_rm 1 23) [] 0 0 K [.inr r, .inl l1] σ (fun σ' rv => (gt_O SX6 6 r res.1 σ' ∧ gt_F r (r + 14) σ σ') ∧ rv = some (.inl res.2)) := by
  refine ga_ofI (by decide +kernel) rfl gt_hcl (Nat.le_of_ble_eq_true rfl) (fun X hX C hret => ?_)
  exact gX6_pieceOf_0 C (fun pc lv σ' z d hz hp => hret pc lv σ' z d ⟨hp, by rw [hz]⟩) hr0 hW gt_F.rf rfl rfl h
-- X6_pieces: pieces()I
def fX6_pieces_32 (k8 : gt_T × Int × Int → Option (gt_T × Int)) (T : gt_T) (l2 s0 s1 : Int) : Option (gt_T × Int) :=
  (if (-2147483648 ≤ s0 + s1 ∧ s0 + s1 < 2147483648) ∧ (-2147483648 ≤ l2 + (1 : Int) ∧ l2 + (1 : Int) < 2147483648) then k8 (T, s0 + s1, l2 + (1 : Int)) else none)
def fX6_pieces_8 (k8 : gt_T × Int × Int → Option (gt_T × Int)) (a : gt_T × Int × Int) : Option (gt_T × Int) :=
  (if (a.1.1 5) ≤ a.2.2 then some (a.1, a.2.1) else (if (0 ≤ a.2.2 ∧ a.2.2 < 20) then (if (a.1.2 18 a.2.2.toNat) = a.2.2 then fX6_pieces_32 k8 a.1 a.2.2 a.2.1 (1 : Int) else fX6_pieces_32 k8 a.1 a.2.2 a.2.1 (0 : Int)) else none))
def fX6_pieces (T : gt_T) : Option (gt_T × Int) :=
  (fX6_hang T).bind (fun (q1 : gt_T) => gt_loop (fX6_pieces_8) gt_fuel (q1, (0 : Int), (0 : Int)))
theorem iX6_pieces_X6 : ∀ w ∈ u_ws RX6 TX6 23, w ∈ wsX6_pieces := by decide +kernel
theorem kX6_pieces_45 : Cond.fieldLink yX6_pieces.cls 45 (TX6 18).1 (TX6 18).2.1 (TX6 18).2.2.1 ∈ wsX6_pieces := by decide +kernel
theorem kX6_pieces_57 : Cond.fieldLink yX6_pieces.cls 57 (TX6 5).1 (TX6 5).2.1 (TX6 5).2.2.1 ∈ wsX6_pieces := by decide +kernel
set_option maxHeartbeats 4000000 in
theorem gX6_pieces_32 {X : ga_X} {D : va_G} {cI cZ : ClassId} {K : Nat} {r : Nat} {σ0 : ga_S} {res : gt_T × Int} {k8 : gt_T × Int × Int → Option (gt_T × Int)} (C : ga_C X cX6_pieces yX6_pieces wsX6_pieces [] (gt_rm 1 23) (D, vwCl, cI, cZ) 3) (hRet : ∀ (pc : Nat) (lv : Nat → Option ga_V) (σ' : ga_S) (z : Int), decode cX6_pieces pc = .ok (.ireturn, 1) → z = res.2 → (gt_O SX6 6 r res.1 σ' ∧ gt_F r (r + 14) σ0 σ') → ga_G X 0 0 K pc lv [.inl z] σ') (hr0 : r ≠ 0) (hk8 : ∀ (a : gt_T × Int × Int) (σ : ga_S) (lv : Nat → Option ga_V), gt_O SX6 6 r a.1 σ → gt_F r (r + 14) σ0 σ → lv 0 = some (.inr r) → lv 1 = some (.inl a.2.1) → lv 2 = some (.inl a.2.2) → k8 a = some res → ga_G X 0 0 K 8 lv [] σ) {T : gt_T} {σ : ga_S} {l2 s0 s1 : Int} {lv : Nat → Option ga_V} (hW : gt_O SX6 6 r T σ) (hF : gt_F r (r + 14) σ0 σ) (hl0 : lv 0 = some (.inr r)) (hl2 : lv 2 = some (.inl l2)) (h : fX6_pieces_32 k8 T l2 s0 s1 = some res) : ga_G X 0 0 K 32 lv [.inl s1, .inl s0] σ := by
  unfold fX6_pieces_32 at h
  obtain ⟨hg, h⟩ := gt_gd h
  obtain ⟨g32_0, g34_1⟩ := hg
  refine ga_iadd C dX6_pieces_32 g32_0 ?_
  refine ga_istore_n C dX6_pieces_33 rfl (by decide) ?_
  refine ga_iinc C dX6_pieces_34 (gt_un (by decide) hl2) g34_1 ?_
  refine ga_goto (tgt := 8) C dX6_pieces_37 (by decide) ?_
  exact hk8 (T, s0 + s1, l2 + (1 : Int)) _ _ hW hF (gt_un (by decide) (gt_un (by decide) hl0)) (gt_un (by decide) gt_us) gt_us h
set_option maxHeartbeats 4000000 in
theorem gX6_pieces_8 {X : ga_X} {D : va_G} {cI cZ : ClassId} {K : Nat} {r : Nat} {σ0 : ga_S} {res : gt_T × Int} (C : ga_C X cX6_pieces yX6_pieces wsX6_pieces [] (gt_rm 1 23) (D, vwCl, cI, cZ) 3) (hRet : ∀ (pc : Nat) (lv : Nat → Option ga_V) (σ' : ga_S) (z : Int), decode cX6_pieces pc = .ok (.ireturn, 1) → z = res.2 → (gt_O SX6 6 r res.1 σ' ∧ gt_F r (r + 14) σ0 σ') → ga_G X 0 0 K pc lv [.inl z] σ') (hr0 : r ≠ 0) : ∀ (n : Nat) (a : gt_T × Int × Int) (σ : ga_S) (lv : Nat → Option ga_V), gt_O SX6 6 r a.1 σ → gt_F r (r + 14) σ0 σ → lv 0 = some (.inr r) → lv 1 = some (.inl a.2.1) → lv 2 = some (.inl a.2.2) → gt_loop (fX6_pieces_8) n a = some res → ga_G X 0 0 K 8 lv [] σ := by
  intro n
  induction n with
  | zero =>
    intro a _ lv _ _ _ _ _ h
    exact absurd (show (none : Option _) = some _ from h) (fun q => by cases q)
  | succ n hk8 =>
    intro a σ lv hW hF hl0 hl1 hl2 h
    have h : fX6_pieces_8 (gt_loop (fX6_pieces_8) n) a = some res := h
    revert hk8 h
    generalize gt_loop (fX6_pieces_8) n = k8
    intro hk8 h
    unfold fX6_pieces_8 at h
    refine ga_iload_n C dX6_pieces_8 rfl hl2 ?_
    refine ga_aload_n C dX6_pieces_9 rfl hl0 hr0 ?_
    refine gt_geti C (iX6_pieces_X6) hW 5 rfl rfl (by decide) kX6_pieces_57 dX6_pieces_10 ?_
    refine ga_icmp_ge (tgt := 40) C dX6_pieces_13 (by decide) (fun c1 => ?_) (fun c1 => ?_)
    · have h := gt_ip h c1
      refine ga_iload_n C dX6_pieces_40 rfl hl1 ?_
      cases h
      exact hRet _ _ _ _ dX6_pieces_41 rfl ⟨hW, hF⟩
    · have h := gt_in h c1
      obtain ⟨hg, h⟩ := gt_gd h
      have g22_0 := hg
      refine ga_iload_n C dX6_pieces_16 rfl hl1 ?_
      refine ga_aload_n C dX6_pieces_17 rfl hl0 hr0 ?_
      refine gt_geta C (iX6_pieces_X6) hW 18 rfl rfl (by decide) kX6_pieces_45 dX6_pieces_18 ?_
      refine ga_iload_n C dX6_pieces_21 rfl hl2 ?_
      refine gt_iald C hW 18 rfl g22_0.1 g22_0.2 dX6_pieces_22 ?_
      refine ga_iload_n C dX6_pieces_23 rfl hl2 ?_
      refine ga_icmp_ne (tgt := 31) C dX6_pieces_24 (by decide) (fun c1 => ?_) (fun c1 => ?_)
      · have h := gt_in h c1
        refine ga_iconst C dX6_pieces_31 ⟨by decide, by decide⟩ ?_
        exact gX6_pieces_32 C hRet hr0 hk8 hW hF hl0 hl2 h
      · have h := gt_ip h c1
        refine ga_iconst C dX6_pieces_27 ⟨by decide, by decide⟩ ?_
        refine ga_goto (tgt := 32) C dX6_pieces_28 (by decide) ?_
        exact gX6_pieces_32 C hRet hr0 hk8 hW hF hl0 hl2 h
set_option maxHeartbeats 4000000 in
theorem gX6_pieces_0 {X : ga_X} {D : va_G} {cI cZ : ClassId} {K : Nat} {r : Nat} {σ0 : ga_S} {res : gt_T × Int} (C : ga_C X cX6_pieces yX6_pieces wsX6_pieces [] (gt_rm 1 23) (D, vwCl, cI, cZ) 3) (hRet : ∀ (pc : Nat) (lv : Nat → Option ga_V) (σ' : ga_S) (z : Int), decode cX6_pieces pc = .ok (.ireturn, 1) → z = res.2 → (gt_O SX6 6 r res.1 σ' ∧ gt_F r (r + 14) σ0 σ') → ga_G X 0 0 K pc lv [.inl z] σ') (hr0 : r ≠ 0) {T : gt_T} {σ : ga_S} {lv : Nat → Option ga_V} (hW : gt_O SX6 6 r T σ) (hF : gt_F r (r + 14) σ0 σ) (hl0 : lv 0 = some (.inr r)) (h : fX6_pieces T = some res) : ga_G X 0 0 K 0 lv [] σ := by
  unfold fX6_pieces at h
  refine ga_aload_n C dX6_pieces_0 rfl hl0 hr0 ?_
  obtain ⟨q1, hq, h⟩ := Option.bind_eq_some_iff.mp h
  refine gt_cVv (n := 0) (st := []) C (eX6_hang X.2.1 D cI cZ K hr0 hW hq) gX6_pieces_X6_hang rfl (by decide +kernel) rfl ⟨Nat.le_of_ble_eq_true rfl, Nat.le_of_ble_eq_true rfl⟩ hW.1 rfl rfl (Nat.le_of_ble_eq_true rfl) rfl dX6_pieces_1 (fun σ' hp => ?_)
  obtain ⟨hw, hf⟩ := hp
  have hF := hF.tr hf (Nat.le_refl _) (Nat.le_refl _)
  have hW := hw
  clear hf
  refine ga_iconst C dX6_pieces_4 ⟨by decide, by decide⟩ ?_
  refine ga_istore_n C dX6_pieces_5 rfl (by decide) ?_
  refine ga_iconst C dX6_pieces_6 ⟨by decide, by decide⟩ ?_
  refine ga_istore_n C dX6_pieces_7 rfl (by decide) ?_
  exact gX6_pieces_8 C hRet hr0 gt_fuel (q1, (0 : Int), (0 : Int)) _ _ hW hF (gt_un (by decide) (gt_un (by decide) hl0)) (gt_un (by decide) gt_us) gt_us h
set_option maxHeartbeats 4000000 in
theorem eX6_pieces (l : Launch) (D : va_G) (cI cZ : ClassId) (K : Nat) {r : Nat} (hr0 : r ≠ 0) {σ : ga_S} {T : gt_T} (hW : gt_O SX6 6 r T σ) {res : gt_T × Int} (h : fX6_pieces T = some res) : ga_Ev l (D, vwCl, cI, cZ) yX6_pieces wsX6_pieces (gt_rm 1 23) [] 0 0 K [.inr r] σ (fun σ' rv => (gt_O SX6 6 r res.1 σ' ∧ gt_F r (r + 14) σ σ') ∧ rv = some (.inl res.2)) := by
  refine ga_ofI (by decide +kernel) rfl gt_hcl (Nat.le_of_ble_eq_true rfl) (fun X hX C hret => ?_)
  exact gX6_pieces_0 C (fun pc lv σ' z d hz hp => hret pc lv σ' z d ⟨hp, by rw [hz]⟩) hr0 hW gt_F.rf rfl h
