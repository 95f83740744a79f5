-- X1_countLess: countLess(I)I
def fX1_countLess_26 (T : gt_T) (l2 : Int) : Option (Int) :=
  some l2
def fX1_countLess_2 (T : gt_T) (k2 : Int × Int → Option (Int)) (a : Int × Int) : Option (Int) :=
  (if (T.1 5) ≤ a.2 then fX1_countLess_26 T a.2 else (if (0 ≤ a.2 ∧ a.2 < 80) then (if a.1 ≤ (T.2 0 a.2.toNat) then fX1_countLess_26 T a.2 else (if (-2147483648 ≤ a.2 + (1 : Int) ∧ a.2 + (1 : Int) < 2147483648) then k2 (a.1, a.2 + (1 : Int)) else none)) else none))
def fX1_countLess (T : gt_T) (l1 : Int) : Option (Int) :=
  gt_loop (fX1_countLess_2 T) gt_fuel (l1, (0 : Int))
theorem iX1_countLess_X1 : ∀ w ∈ u_ws RX1 TX1 6, w ∈ wsX1_countLess := by decide +kernel
theorem kX1_countLess_9 : Cond.fieldLink yX1_countLess.cls 9 (TX1 0).1 (TX1 0).2.1 (TX1 0).2.2.1 ∈ wsX1_countLess := by decide +kernel
theorem kX1_countLess_27 : Cond.fieldLink yX1_countLess.cls 27 (TX1 5).1 (TX1 5).2.1 (TX1 5).2.2.1 ∈ wsX1_countLess := by decide +kernel
set_option maxHeartbeats 4000000 in
theorem gX1_countLess_26 {X : ga_X} {D : va_G} {cI cZ : ClassId} {K : Nat} {r : Nat} {res : Int} {T : gt_T} {σ : ga_S} (C : ga_C X cX1_countLess yX1_countLess wsX1_countLess [] (gt_rm 0 0) (D, vwCl, cI, cZ) 3) (hRet : ∀ (pc : Nat) (lv : Nat → Option ga_V) (σ' : ga_S) (z : Int), decode cX1_countLess pc = .ok (.ireturn, 1) → z = res → (σ' = σ) → ga_G X 0 0 K pc lv [.inl z] σ') (hr0 : r ≠ 0) {l2 : Int} {lv : Nat → Option ga_V} (hW : gt_O SX1 1 r T σ) (hl2 : lv 2 = some (.inl l2)) (h : fX1_countLess_26 T l2 = some res) : ga_G X 0 0 K 26 lv [] σ := by
  unfold fX1_countLess_26 at h
  refine ga_iload_n C dX1_countLess_26 rfl hl2 ?_
  cases h
  exact hRet _ _ _ _ dX1_countLess_27 rfl rfl
set_option maxHeartbeats 4000000 in
theorem gX1_countLess_2 {X : ga_X} {D : va_G} {cI cZ : ClassId} {K : Nat} {r : Nat} {res : Int} {T : gt_T} {σ : ga_S} (C : ga_C X cX1_countLess yX1_countLess wsX1_countLess [] (gt_rm 0 0) (D, vwCl, cI, cZ) 3) (hRet : ∀ (pc : Nat) (lv : Nat → Option ga_V) (σ' : ga_S) (z : Int), decode cX1_countLess pc = .ok (.ireturn, 1) → z = res → (σ' = σ) → ga_G X 0 0 K pc lv [.inl z] σ') (hr0 : r ≠ 0) : ∀ (n : Nat) (a : Int × Int) (lv : Nat → Option ga_V), gt_O SX1 1 r T σ → lv 0 = some (.inr r) → lv 1 = some (.inl a.1) → lv 2 = some (.inl a.2) → gt_loop (fX1_countLess_2 T) n a = some res → ga_G X 0 0 K 2 lv [] σ := by
  intro n
  induction n with
  | zero =>
    intro a lv _ _ _ _ h
    exact absurd (show (none : Option _) = some _ from h) (fun q => by cases q)
  | succ n hk2 =>
    intro a lv hW hl0 hl1 hl2 h
    have h : fX1_countLess_2 T (gt_loop (fX1_countLess_2 T) n) a = some res := h
    revert hk2 h
    generalize gt_loop (fX1_countLess_2 T) n = k2
    intro hk2 h
    unfold fX1_countLess_2 at h
    refine ga_iload_n C dX1_countLess_2 rfl hl2 ?_
    refine ga_aload_n C dX1_countLess_3 rfl hl0 hr0 ?_
    refine gt_geti C (iX1_countLess_X1) hW 5 rfl rfl (by decide) kX1_countLess_27 dX1_countLess_4 ?_
    refine ga_icmp_ge (tgt := 26) C dX1_countLess_7 (by decide) (fun c1 => ?_) (fun c1 => ?_)
    · have h := gt_ip h c1
      exact gX1_countLess_26 C hRet hr0 hW hl2 h
    · have h := gt_in h c1
      obtain ⟨hg, h⟩ := gt_gd h
      have g15_0 := hg
      refine ga_aload_n C dX1_countLess_10 rfl hl0 hr0 ?_
      refine gt_geta C (iX1_countLess_X1) hW 0 rfl rfl (by decide) kX1_countLess_9 dX1_countLess_11 ?_
      refine ga_iload_n C dX1_countLess_14 rfl hl2 ?_
      refine gt_iald C hW 0 rfl g15_0.1 g15_0.2 dX1_countLess_15 ?_
      refine ga_iload_n C dX1_countLess_16 rfl hl1 ?_
      refine ga_icmp_ge (tgt := 26) C dX1_countLess_17 (by decide) (fun c1 => ?_) (fun c1 => ?_)
      · have h := gt_ip h c1
        exact gX1_countLess_26 C hRet hr0 hW hl2 h
      · have h := gt_in h c1
        obtain ⟨hg, h⟩ := gt_gd h
        have g20_0 := hg
        refine ga_iinc C dX1_countLess_20 hl2 g20_0 ?_
        refine ga_goto (tgt := 2) C dX1_countLess_23 (by decide) ?_
        exact hk2 (a.1, a.2 + (1 : Int)) _ hW (gt_un (by decide) hl0) (gt_un (by decide) hl1) gt_us h
set_option maxHeartbeats 4000000 in
theorem gX1_countLess_0 {X : ga_X} {D : va_G} {cI cZ : ClassId} {K : Nat} {r : Nat} {res : Int} {T : gt_T} {σ : ga_S} (C : ga_C X cX1_countLess yX1_countLess wsX1_countLess [] (gt_rm 0 0) (D, vwCl, cI, cZ) 3) (hRet : ∀ (pc : Nat) (lv : Nat → Option ga_V) (σ' : ga_S) (z : Int), decode cX1_countLess pc = .ok (.ireturn, 1) → z = res → (σ' = σ) → ga_G X 0 0 K pc lv [.inl z] σ') (hr0 : r ≠ 0) {l1 : Int} {lv : Nat → Option ga_V} (hW : gt_O SX1 1 r T σ) (hl0 : lv 0 = some (.inr r)) (hl1 : lv 1 = some (.inl l1)) (h : fX1_countLess T l1 = some res) : ga_G X 0 0 K 0 lv [] σ := by
  unfold fX1_countLess at h
  refine ga_iconst C dX1_countLess_0 ⟨by decide, by decide⟩ ?_
  refine ga_istore_n C dX1_countLess_1 rfl (by decide) ?_
  exact gX1_countLess_2 C hRet hr0 gt_fuel (l1, (0 : Int)) _ hW (gt_un (by decide) hl0) (gt_un (by decide) hl1) gt_us h
set_option maxHeartbeats 4000000 in
theorem eX1_countLess (l : Launch) (D : va_G) (cI cZ : ClassId) (K : Nat) {r : Nat} (hr0 : r ≠ 0) {σ : ga_S} {T : gt_T} (hW : gt_O SX1 1 r T σ) {l1 : Int} {res : Int} (h : fX1_countLess T l1 = some res) : ga_Ev l (D, vwCl, cI, cZ) yX1_countLess wsX1_countLess (gt_rm 0 0) [] 0 0 K [.inr r, .inl l1] σ (fun σ' rv => (σ' = σ) ∧ rv = some (.inl res)) := by
  refine ga_ofI (by decide +kernel) rfl gt_hcl (Nat.le_of_ble_eq_true rfl) (fun X hX C hret => ?_)
  exact gX1_countLess_0 C (fun pc lv σ' z d hz hp => hret pc lv σ' z d ⟨hp, by rw [hz]⟩) hr0 hW rfl rfl h
-- X1_has: has(I)Z
def fX1_has_17 (T : gt_T) (s0 : Int) : Option (Int) :=
  (if (s0 = 0 ∨ s0 = 1) then some s0 else none)
def fX1_has_16 (T : gt_T) : Option (Int) :=
  fX1_has_17 T (0 : Int)
def fX1_has (T : gt_T) (l1 : Int) : Option (Int) :=
  (if l1 < 0 then fX1_has_16 T else (if (T.1 5) ≤ l1 then fX1_has_16 T else fX1_has_17 T (1 : Int)))
theorem iX1_has_X1 : ∀ w ∈ u_ws RX1 TX1 6, w ∈ wsX1_has := by decide +kernel
theorem kX1_has_27 : Cond.fieldLink yX1_has.cls 27 (TX1 5).1 (TX1 5).2.1 (TX1 5).2.2.1 ∈ wsX1_has := by decide +kernel
set_option maxHeartbeats 4000000 in
theorem gX1_has_17 {X : ga_X} {D : va_G} {cI cZ : ClassId} {K : Nat} {r : Nat} {res : Int} {T : gt_T} {σ : ga_S} (C : ga_C X cX1_has yX1_has wsX1_has [] (gt_rm 0 0) (D, vwCl, cI, cZ) 2) (hRet : ∀ (pc : Nat) (lv : Nat → Option ga_V) (σ' : ga_S) (z : Int), decode cX1_has pc = .ok (.ireturn, 1) → (z = 0 ∨ z = 1) → z = res → (σ' = σ) → ga_G X 0 0 K pc lv [.inl z] σ') (hr0 : r ≠ 0) {s0 : Int} {lv : Nat → Option ga_V} (hW : gt_O SX1 1 r T σ) (h : fX1_has_17 T s0 = some res) : ga_G X 0 0 K 17 lv [.inl s0] σ := by
  unfold fX1_has_17 at h
  obtain ⟨hg, h⟩ := gt_gd h
  have g17_0 := hg
  cases h
  exact hRet _ _ _ _ dX1_has_17 g17_0 rfl rfl
set_option maxHeartbeats 4000000 in
theorem gX1_has_16 {X : ga_X} {D : va_G} {cI cZ : ClassId} {K : Nat} {r : Nat} {res : Int} {T : gt_T} {σ : ga_S} (C : ga_C X cX1_has yX1_has wsX1_has [] (gt_rm 0 0) (D, vwCl, cI, cZ) 2) (hRet : ∀ (pc : Nat) (lv : Nat → Option ga_V) (σ' : ga_S) (z : Int), decode cX1_has pc = .ok (.ireturn, 1) → (z = 0 ∨ z = 1) → z = res → (σ' = σ) → ga_G X 0 0 K pc lv [.inl z] σ') (hr0 : r ≠ 0) {lv : Nat → Option ga_V} (hW : gt_O SX1 1 r T σ) (h : fX1_has_16 T = some res) : ga_G X 0 0 K 16 lv [] σ := by
  unfold fX1_has_16 at h
  refine ga_iconst C dX1_has_16 ⟨by decide, by decide⟩ ?_
  exact gX1_has_17 C hRet hr0 hW h
set_option maxHeartbeats 4000000 in
theorem gX1_has_0 {X : ga_X} {D : va_G} {cI cZ : ClassId} {K : Nat} {r : Nat} {res : Int} {T : gt_T} {σ : ga_S} (C : ga_C X cX1_has yX1_has wsX1_has [] (gt_rm 0 0) (D, vwCl, cI, cZ) 2) (hRet : ∀ (pc : Nat) (lv : Nat → Option ga_V) (σ' : ga_S) (z : Int), decode cX1_has pc = .ok (.ireturn, 1) → (z = 0 ∨ z = 1) → z = res → (σ' = σ) → ga_G X 0 0 K pc lv [.inl z] σ') (hr0 : r ≠ 0) {l1 : Int} {lv : Nat → Option ga_V} (hW : gt_O SX1 1 r T σ) (hl0 : lv 0 = some (.inr r)) (hl1 : lv 1 = some (.inl l1)) (h : fX1_has T l1 = some res) : ga_G X 0 0 K 0 lv [] σ := by
  unfold fX1_has at h
  refine ga_iload_n C dX1_has_0 rfl hl1 ?_
  refine ga_if_lt (tgt := 16) C dX1_has_1 (by decide) (fun c1 => ?_) (fun c1 => ?_)
  · have h := gt_ip h c1
    exact gX1_has_16 C hRet hr0 hW h
  · have h := gt_in h c1
    refine ga_iload_n C dX1_has_4 rfl hl1 ?_
    refine ga_aload_n C dX1_has_5 rfl hl0 hr0 ?_
    refine gt_geti C (iX1_has_X1) hW 5 rfl rfl (by decide) kX1_has_27 dX1_has_6 ?_
    refine ga_icmp_ge (tgt := 16) C dX1_has_9 (by decide) (fun c1 => ?_) (fun c1 => ?_)
    · have h := gt_ip h c1
      exact gX1_has_16 C hRet hr0 hW h
    · have h := gt_in h c1
      refine ga_iconst C dX1_has_12 ⟨by decide, by decide⟩ ?_
      refine ga_goto (tgt := 17) C dX1_has_13 (by decide) ?_
      exact gX1_has_17 C hRet hr0 hW h
set_option maxHeartbeats 4000000 in
theorem eX1_has (l : Launch) (D : va_G) (cI cZ : ClassId) (K : Nat) {r : Nat} (hr0 : r ≠ 0) {σ : ga_S} {T : gt_T} (hW : gt_O SX1 1 r T σ) {l1 : Int} {res : Int} (h : fX1_has T l1 = some res) : ga_Ev l (D, vwCl, cI, cZ) yX1_has wsX1_has (gt_rm 0 0) [] 0 0 K [.inr r, .inl l1] σ (fun σ' rv => (σ' = σ) ∧ rv = some (.inl res)) := by
  refine ga_ofZ (by decide +kernel) rfl gt_hcl (Nat.le_of_ble_eq_true rfl) (fun X hX C hret => ?_)
  exact gX1_has_0 C (fun pc lv σ' z d h01 hz hp => hret pc lv σ' z d h01 ⟨hp, by rw [hz]⟩) hr0 hW rfl rfl h
-- X1_countLabel: countLabel(I)V
def fX1_countLabel_50 (k50 : gt_T × Int × Int × Int → Option (gt_T)) (a : gt_T × Int × Int × Int) : Option (gt_T) :=
  (if a.2.2.2 ≤ a.2.2.1 then (if (0 ≤ a.2.2.1 ∧ a.2.2.1 < 80) ∧ (-2147483648 ≤ (a.1.1 5) + (1 : Int) ∧ (a.1.1 5) + (1 : Int) < 2147483648) then some ((va_up a.1.1 5 ((a.1.1 5) + (1 : Int))), (va_up (va_up a.1.2 0 (va_up (a.1.2 0) a.2.2.1.toNat a.2.1)) 1 (va_up ((va_up a.1.2 0 (va_up (a.1.2 0) a.2.2.1.toNat a.2.1)) 1) a.2.2.1.toNat (1 : Int)))) else none) else (if (-2147483648 ≤ a.2.2.2 - (1 : Int) ∧ a.2.2.2 - (1 : Int) < 2147483648) ∧ (0 ≤ (a.2.2.2 - (1 : Int)) ∧ (a.2.2.2 - (1 : Int)) < 80) ∧ (0 ≤ a.2.2.2 ∧ a.2.2.2 < 80) ∧ (-2147483648 ≤ a.2.2.2 + (-1 : Int) ∧ a.2.2.2 + (-1 : Int) < 2147483648) then k50 ((a.1.1, (va_up (va_up a.1.2 0 (va_up (a.1.2 0) a.2.2.2.toNat (a.1.2 0 (a.2.2.2 - (1 : Int)).toNat))) 1 (va_up ((va_up a.1.2 0 (va_up (a.1.2 0) a.2.2.2.toNat (a.1.2 0 (a.2.2.2 - (1 : Int)).toNat))) 1) a.2.2.2.toNat ((va_up a.1.2 0 (va_up (a.1.2 0) a.2.2.2.toNat (a.1.2 0 (a.2.2.2 - (1 : Int)).toNat))) 1 (a.2.2.2 - (1 : Int)).toNat)))), a.2.1, a.2.2.1, a.2.2.2 + (-1 : Int)) else none))
def fX1_countLabel_35 (T : gt_T) (l1 l2 : Int) : Option (gt_T) :=
  (if (T.1 5) < (80 : Int) then gt_loop (fX1_countLabel_50) gt_fuel (T, l1, l2, T.1 5) else some T)
def fX1_countLabel (T : gt_T) (l1 : Int) : Option (gt_T) :=
  (fX1_countLess T l1).bind (fun (q2 : Int) => (fX1_has T q2).bind (fun (q8 : Int) => (if q8 = 0 then fX1_countLabel_35 T l1 q2 else (if (0 ≤ q2 ∧ q2 < 80) then (if (T.2 0 q2.toNat) = l1 then (if (0 ≤ q2 ∧ q2 < 80) ∧ (-2147483648 ≤ (T.2 1 q2.toNat) + (1 : Int) ∧ (T.2 1 q2.toNat) + (1 : Int) < 2147483648) then some (T.1, (va_up T.2 1 (va_up (T.2 1) q2.toNat ((T.2 1 q2.toNat) + (1 : Int))))) else none) else fX1_countLabel_35 T l1 q2) else none))))
theorem iX1_countLabel_X1 : ∀ w ∈ u_ws RX1 TX1 6, w ∈ wsX1_countLabel := by decide +kernel
theorem kX1_countLabel_9 : Cond.fieldLink yX1_countLabel.cls 9 (TX1 0).1 (TX1 0).2.1 (TX1 0).2.2.1 ∈ wsX1_countLabel := by decide +kernel
theorem kX1_countLabel_15 : Cond.fieldLink yX1_countLabel.cls 15 (TX1 1).1 (TX1 1).2.1 (TX1 1).2.2.1 ∈ wsX1_countLabel := by decide +kernel
theorem kX1_countLabel_27 : Cond.fieldLink yX1_countLabel.cls 27 (TX1 5).1 (TX1 5).2.1 (TX1 5).2.2.1 ∈ wsX1_countLabel := by decide +kernel
set_option maxHeartbeats 4000000 in
theorem gX1_countLabel_50 {X : ga_X} {D : va_G} {cI cZ : ClassId} {K : Nat} {r : Nat} {σ0 : ga_S} {res : gt_T} (C : ga_C X cX1_countLabel yX1_countLabel wsX1_countLabel [] (gt_rm 1 22) (D, vwCl, cI, cZ) 4) (hRet : ∀ (pc : Nat) (lv : Nat → Option ga_V) (σ' : ga_S), decode cX1_countLabel pc = .ok (.return_, 1) → (gt_O SX1 1 r res σ' ∧ gt_F r (r + 6) σ0 σ') → ga_G X 0 0 K pc lv [] σ') (hr0 : r ≠ 0) : ∀ (n : Nat) (a : gt_T × Int × Int × Int) (σ : ga_S) (lv : Nat → Option ga_V), gt_O SX1 1 r a.1 σ → gt_F r (r + 6) σ0 σ → lv 0 = some (.inr r) → lv 1 = some (.inl a.2.1) → lv 2 = some (.inl a.2.2.1) → lv 3 = some (.inl a.2.2.2) → gt_loop (fX1_countLabel_50) n a = some res → ga_G X 0 0 K 50 lv [] σ := by
  intro n
  induction n with
  | zero =>
    intro a _ lv _ _ _ _ _ _ h
    exact absurd (show (none : Option _) = some _ from h) (fun q => by cases q)
  | succ n hk50 =>
    intro a σ lv hW hF hl0 hl1 hl2 hl3 h
    have h : fX1_countLabel_50 (gt_loop (fX1_countLabel_50) n) a = some res := h
    revert hk50 h
    generalize gt_loop (fX1_countLabel_50) n = k50
    intro hk50 h
    unfold fX1_countLabel_50 at h
    refine ga_iload_n C dX1_countLabel_50 rfl hl3 ?_
    refine ga_iload_n C dX1_countLabel_51 rfl hl2 ?_
    refine ga_icmp_le (tgt := 89) C dX1_countLabel_52 (by decide) (fun c1 => ?_) (fun c1 => ?_)
    · have h := gt_ip h c1
      obtain ⟨hg, h⟩ := gt_gd h
      obtain ⟨g95_0, g109_1⟩ := hg
      refine ga_aload_n C dX1_countLabel_89 rfl hl0 hr0 ?_
      refine gt_geta C (iX1_countLabel_X1) hW 0 rfl rfl (by decide) kX1_countLabel_9 dX1_countLabel_90 ?_
      refine ga_iload_n C dX1_countLabel_93 rfl hl2 ?_
      refine ga_iload_n C dX1_countLabel_94 rfl hl1 ?_
      refine gt_iast C okX1 hW hF ⟨Nat.le_refl _, Nat.le_refl _⟩ 0 rfl g95_0.1 g95_0.2 dX1_countLabel_95 (fun σ hW hF hf => ?_)
      refine ga_aload_n C dX1_countLabel_96 rfl hl0 hr0 ?_
      refine gt_geta C (iX1_countLabel_X1) hW 1 rfl rfl (by decide) kX1_countLabel_15 dX1_countLabel_97 ?_
      refine ga_iload_n C dX1_countLabel_100 rfl hl2 ?_
      refine ga_iconst C dX1_countLabel_101 ⟨by decide, by decide⟩ ?_
      refine gt_iast C okX1 hW hF ⟨Nat.le_refl _, Nat.le_refl _⟩ 1 rfl g95_0.1 g95_0.2 dX1_countLabel_102 (fun σ hW hF hf => ?_)
      refine ga_aload_n C dX1_countLabel_103 rfl hl0 hr0 ?_
      refine ga_dup C dX1_countLabel_104 ?_
      refine gt_geti C (iX1_countLabel_X1) hW 5 rfl rfl (by decide) kX1_countLabel_27 dX1_countLabel_105 ?_
      refine ga_iconst C dX1_countLabel_108 ⟨by decide, by decide⟩ ?_
      refine ga_iadd C dX1_countLabel_109 g109_1 ?_
      refine gt_puti C okX1 (by decide) (iX1_countLabel_X1) tyX1 tyX1_ok nmX1 hW hF ⟨Nat.le_refl _, Nat.le_refl _⟩ 5 rfl rfl (by decide) kX1_countLabel_27 rfl (by decide +kernel) dX1_countLabel_110 (fun σ hW hF hf => ?_)
      cases h
      exact hRet _ _ _ dX1_countLabel_113 ⟨hW, hF⟩
    · have h := gt_in h c1
      obtain ⟨hg, h⟩ := gt_gd h
      obtain ⟨g66_0, g67_1, g68_2, g83_3⟩ := hg
      refine ga_aload_n C dX1_countLabel_55 rfl hl0 hr0 ?_
      refine gt_geta C (iX1_countLabel_X1) hW 0 rfl rfl (by decide) kX1_countLabel_9 dX1_countLabel_56 ?_
      refine ga_iload_n C dX1_countLabel_59 rfl hl3 ?_
      refine ga_aload_n C dX1_countLabel_60 rfl hl0 hr0 ?_
      refine gt_geta C (iX1_countLabel_X1) hW 0 rfl rfl (by decide) kX1_countLabel_9 dX1_countLabel_61 ?_
      refine ga_iload_n C dX1_countLabel_64 rfl hl3 ?_
      refine ga_iconst C dX1_countLabel_65 ⟨by decide, by decide⟩ ?_
      refine ga_isub C dX1_countLabel_66 g66_0 ?_
      refine gt_iald C hW 0 rfl g67_1.1 g67_1.2 dX1_countLabel_67 ?_
      refine gt_iast C okX1 hW hF ⟨Nat.le_refl _, Nat.le_refl _⟩ 0 rfl g68_2.1 g68_2.2 dX1_countLabel_68 (fun σ hW hF hf => ?_)
      refine ga_aload_n C dX1_countLabel_69 rfl hl0 hr0 ?_
      refine gt_geta C (iX1_countLabel_X1) hW 1 rfl rfl (by decide) kX1_countLabel_15 dX1_countLabel_70 ?_
      refine ga_iload_n C dX1_countLabel_73 rfl hl3 ?_
      refine ga_aload_n C dX1_countLabel_74 rfl hl0 hr0 ?_
      refine gt_geta C (iX1_countLabel_X1) hW 1 rfl rfl (by decide) kX1_countLabel_15 dX1_countLabel_75 ?_
      refine ga_iload_n C dX1_countLabel_78 rfl hl3 ?_
      refine ga_iconst C dX1_countLabel_79 ⟨by decide, by decide⟩ ?_
      refine ga_isub C dX1_countLabel_80 g66_0 ?_
      refine gt_iald C hW 1 rfl g67_1.1 g67_1.2 dX1_countLabel_81 ?_
      refine gt_iast C okX1 hW hF ⟨Nat.le_refl _, Nat.le_refl _⟩ 1 rfl g68_2.1 g68_2.2 dX1_countLabel_82 (fun σ hW hF hf => ?_)
      refine ga_iinc C dX1_countLabel_83 hl3 g83_3 ?_
      refine ga_goto (tgt := 50) C dX1_countLabel_86 (by decide) ?_
      exact hk50 ((a.1.1, (va_up (va_up a.1.2 0 (va_up (a.1.2 0) a.2.2.2.toNat (a.1.2 0 (a.2.2.2 - (1 : Int)).toNat))) 1 (va_up ((va_up a.1.2 0 (va_up (a.1.2 0) a.2.2.2.toNat (a.1.2 0 (a.2.2.2 - (1 : Int)).toNat))) 1) a.2.2.2.toNat ((va_up a.1.2 0 (va_up (a.1.2 0) a.2.2.2.toNat (a.1.2 0 (a.2.2.2 - (1 : Int)).toNat))) 1 (a.2.2.2 - (1 : Int)).toNat)))), a.2.1, a.2.2.1, a.2.2.2 + (-1 : Int)) _ _ hW hF (gt_un (by decide) hl0) (gt_un (by decide) hl1) (gt_un (by decide) hl2) gt_us h
set_option maxHeartbeats 4000000 in
theorem gX1_countLabel_35 {X : ga_X} {D : va_G} {cI cZ : ClassId} {K : Nat} {r : Nat} {σ0 : ga_S} {res : gt_T} (C : ga_C X cX1_countLabel yX1_countLabel wsX1_countLabel [] (gt_rm 1 22) (D, vwCl, cI, cZ) 4) (hRet : ∀ (pc : Nat) (lv : Nat → Option ga_V) (σ' : ga_S), decode cX1_countLabel pc = .ok (.return_, 1) → (gt_O SX1 1 r res σ' ∧ gt_F r (r + 6) σ0 σ') → ga_G X 0 0 K pc lv [] σ') (hr0 : r ≠ 0) {T : gt_T} {σ : ga_S} {l1 l2 : Int} {lv : Nat → Option ga_V} (hW : gt_O SX1 1 r T σ) (hF : gt_F r (r + 6) σ0 σ) (hl0 : lv 0 = some (.inr r)) (hl1 : lv 1 = some (.inl l1)) (hl2 : lv 2 = some (.inl l2)) (h : fX1_countLabel_35 T l1 l2 = some res) : ga_G X 0 0 K 35 lv [] σ := by
  unfold fX1_countLabel_35 at h
  refine ga_aload_n C dX1_countLabel_35 rfl hl0 hr0 ?_
  refine gt_geti C (iX1_countLabel_X1) hW 5 rfl rfl (by decide) kX1_countLabel_27 dX1_countLabel_36 ?_
  refine ga_bipush C dX1_countLabel_39 ⟨by decide, by decide⟩ (by decide) ?_
  refine ga_icmp_lt (tgt := 45) C dX1_countLabel_41 (by decide) (fun c1 => ?_) (fun c1 => ?_)
  · have h := gt_ip h c1
    refine ga_aload_n C dX1_countLabel_45 rfl hl0 hr0 ?_
    refine gt_geti C (iX1_countLabel_X1) hW 5 rfl rfl (by decide) kX1_countLabel_27 dX1_countLabel_46 ?_
    refine ga_istore_n C dX1_countLabel_49 rfl (by decide) ?_
    exact gX1_countLabel_50 C hRet hr0 gt_fuel (T, l1, l2, T.1 5) _ _ hW hF (gt_un (by decide) hl0) (gt_un (by decide) hl1) (gt_un (by decide) hl2) gt_us h
  · have h := gt_in h c1
    cases h
    exact hRet _ _ _ dX1_countLabel_44 ⟨hW, hF⟩
set_option maxHeartbeats 4000000 in
theorem gX1_countLabel_0 {X : ga_X} {D : va_G} {cI cZ : ClassId} {K : Nat} {r : Nat} {σ0 : ga_S} {res : gt_T} (C : ga_C X cX1_countLabel yX1_countLabel wsX1_countLabel [] (gt_rm 1 22) (D, vwCl, cI, cZ) 4) (hRet : ∀ (pc : Nat) (lv : Nat → Option ga_V) (σ' : ga_S), decode cX1_countLabel pc = .ok (.return_, 1) → (gt_O SX1 1 r res σ' ∧ gt_F r (r + 6) σ0 σ') → ga_G X 0 0 K pc lv [] σ') (hr0 : r ≠ 0) {T : gt_T} {σ : ga_S} {l1 : Int} {lv : Nat → Option ga_V} (hW : gt_O SX1 1 r T σ) (hF : gt_F r (r + 6) σ0 σ) (hl0 : lv 0 = some (.inr r)) (hl1 : lv 1 = some (.inl l1)) (h : fX1_countLabel T l1 = some res) : ga_G X 0 0 K 0 lv [] σ := by
  unfold fX1_countLabel at h
  refine ga_aload_n C dX1_countLabel_0 rfl hl0 hr0 ?_
  refine ga_iload_n C dX1_countLabel_1 rfl hl1 ?_
  obtain ⟨q2, hq, h⟩ := Option.bind_eq_some_iff.mp h
  refine gt_cVi (n := 1) (st := []) C (eX1_countLess X.2.1 D cI cZ K hr0 hW hq) gX1_countLabel_X1_countLess rfl (by decide +kernel) rfl ⟨Nat.le_of_ble_eq_true rfl, Nat.le_of_ble_eq_true rfl⟩ hW.1 rfl rfl (Nat.le_of_ble_eq_true rfl) rfl dX1_countLabel_2 (fun σ' hp => ?_)
  subst hp
  refine ga_istore_n C dX1_countLabel_5 rfl (by decide) ?_
  refine ga_aload_n C dX1_countLabel_6 rfl (gt_un (by decide) hl0) hr0 ?_
  refine ga_iload_n C dX1_countLabel_7 rfl gt_us ?_
  obtain ⟨q8, hq, h⟩ := Option.bind_eq_some_iff.mp h
  refine gt_cVi (n := 1) (st := []) C (eX1_has X.2.1 D cI cZ K hr0 hW hq) gX1_countLabel_X1_has rfl (by decide +kernel) rfl ⟨Nat.le_of_ble_eq_true rfl, Nat.le_of_ble_eq_true rfl⟩ hW.1 rfl rfl (Nat.le_of_ble_eq_true rfl) rfl dX1_countLabel_8 (fun σ' hp => ?_)
  subst hp
  refine ga_if_eq (tgt := 35) C dX1_countLabel_11 (by decide) (fun c1 => ?_) (fun c1 => ?_)
  · have h := gt_ip h c1
    exact gX1_countLabel_35 C hRet hr0 hW hF (gt_un (by decide) hl0) (gt_un (by decide) hl1) gt_us h
  · have h := gt_in h c1
    obtain ⟨hg, h⟩ := gt_gd h
    have g19_0 := hg
    refine ga_aload_n C dX1_countLabel_14 rfl (gt_un (by decide) hl0) hr0 ?_
    refine gt_geta C (iX1_countLabel_X1) hW 0 rfl rfl (by decide) kX1_countLabel_9 dX1_countLabel_15 ?_
    refine ga_iload_n C dX1_countLabel_18 rfl gt_us ?_
    refine gt_iald C hW 0 rfl g19_0.1 g19_0.2 dX1_countLabel_19 ?_
    refine ga_iload_n C dX1_countLabel_20 rfl (gt_un (by decide) hl1) ?_
    refine ga_icmp_ne (tgt := 35) C dX1_countLabel_21 (by decide) (fun c1 => ?_) (fun c1 => ?_)
    · have h := gt_in h c1
      exact gX1_countLabel_35 C hRet hr0 hW hF (gt_un (by decide) hl0) (gt_un (by decide) hl1) gt_us h
    · have h := gt_ip h c1
      obtain ⟨hg, h⟩ := gt_gd h
      obtain ⟨g30_0, g32_1⟩ := hg
      refine ga_aload_n C dX1_countLabel_24 rfl (gt_un (by decide) hl0) hr0 ?_
      refine gt_geta C (iX1_countLabel_X1) hW 1 rfl rfl (by decide) kX1_countLabel_15 dX1_countLabel_25 ?_
      refine ga_iload_n C dX1_countLabel_28 rfl gt_us ?_
      refine ga_dup2 C dX1_countLabel_29 ?_
      refine gt_iald C hW 1 rfl g30_0.1 g30_0.2 dX1_countLabel_30 ?_
      refine ga_iconst C dX1_countLabel_31 ⟨by decide, by decide⟩ ?_
      refine ga_iadd C dX1_countLabel_32 g32_1 ?_
      refine gt_iast C okX1 hW hF ⟨Nat.le_refl _, Nat.le_refl _⟩ 1 rfl g30_0.1 g30_0.2 dX1_countLabel_33 (fun σ hW hF hf => ?_)
      cases h
      exact hRet _ _ _ dX1_countLabel_34 ⟨hW, hF⟩
set_option maxHeartbeats 4000000 in
theorem eX1_countLabel (l : Launch) (D : va_G) (cI cZ : ClassId) (K : Nat) {r : Nat} (hr0 : r ≠ 0) {σ : ga_S} {T : gt_T} (hW : gt_O SX1 1 r T σ) {l1 : Int} {res : gt_T} (h : fX1_countLabel T l1 = some res) : ga_Ev l (D, vwCl, cI, cZ) yX1_countLabel wsX1_countLabel (gt_rm 1 22) [] 0 0 K [.inr r, .inl l1] σ (fun σ' rv => (gt_O SX1 1 r res σ' ∧ gt_F r (r + 6) σ σ') ∧ rv = none) := by
  refine ga_ofV (by decide +kernel) rfl gt_hcl (Nat.le_of_ble_eq_true rfl) (fun X hX C hret => ?_)
  exact gX1_countLabel_0 C (fun pc lv σ' d hp => hret pc lv σ' d ⟨hp, rfl⟩) hr0 hW gt_F.rf rfl rfl h
-- X1_gatherLabels: gatherLabels(LDiagramCode$Row;)I
def fX1_gatherLabels_32 (u : gt_T) (k32 : gt_T × Int → Option (gt_T × Int)) (a : gt_T × Int) : Option (gt_T × Int) :=
  (if (a.1.1 5) ≤ a.2 then some (a.1, (-1 : Int)) else (if (0 ≤ a.2 ∧ a.2 < 80) then (if (a.1.2 1 a.2.toNat) = (2 : Int) then (if (-2147483648 ≤ a.2 + (1 : Int) ∧ a.2 + (1 : Int) < 2147483648) then k32 (a.1, a.2 + (1 : Int)) else none) else (if (0 ≤ a.2 ∧ a.2 < 80) then some (a.1, a.1.2 0 a.2.toNat) else none)) else none))
def fX1_gatherLabels_7 (u : gt_T) (k7 : gt_T × Int → Option (gt_T × Int)) (a : gt_T × Int) : Option (gt_T × Int) :=
  (fX4_spots u).bind (fun (q9 : Int) => (if q9 ≤ a.2 then gt_loop (fX1_gatherLabels_32 u) gt_fuel (a.1, (0 : Int)) else (fX4_label u a.2).bind (fun (q18 : Int) => (fX1_countLabel a.1 q18).bind (fun (q21 : gt_T) => (if (-2147483648 ≤ a.2 + (1 : Int) ∧ a.2 + (1 : Int) < 2147483648) then k7 (q21, a.2 + (1 : Int)) else none)))))
def fX1_gatherLabels (u : gt_T) (T : gt_T) : Option (gt_T × Int) :=
  gt_loop (fX1_gatherLabels_7 u) gt_fuel (((va_up T.1 5 (0 : Int)), T.2), (0 : Int))
theorem iX1_gatherLabels_X1 : ∀ w ∈ u_ws RX1 TX1 6, w ∈ wsX1_gatherLabels := by decide +kernel
theorem kX1_gatherLabels_9 : Cond.fieldLink yX1_gatherLabels.cls 9 (TX1 0).1 (TX1 0).2.1 (TX1 0).2.2.1 ∈ wsX1_gatherLabels := by decide +kernel
theorem kX1_gatherLabels_15 : Cond.fieldLink yX1_gatherLabels.cls 15 (TX1 1).1 (TX1 1).2.1 (TX1 1).2.2.1 ∈ wsX1_gatherLabels := by decide +kernel
theorem kX1_gatherLabels_27 : Cond.fieldLink yX1_gatherLabels.cls 27 (TX1 5).1 (TX1 5).2.1 (TX1 5).2.2.1 ∈ wsX1_gatherLabels := by decide +kernel
set_option maxHeartbeats 4000000 in
theorem gX1_gatherLabels_32 {X : ga_X} {D : va_G} {cI cZ : ClassId} {K : Nat} {r : Nat} {σ0 : ga_S} {q : Nat} {res : gt_T × Int} {u : gt_T} (C : ga_C X cX1_gatherLabels yX1_gatherLabels wsX1_gatherLabels [] (gt_rm 2 45) (D, vwCl, cI, cZ) 3) (hRet : ∀ (pc : Nat) (lv : Nat → Option ga_V) (σ' : ga_S) (z : Int), decode cX1_gatherLabels pc = .ok (.ireturn, 1) → z = res.2 → (gt_O SX1 1 r res.1 σ' ∧ gt_F r (r + 6) σ0 σ') → ga_G X 0 0 K pc lv [.inl z] σ') (hr0 : r ≠ 0) (hq0 : q ≠ 0) (hdis : q + 3 ≤ r ∨ r + 6 ≤ q) : ∀ (n : Nat) (a : gt_T × Int) (σ : ga_S) (lv : Nat → Option ga_V), gt_O SX1 1 r a.1 σ → gt_F r (r + 6) σ0 σ → gt_O SX4 4 q u σ → lv 0 = some (.inr r) → lv 2 = some (.inl a.2) → gt_loop (fX1_gatherLabels_32 u) n a = some res → ga_G X 0 0 K 32 lv [] σ := by
  intro n
  induction n with
  | zero =>
    intro a _ lv _ _ _ _ _ h
    exact absurd (show (none : Option _) = some _ from h) (fun q => by cases q)
  | succ n hk32 =>
    intro a σ lv hW hF hU hl0 hl2 h
    have h : fX1_gatherLabels_32 u (gt_loop (fX1_gatherLabels_32 u) n) a = some res := h
    revert hk32 h
    generalize gt_loop (fX1_gatherLabels_32 u) n = k32
    intro hk32 h
    unfold fX1_gatherLabels_32 at h
    refine ga_iload_n C dX1_gatherLabels_32 rfl hl2 ?_
    refine ga_aload_n C dX1_gatherLabels_33 rfl hl0 hr0 ?_
    refine gt_geti C (iX1_gatherLabels_X1) hW 5 rfl rfl (by decide) kX1_gatherLabels_27 dX1_gatherLabels_34 ?_
    refine ga_icmp_ge (tgt := 63) C dX1_gatherLabels_37 (by decide) (fun c1 => ?_) (fun c1 => ?_)
    · have h := gt_ip h c1
      refine ga_iconst C dX1_gatherLabels_63 ⟨by decide, by decide⟩ ?_
      cases h
      exact hRet _ _ _ _ dX1_gatherLabels_64 rfl ⟨hW, hF⟩
    · have h := gt_in h c1
      obtain ⟨hg, h⟩ := gt_gd h
      have g45_0 := hg
      refine ga_aload_n C dX1_gatherLabels_40 rfl hl0 hr0 ?_
      refine gt_geta C (iX1_gatherLabels_X1) hW 1 rfl rfl (by decide) kX1_gatherLabels_15 dX1_gatherLabels_41 ?_
      refine ga_iload_n C dX1_gatherLabels_44 rfl hl2 ?_
      refine gt_iald C hW 1 rfl g45_0.1 g45_0.2 dX1_gatherLabels_45 ?_
      refine ga_iconst C dX1_gatherLabels_46 ⟨by decide, by decide⟩ ?_
      refine ga_icmp_eq (tgt := 57) C dX1_gatherLabels_47 (by decide) (fun c1 => ?_) (fun c1 => ?_)
      · have h := gt_ip h c1
        obtain ⟨hg, h⟩ := gt_gd h
        have g57_0 := hg
        refine ga_iinc C dX1_gatherLabels_57 hl2 g57_0 ?_
        refine ga_goto (tgt := 32) C dX1_gatherLabels_60 (by decide) ?_
        exact hk32 (a.1, a.2 + (1 : Int)) _ _ hW hF hU (gt_un (by decide) hl0) gt_us h
      · have h := gt_in h c1
        obtain ⟨hg, h⟩ := gt_gd h
        have g55_0 := hg
        refine ga_aload_n C dX1_gatherLabels_50 rfl hl0 hr0 ?_
        refine gt_geta C (iX1_gatherLabels_X1) hW 0 rfl rfl (by decide) kX1_gatherLabels_9 dX1_gatherLabels_51 ?_
        refine ga_iload_n C dX1_gatherLabels_54 rfl hl2 ?_
        refine gt_iald C hW 0 rfl g55_0.1 g55_0.2 dX1_gatherLabels_55 ?_
        cases h
        exact hRet _ _ _ _ dX1_gatherLabels_56 rfl ⟨hW, hF⟩
set_option maxHeartbeats 4000000 in
theorem gX1_gatherLabels_7 {X : ga_X} {D : va_G} {cI cZ : ClassId} {K : Nat} {r : Nat} {σ0 : ga_S} {q : Nat} {res : gt_T × Int} {u : gt_T} (C : ga_C X cX1_gatherLabels yX1_gatherLabels wsX1_gatherLabels [] (gt_rm 2 45) (D, vwCl, cI, cZ) 3) (hRet : ∀ (pc : Nat) (lv : Nat → Option ga_V) (σ' : ga_S) (z : Int), decode cX1_gatherLabels pc = .ok (.ireturn, 1) → z = res.2 → (gt_O SX1 1 r res.1 σ' ∧ gt_F r (r + 6) σ0 σ') → ga_G X 0 0 K pc lv [.inl z] σ') (hr0 : r ≠ 0) (hq0 : q ≠ 0) (hdis : q + 3 ≤ r ∨ r + 6 ≤ q) : ∀ (n : Nat) (a : gt_T × Int) (σ : ga_S) (lv : Nat → Option ga_V), gt_O SX1 1 r a.1 σ → gt_F r (r + 6) σ0 σ → gt_O SX4 4 q u σ → lv 0 = some (.inr r) → lv 1 = some (.inr q) → lv 2 = some (.inl a.2) → gt_loop (fX1_gatherLabels_7 u) n a = some res → ga_G X 0 0 K 7 lv [] σ := by
  intro n
  induction n with
  | zero =>
    intro a _ lv _ _ _ _ _ _ h
    exact absurd (show (none : Option _) = some _ from h) (fun q => by cases q)
  | succ n hk7 =>
    intro a σ lv hW hF hU hl0 hl1 hl2 h
    have h : fX1_gatherLabels_7 u (gt_loop (fX1_gatherLabels_7 u) n) a = some res := h
    revert hk7 h
    generalize gt_loop (fX1_gatherLabels_7 u) n = k7
    intro hk7 h
    unfold fX1_gatherLabels_7 at h
    refine ga_iload_n C dX1_gatherLabels_7 rfl hl2 ?_
    refine ga_aload_n C dX1_gatherLabels_8 rfl hl1 hq0 ?_
    obtain ⟨q9, hq, h⟩ := Option.bind_eq_some_iff.mp h
    refine gt_cVi (n := 0) (st := [.inl a.2]) C (eX4_spots X.2.1 D cI cZ K hq0 hU hq) gX1_gatherLabels_X4_spots rfl (by decide +kernel) rfl ⟨Nat.le_of_ble_eq_true rfl, Nat.le_of_ble_eq_true rfl⟩ hU.1 rfl rfl (Nat.le_of_ble_eq_true rfl) rfl dX1_gatherLabels_9 (fun σ' hp => ?_)
    subst hp
    refine ga_icmp_ge (tgt := 30) C dX1_gatherLabels_12 (by decide) (fun c1 => ?_) (fun c1 => ?_)
    · have h := gt_ip h c1
      refine ga_iconst C dX1_gatherLabels_30 ⟨by decide, by decide⟩ ?_
      refine ga_istore_n C dX1_gatherLabels_31 rfl (by decide) ?_
      exact gX1_gatherLabels_32 C hRet hr0 hq0 hdis gt_fuel (a.1, (0 : Int)) _ _ hW hF hU (gt_un (by decide) hl0) gt_us h
    · have h := gt_in h c1
      refine ga_aload_n C dX1_gatherLabels_15 rfl hl0 hr0 ?_
      refine ga_aload_n C dX1_gatherLabels_16 rfl hl1 hq0 ?_
      refine ga_iload_n C dX1_gatherLabels_17 rfl hl2 ?_
      obtain ⟨q18, hq, h⟩ := Option.bind_eq_some_iff.mp h
      refine gt_cVi (n := 1) (st := [.inr r]) C (eX4_label X.2.1 D cI cZ K hq0 hU hq) gX1_gatherLabels_X4_label rfl (by decide +kernel) rfl ⟨Nat.le_of_ble_eq_true rfl, Nat.le_of_ble_eq_true rfl⟩ hU.1 rfl rfl (Nat.le_of_ble_eq_true rfl) rfl dX1_gatherLabels_18 (fun σ' hp => ?_)
      subst hp
      obtain ⟨q21, hq, h⟩ := Option.bind_eq_some_iff.mp h
      refine gt_cVv (n := 1) (st := []) C (eX1_countLabel X.2.1 D cI cZ K hr0 hW hq) gX1_gatherLabels_X1_countLabel rfl (by decide +kernel) rfl ⟨Nat.le_of_ble_eq_true rfl, Nat.le_of_ble_eq_true rfl⟩ hW.1 rfl rfl (Nat.le_of_ble_eq_true rfl) rfl dX1_gatherLabels_21 (fun σ' hp => ?_)
      obtain ⟨hw, hf⟩ := hp
      have hF := hF.tr hf (Nat.le_refl _) (Nat.le_refl _)
      have hU := hU.keep okX4 (fun k q1 q2 => hf k (by omega)) (by decide)
      have hW := hw
      clear hf
      obtain ⟨hg, h⟩ := gt_gd h
      have g24_0 := hg
      refine ga_iinc C dX1_gatherLabels_24 hl2 g24_0 ?_
      refine ga_goto (tgt := 7) C dX1_gatherLabels_27 (by decide) ?_
      exact hk7 (q21, a.2 + (1 : Int)) _ _ hW hF hU (gt_un (by decide) hl0) (gt_un (by decide) hl1) gt_us h
set_option maxHeartbeats 4000000 in
theorem gX1_gatherLabels_0 {X : ga_X} {D : va_G} {cI cZ : ClassId} {K : Nat} {r : Nat} {σ0 : ga_S} {q : Nat} {res : gt_T × Int} {u : gt_T} (C : ga_C X cX1_gatherLabels yX1_gatherLabels wsX1_gatherLabels [] (gt_rm 2 45) (D, vwCl, cI, cZ) 3) (hRet : ∀ (pc : Nat) (lv : Nat → Option ga_V) (σ' : ga_S) (z : Int), decode cX1_gatherLabels pc = .ok (.ireturn, 1) → z = res.2 → (gt_O SX1 1 r res.1 σ' ∧ gt_F r (r + 6) σ0 σ') → ga_G X 0 0 K pc lv [.inl z] σ') (hr0 : r ≠ 0) (hq0 : q ≠ 0) (hdis : q + 3 ≤ r ∨ r + 6 ≤ q) {T : gt_T} {σ : ga_S} {lv : Nat → Option ga_V} (hW : gt_O SX1 1 r T σ) (hF : gt_F r (r + 6) σ0 σ) (hU : gt_O SX4 4 q u σ) (hl0 : lv 0 = some (.inr r)) (hl1 : lv 1 = some (.inr q)) (h : fX1_gatherLabels u T = some res) : ga_G X 0 0 K 0 lv [] σ := by
  unfold fX1_gatherLabels at h
  refine ga_aload_n C dX1_gatherLabels_0 rfl hl0 hr0 ?_
  refine ga_iconst C dX1_gatherLabels_1 ⟨by decide, by decide⟩ ?_
  refine gt_puti C okX1 (by decide) (iX1_gatherLabels_X1) tyX1 tyX1_ok nmX1 hW hF ⟨Nat.le_refl _, Nat.le_refl _⟩ 5 rfl rfl (by decide) kX1_gatherLabels_27 rfl (by decide +kernel) dX1_gatherLabels_2 (fun σ hW hF hf => ?_)
  have hU := hU.keep okX4 (fun k q1 q2 => hf k (by omega)) (by decide)
  refine ga_iconst C dX1_gatherLabels_5 ⟨by decide, by decide⟩ ?_
  refine ga_istore_n C dX1_gatherLabels_6 rfl (by decide) ?_
  exact gX1_gatherLabels_7 C hRet hr0 hq0 hdis gt_fuel (((va_up T.1 5 (0 : Int)), T.2), (0 : Int)) _ _ hW hF hU (gt_un (by decide) hl0) (gt_un (by decide) hl1) gt_us h
set_option maxHeartbeats 4000000 in
theorem eX1_gatherLabels (l : Launch) (D : va_G) (cI cZ : ClassId) (K : Nat) {r : Nat} (hr0 : r ≠ 0) {q : Nat} (hq0 : q ≠ 0) (hdis : q + 3 ≤ r ∨ r + 6 ≤ q) {σ : ga_S} {T : gt_T} (hW : gt_O SX1 1 r T σ) {u : gt_T} (hU : gt_O SX4 4 q u σ) {res : gt_T × Int} (h : fX1_gatherLabels u T = some res) : ga_Ev l (D, vwCl, cI, cZ) yX1_gatherLabels wsX1_gatherLabels (gt_rm 2 45) [] 0 0 K [.inr r, .inr q] σ (fun σ' rv => (gt_O SX1 1 r res.1 σ' ∧ gt_F r (r + 6) σ σ') ∧ rv = some (.inl res.2)) := by
  refine ga_ofI (by decide +kernel) rfl gt_hcl (Nat.le_of_ble_eq_true rfl) (fun X hX C hret => ?_)
  exact gX1_gatherLabels_0 C (fun pc lv σ' z d hz hp => hret pc lv σ' z d ⟨hp, by rw [hz]⟩) hr0 hq0 hdis hW gt_F.rf hU rfl rfl h
-- X1_rank: rank(I)I
def fX1_rank_29 (T : gt_T) (s0 : Int) : Option (Int) :=
  some s0
def fX1_rank_28 (T : gt_T) : Option (Int) :=
  fX1_rank_29 T (-1 : Int)
def fX1_rank (T : gt_T) (l1 : Int) : Option (Int) :=
  (fX1_countLess T l1).bind (fun (q2 : Int) => (fX1_has T q2).bind (fun (q8 : Int) => (if q8 = 0 then fX1_rank_28 T else (if (0 ≤ q2 ∧ q2 < 80) then (if (T.2 0 q2.toNat) = l1 then fX1_rank_29 T q2 else fX1_rank_28 T) else none))))
theorem iX1_rank_X1 : ∀ w ∈ u_ws RX1 TX1 6, w ∈ wsX1_rank := by decide +kernel
theorem kX1_rank_9 : Cond.fieldLink yX1_rank.cls 9 (TX1 0).1 (TX1 0).2.1 (TX1 0).2.2.1 ∈ wsX1_rank := by decide +kernel
set_option maxHeartbeats 4000000 in
theorem gX1_rank_29 {X : ga_X} {D : va_G} {cI cZ : ClassId} {K : Nat} {r : Nat} {res : Int} {T : gt_T} {σ : ga_S} (C : ga_C X cX1_rank yX1_rank wsX1_rank [] (gt_rm 1 22) (D, vwCl, cI, cZ) 3) (hRet : ∀ (pc : Nat) (lv : Nat → Option ga_V) (σ' : ga_S) (z : Int), decode cX1_rank pc = .ok (.ireturn, 1) → z = res → (σ' = σ) → ga_G X 0 0 K pc lv [.inl z] σ') (hr0 : r ≠ 0) {s0 : Int} {lv : Nat → Option ga_V} (hW : gt_O SX1 1 r T σ) (h : fX1_rank_29 T s0 = some res) : ga_G X 0 0 K 29 lv [.inl s0] σ := by
  unfold fX1_rank_29 at h
  cases h
  exact hRet _ _ _ _ dX1_rank_29 rfl rfl
set_option maxHeartbeats 4000000 in
theorem gX1_rank_28 {X : ga_X} {D : va_G} {cI cZ : ClassId} {K : Nat} {r : Nat} {res : Int} {T : gt_T} {σ : ga_S} (C : ga_C X cX1_rank yX1_rank wsX1_rank [] (gt_rm 1 22) (D, vwCl, cI, cZ) 3) (hRet : ∀ (pc : Nat) (lv : Nat → Option ga_V) (σ' : ga_S) (z : Int), decode cX1_rank pc = .ok (.ireturn, 1) → z = res → (σ' = σ) → ga_G X 0 0 K pc lv [.inl z] σ') (hr0 : r ≠ 0) {lv : Nat → Option ga_V} (hW : gt_O SX1 1 r T σ) (h : fX1_rank_28 T = some res) : ga_G X 0 0 K 28 lv [] σ := by
  unfold fX1_rank_28 at h
  refine ga_iconst C dX1_rank_28 ⟨by decide, by decide⟩ ?_
  exact gX1_rank_29 C hRet hr0 hW h
set_option maxHeartbeats 4000000 in
theorem gX1_rank_0 {X : ga_X} {D : va_G} {cI cZ : ClassId} {K : Nat} {r : Nat} {res : Int} {T : gt_T} {σ : ga_S} (C : ga_C X cX1_rank yX1_rank wsX1_rank [] (gt_rm 1 22) (D, vwCl, cI, cZ) 3) (hRet : ∀ (pc : Nat) (lv : Nat → Option ga_V) (σ' : ga_S) (z : Int), decode cX1_rank pc = .ok (.ireturn, 1) → z = res → (σ' = σ) → ga_G X 0 0 K pc lv [.inl z] σ') (hr0 : r ≠ 0) {l1 : Int} {lv : Nat → Option ga_V} (hW : gt_O SX1 1 r T σ) (hl0 : lv 0 = some (.inr r)) (hl1 : lv 1 = some (.inl l1)) (h : fX1_rank T l1 = some res) : ga_G X 0 0 K 0 lv [] σ := by
  unfold fX1_rank at h
  refine ga_aload_n C dX1_rank_0 rfl hl0 hr0 ?_
  refine ga_iload_n C dX1_rank_1 rfl hl1 ?_
  obtain ⟨q2, hq, h⟩ := Option.bind_eq_some_iff.mp h
  refine gt_cVi (n := 1) (st := []) C (eX1_countLess X.2.1 D cI cZ K hr0 hW hq) gX1_rank_X1_countLess rfl (by decide +kernel) rfl ⟨Nat.le_of_ble_eq_true rfl, Nat.le_of_ble_eq_true rfl⟩ hW.1 rfl rfl (Nat.le_of_ble_eq_true rfl) rfl dX1_rank_2 (fun σ' hp => ?_)
  subst hp
  refine ga_istore_n C dX1_rank_5 rfl (by decide) ?_
  refine ga_aload_n C dX1_rank_6 rfl (gt_un (by decide) hl0) hr0 ?_
  refine ga_iload_n C dX1_rank_7 rfl gt_us ?_
  obtain ⟨q8, hq, h⟩ := Option.bind_eq_some_iff.mp h
  refine gt_cVi (n := 1) (st := []) C (eX1_has X.2.1 D cI cZ K hr0 hW hq) gX1_rank_X1_has rfl (by decide +kernel) rfl ⟨Nat.le_of_ble_eq_true rfl, Nat.le_of_ble_eq_true rfl⟩ hW.1 rfl rfl (Nat.le_of_ble_eq_true rfl) rfl dX1_rank_8 (fun σ' hp => ?_)
  subst hp
  refine ga_if_eq (tgt := 28) C dX1_rank_11 (by decide) (fun c1 => ?_) (fun c1 => ?_)
  · have h := gt_ip h c1
    exact gX1_rank_28 C hRet hr0 hW h
  · have h := gt_in h c1
    obtain ⟨hg, h⟩ := gt_gd h
    have g19_0 := hg
    refine ga_aload_n C dX1_rank_14 rfl (gt_un (by decide) hl0) hr0 ?_
    refine gt_geta C (iX1_rank_X1) hW 0 rfl rfl (by decide) kX1_rank_9 dX1_rank_15 ?_
    refine ga_iload_n C dX1_rank_18 rfl gt_us ?_
    refine gt_iald C hW 0 rfl g19_0.1 g19_0.2 dX1_rank_19 ?_
    refine ga_iload_n C dX1_rank_20 rfl (gt_un (by decide) hl1) ?_
    refine ga_icmp_ne (tgt := 28) C dX1_rank_21 (by decide) (fun c1 => ?_) (fun c1 => ?_)
    · have h := gt_in h c1
      exact gX1_rank_28 C hRet hr0 hW h
    · have h := gt_ip h c1
      refine ga_iload_n C dX1_rank_24 rfl gt_us ?_
      refine ga_goto (tgt := 29) C dX1_rank_25 (by decide) ?_
      exact gX1_rank_29 C hRet hr0 hW h
set_option maxHeartbeats 4000000 in
theorem eX1_rank (l : Launch) (D : va_G) (cI cZ : ClassId) (K : Nat) {r : Nat} (hr0 : r ≠ 0) {σ : ga_S} {T : gt_T} (hW : gt_O SX1 1 r T σ) {l1 : Int} {res : Int} (h : fX1_rank T l1 = some res) : ga_Ev l (D, vwCl, cI, cZ) yX1_rank wsX1_rank (gt_rm 1 22) [] 0 0 K [.inr r, .inl l1] σ (fun σ' rv => (σ' = σ) ∧ rv = some (.inl res)) := by
  refine ga_ofI (by decide +kernel) rfl gt_hcl (Nat.le_of_ble_eq_true rfl) (fun X hX C hret => ?_)
  exact gX1_rank_0 C (fun pc lv σ' z d hz hp => hret pc lv σ' z d ⟨hp, by rw [hz]⟩) hr0 hW rfl rfl h
-- X1_noteEnd: noteEnd(IIZ)V
def fX1_noteEnd_18 (T : gt_T) : Option (gt_T) :=
  some T
def fX1_noteEnd_47 (T : gt_T) : Option (gt_T) :=
  some T
def fX1_noteEnd (T : gt_T) (l1 l2 l3 : Int) : Option (gt_T) :=
  (if l1 < 0 then fX1_noteEnd_18 T else (if (80 : Int) ≤ l1 then fX1_noteEnd_18 T else (fX1_has T l2).bind (fun (q12 : Int) => (if q12 = 0 then fX1_noteEnd_18 T else (if (0 ≤ l1 ∧ l1 < 80) then (if l3 = 0 then (if (0 ≤ l2 ∧ l2 < 80) then fX1_noteEnd_47 (T.1, (va_up (va_up T.2 4 (va_up (T.2 4) l1.toNat l2)) 3 (va_up ((va_up T.2 4 (va_up (T.2 4) l1.toNat l2)) 3) l2.toNat l1))) else none) else (if (0 ≤ l2 ∧ l2 < 80) then fX1_noteEnd_47 (T.1, (va_up (va_up T.2 4 (va_up (T.2 4) l1.toNat l2)) 2 (va_up ((va_up T.2 4 (va_up (T.2 4) l1.toNat l2)) 2) l2.toNat l1))) else none)) else none)))))
theorem iX1_noteEnd_X1 : ∀ w ∈ u_ws RX1 TX1 6, w ∈ wsX1_noteEnd := by decide +kernel
theorem kX1_noteEnd_18 : Cond.fieldLink yX1_noteEnd.cls 18 (TX1 2).1 (TX1 2).2.1 (TX1 2).2.2.1 ∈ wsX1_noteEnd := by decide +kernel
theorem kX1_noteEnd_21 : Cond.fieldLink yX1_noteEnd.cls 21 (TX1 3).1 (TX1 3).2.1 (TX1 3).2.2.1 ∈ wsX1_noteEnd := by decide +kernel
theorem kX1_noteEnd_24 : Cond.fieldLink yX1_noteEnd.cls 24 (TX1 4).1 (TX1 4).2.1 (TX1 4).2.2.1 ∈ wsX1_noteEnd := by decide +kernel
set_option maxHeartbeats 4000000 in
theorem gX1_noteEnd_18 {X : ga_X} {D : va_G} {cI cZ : ClassId} {K : Nat} {r : Nat} {σ0 : ga_S} {res : gt_T} (C : ga_C X cX1_noteEnd yX1_noteEnd wsX1_noteEnd [] (gt_rm 1 21) (D, vwCl, cI, cZ) 4) (hRet : ∀ (pc : Nat) (lv : Nat → Option ga_V) (σ' : ga_S), decode cX1_noteEnd pc = .ok (.return_, 1) → (gt_O SX1 1 r res σ' ∧ gt_F r (r + 6) σ0 σ') → ga_G X 0 0 K pc lv [] σ') (hr0 : r ≠ 0) {T : gt_T} {σ : ga_S} {lv : Nat → Option ga_V} (hW : gt_O SX1 1 r T σ) (hF : gt_F r (r + 6) σ0 σ) (h : fX1_noteEnd_18 T = some res) : ga_G X 0 0 K 18 lv [] σ := by
  unfold fX1_noteEnd_18 at h
  cases h
  exact hRet _ _ _ dX1_noteEnd_18 ⟨hW, hF⟩
set_option maxHeartbeats 4000000 in
theorem gX1_noteEnd_47 {X : ga_X} {D : va_G} {cI cZ : ClassId} {K : Nat} {r : Nat} {σ0 : ga_S} {res : gt_T} (C : ga_C X cX1_noteEnd yX1_noteEnd wsX1_noteEnd [] (gt_rm 1 21) (D, vwCl, cI, cZ) 4) (hRet : ∀ (pc : Nat) (lv : Nat → Option ga_V) (σ' : ga_S), decode cX1_noteEnd pc = .ok (.return_, 1) → (gt_O SX1 1 r res σ' ∧ gt_F r (r + 6) σ0 σ') → ga_G X 0 0 K pc lv [] σ') (hr0 : r ≠ 0) {T : gt_T} {σ : ga_S} {lv : Nat → Option ga_V} (hW : gt_O SX1 1 r T σ) (hF : gt_F r (r + 6) σ0 σ) (h : fX1_noteEnd_47 T = some res) : ga_G X 0 0 K 47 lv [] σ := by
  unfold fX1_noteEnd_47 at h
  cases h
  exact hRet _ _ _ dX1_noteEnd_47 ⟨hW, hF⟩
set_option maxHeartbeats 4000000 in
theorem gX1_noteEnd_0 {X : ga_X} {D : va_G} {cI cZ : ClassId} {K : Nat} {r : Nat} {σ0 : ga_S} {res : gt_T} (C : ga_C X cX1_noteEnd yX1_noteEnd wsX1_noteEnd [] (gt_rm 1 21) (D, vwCl, cI, cZ) 4) (hRet : ∀ (pc : Nat) (lv : Nat → Option ga_V) (σ' : ga_S), decode cX1_noteEnd pc = .ok (.return_, 1) → (gt_O SX1 1 r res σ' ∧ gt_F r (r + 6) σ0 σ') → ga_G X 0 0 K pc lv [] σ') (hr0 : r ≠ 0) {T : gt_T} {σ : ga_S} {l1 l2 l3 : Int} {lv : Nat → Option ga_V} (hW : gt_O SX1 1 r T σ) (hF : gt_F r (r + 6) σ0 σ) (hl0 : lv 0 = some (.inr r)) (hl1 : lv 1 = some (.inl l1)) (hl2 : lv 2 = some (.inl l2)) (hl3 : lv 3 = some (.inl l3)) (h : fX1_noteEnd T l1 l2 l3 = some res) : ga_G X 0 0 K 0 lv [] σ := by
  unfold fX1_noteEnd at h
  refine ga_iload_n C dX1_noteEnd_0 rfl hl1 ?_
  refine ga_if_lt (tgt := 18) C dX1_noteEnd_1 (by decide) (fun c1 => ?_) (fun c1 => ?_)
  · have h := gt_ip h c1
    exact gX1_noteEnd_18 C hRet hr0 hW hF h
  · have h := gt_in h c1
    refine ga_iload_n C dX1_noteEnd_4 rfl hl1 ?_
    refine ga_bipush C dX1_noteEnd_5 ⟨by decide, by decide⟩ (by decide) ?_
    refine ga_icmp_ge (tgt := 18) C dX1_noteEnd_7 (by decide) (fun c1 => ?_) (fun c1 => ?_)
    · have h := gt_ip h c1
      exact gX1_noteEnd_18 C hRet hr0 hW hF h
    · have h := gt_in h c1
      refine ga_aload_n C dX1_noteEnd_10 rfl hl0 hr0 ?_
      refine ga_iload_n C dX1_noteEnd_11 rfl hl2 ?_
      obtain ⟨q12, hq, h⟩ := Option.bind_eq_some_iff.mp h
      refine gt_cVi (n := 1) (st := []) C (eX1_has X.2.1 D cI cZ K hr0 hW hq) gX1_noteEnd_X1_has rfl (by decide +kernel) rfl ⟨Nat.le_of_ble_eq_true rfl, Nat.le_of_ble_eq_true rfl⟩ hW.1 rfl rfl (Nat.le_of_ble_eq_true rfl) rfl dX1_noteEnd_12 (fun σ' hp => ?_)
      subst hp
      refine ga_if_ne (tgt := 19) C dX1_noteEnd_15 (by decide) (fun c1 => ?_) (fun c1 => ?_)
      · have h := gt_in h c1
        obtain ⟨hg, h⟩ := gt_gd h
        have g25_0 := hg
        refine ga_aload_n C dX1_noteEnd_19 rfl hl0 hr0 ?_
        refine gt_geta C (iX1_noteEnd_X1) hW 4 rfl rfl (by decide) kX1_noteEnd_24 dX1_noteEnd_20 ?_
        refine ga_iload_n C dX1_noteEnd_23 rfl hl1 ?_
        refine ga_iload_n C dX1_noteEnd_24 rfl hl2 ?_
        refine gt_iast C okX1 hW hF ⟨Nat.le_refl _, Nat.le_refl _⟩ 4 rfl g25_0.1 g25_0.2 dX1_noteEnd_25 (fun σ hW hF hf => ?_)
        refine ga_iload_n C dX1_noteEnd_26 rfl hl3 ?_
        refine ga_if_eq (tgt := 40) C dX1_noteEnd_27 (by decide) (fun c1 => ?_) (fun c1 => ?_)
        · have h := gt_ip h c1
          obtain ⟨hg, h⟩ := gt_gd h
          have g46_0 := hg
          refine ga_aload_n C dX1_noteEnd_40 rfl hl0 hr0 ?_
          refine gt_geta C (iX1_noteEnd_X1) hW 3 rfl rfl (by decide) kX1_noteEnd_21 dX1_noteEnd_41 ?_
          refine ga_iload_n C dX1_noteEnd_44 rfl hl2 ?_
          refine ga_iload_n C dX1_noteEnd_45 rfl hl1 ?_
          refine gt_iast C okX1 hW hF ⟨Nat.le_refl _, Nat.le_refl _⟩ 3 rfl g46_0.1 g46_0.2 dX1_noteEnd_46 (fun σ hW hF hf => ?_)
          exact gX1_noteEnd_47 C hRet hr0 hW hF h
        · have h := gt_in h c1
          obtain ⟨hg, h⟩ := gt_gd h
          have g36_0 := hg
          refine ga_aload_n C dX1_noteEnd_30 rfl hl0 hr0 ?_
          refine gt_geta C (iX1_noteEnd_X1) hW 2 rfl rfl (by decide) kX1_noteEnd_18 dX1_noteEnd_31 ?_
          refine ga_iload_n C dX1_noteEnd_34 rfl hl2 ?_
          refine ga_iload_n C dX1_noteEnd_35 rfl hl1 ?_
          refine gt_iast C okX1 hW hF ⟨Nat.le_refl _, Nat.le_refl _⟩ 2 rfl g36_0.1 g36_0.2 dX1_noteEnd_36 (fun σ hW hF hf => ?_)
          refine ga_goto (tgt := 47) C dX1_noteEnd_37 (by decide) ?_
          exact gX1_noteEnd_47 C hRet hr0 hW hF h
      · have h := gt_ip h c1
        exact gX1_noteEnd_18 C hRet hr0 hW hF h
set_option maxHeartbeats 4000000 in
theorem eX1_noteEnd (l : Launch) (D : va_G) (cI cZ : ClassId) (K : Nat) {r : Nat} (hr0 : r ≠ 0) {σ : ga_S} {T : gt_T} (hW : gt_O SX1 1 r T σ) {l1 l2 l3 : Int} {res : gt_T} (h : fX1_noteEnd T l1 l2 l3 = some res) : ga_Ev l (D, vwCl, cI, cZ) yX1_noteEnd wsX1_noteEnd (gt_rm 1 21) [] 0 0 K [.inr r, .inl l1, .inl l2, .inl l3] σ (fun σ' rv => (gt_O SX1 1 r res σ' ∧ gt_F r (r + 6) σ σ') ∧ rv = none) := by
  refine ga_ofV (by decide +kernel) rfl gt_hcl (Nat.le_of_ble_eq_true rfl) (fun X hX C hret => ?_)
  exact gX1_noteEnd_0 C (fun pc lv σ' d hp => hret pc lv σ' d ⟨hp, rfl⟩) hr0 hW gt_F.rf rfl rfl rfl rfl h
-- X1_findEnds: findEnds(LDiagramCode$Row;)I
def fX1_findEnds_81 (u : gt_T) (T : gt_T) (l2 : Int) : Option (gt_T × Int) :=
  (if (0 ≤ l2 ∧ l2 < 80) then some (T, T.2 0 l2.toNat) else none)
def fX1_findEnds_53 (u : gt_T) (k53 : gt_T × Int → Option (gt_T × Int)) (a : gt_T × Int) : Option (gt_T × Int) :=
  (if (a.1.1 5) ≤ a.2 then some (a.1, (-1 : Int)) else (if (0 ≤ a.2 ∧ a.2 < 80) then (if (a.1.2 2 a.2.toNat) = (-1 : Int) then fX1_findEnds_81 u a.1 a.2 else (if (0 ≤ a.2 ∧ a.2 < 80) then (if (a.1.2 3 a.2.toNat) = (-1 : Int) then fX1_findEnds_81 u a.1 a.2 else (if (-2147483648 ≤ a.2 + (1 : Int) ∧ a.2 + (1 : Int) < 2147483648) then k53 (a.1, a.2 + (1 : Int)) else none)) else none)) else none))
def fX1_findEnds_18 (u : gt_T) (k18 : gt_T × Int → Option (gt_T × Int)) (a : gt_T × Int) : Option (gt_T × Int) :=
  (fX4_spots u).bind (fun (q20 : Int) => (if q20 ≤ a.2 then gt_loop (fX1_findEnds_53 u) gt_fuel (a.1, (0 : Int)) else (fX4_label u a.2).bind (fun (q31 : Int) => (fX1_rank a.1 q31).bind (fun (q34 : Int) => (fX4_goesOut u a.2).bind (fun (q39 : Int) => (fX1_noteEnd a.1 a.2 q34 q39).bind (fun (q42 : gt_T) => (if (-2147483648 ≤ a.2 + (1 : Int) ∧ a.2 + (1 : Int) < 2147483648) then k18 (q42, a.2 + (1 : Int)) else none)))))))
def fX1_findEnds (u : gt_T) (T : gt_T) : Option (gt_T × Int) :=
  gt_loop (fX1_findEnds_18 u) gt_fuel ((T.1, (va_up (va_up T.2 2 (gt_fill (T.2 2) 80 (-1 : Int))) 3 (gt_fill ((va_up T.2 2 (gt_fill (T.2 2) 80 (-1 : Int))) 3) 80 (-1 : Int)))), (0 : Int))
theorem iX1_findEnds_X1 : ∀ w ∈ u_ws RX1 TX1 6, w ∈ wsX1_findEnds := by decide +kernel
theorem kX1_findEnds_9 : Cond.fieldLink yX1_findEnds.cls 9 (TX1 0).1 (TX1 0).2.1 (TX1 0).2.2.1 ∈ wsX1_findEnds := by decide +kernel
theorem kX1_findEnds_18 : Cond.fieldLink yX1_findEnds.cls 18 (TX1 2).1 (TX1 2).2.1 (TX1 2).2.2.1 ∈ wsX1_findEnds := by decide +kernel
theorem kX1_findEnds_21 : Cond.fieldLink yX1_findEnds.cls 21 (TX1 3).1 (TX1 3).2.1 (TX1 3).2.2.1 ∈ wsX1_findEnds := by decide +kernel
theorem kX1_findEnds_27 : Cond.fieldLink yX1_findEnds.cls 27 (TX1 5).1 (TX1 5).2.1 (TX1 5).2.2.1 ∈ wsX1_findEnds := by decide +kernel
set_option maxHeartbeats 4000000 in
theorem gX1_findEnds_81 {X : ga_X} {D : va_G} {cI cZ : ClassId} {K : Nat} {r : Nat} {σ0 : ga_S} {q : Nat} {res : gt_T × Int} {u : gt_T} (C : ga_C X cX1_findEnds yX1_findEnds wsX1_findEnds [] (gt_rm 4 85) (D, vwCl, cI, cZ) 3) (hRet : ∀ (pc : Nat) (lv : Nat → Option ga_V) (σ' : ga_S) (z : Int), decode cX1_findEnds pc = .ok (.ireturn, 1) → z = res.2 → (gt_O SX1 1 r res.1 σ' ∧ gt_F r (r + 6) σ0 σ') → ga_G X 0 0 K pc lv [.inl z] σ') (hr0 : r ≠ 0) (hq0 : q ≠ 0) (hdis : q + 3 ≤ r ∨ r + 6 ≤ q) {T : gt_T} {σ : ga_S} {l2 : Int} {lv : Nat → Option ga_V} (hW : gt_O SX1 1 r T σ) (hF : gt_F r (r + 6) σ0 σ) (hU : gt_O SX4 4 q u σ) (hl0 : lv 0 = some (.inr r)) (hl2 : lv 2 = some (.inl l2)) (h : fX1_findEnds_81 u T l2 = some res) : ga_G X 0 0 K 81 lv [] σ := by
  unfold fX1_findEnds_81 at h
  obtain ⟨hg, h⟩ := gt_gd h
  have g86_0 := hg
  refine ga_aload_n C dX1_findEnds_81 rfl hl0 hr0 ?_
  refine gt_geta C (iX1_findEnds_X1) hW 0 rfl rfl (by decide) kX1_findEnds_9 dX1_findEnds_82 ?_
  refine ga_iload_n C dX1_findEnds_85 rfl hl2 ?_
  refine gt_iald C hW 0 rfl g86_0.1 g86_0.2 dX1_findEnds_86 ?_
  cases h
  exact hRet _ _ _ _ dX1_findEnds_87 rfl ⟨hW, hF⟩
set_option maxHeartbeats 4000000 in
theorem gX1_findEnds_53 {X : ga_X} {D : va_G} {cI cZ : ClassId} {K : Nat} {r : Nat} {σ0 : ga_S} {q : Nat} {res : gt_T × Int} {u : gt_T} (C : ga_C X cX1_findEnds yX1_findEnds wsX1_findEnds [] (gt_rm 4 85) (D, vwCl, cI, cZ) 3) (hRet : ∀ (pc : Nat) (lv : Nat → Option ga_V) (σ' : ga_S) (z : Int), decode cX1_findEnds pc = .ok (.ireturn, 1) → z = res.2 → (gt_O SX1 1 r res.1 σ' ∧ gt_F r (r + 6) σ0 σ') → ga_G X 0 0 K pc lv [.inl z] σ') (hr0 : r ≠ 0) (hq0 : q ≠ 0) (hdis : q + 3 ≤ r ∨ r + 6 ≤ q) : ∀ (n : Nat) (a : gt_T × Int) (σ : ga_S) (lv : Nat → Option ga_V), gt_O SX1 1 r a.1 σ → gt_F r (r + 6) σ0 σ → gt_O SX4 4 q u σ → lv 0 = some (.inr r) → lv 2 = some (.inl a.2) → gt_loop (fX1_findEnds_53 u) n a = some res → ga_G X 0 0 K 53 lv [] σ := by
  intro n
  induction n with
  | zero =>
    intro a _ lv _ _ _ _ _ h
    exact absurd (show (none : Option _) = some _ from h) (fun q => by cases q)
  | succ n hk53 =>
    intro a σ lv hW hF hU hl0 hl2 h
    have h : fX1_findEnds_53 u (gt_loop (fX1_findEnds_53 u) n) a = some res := h
    revert hk53 h
    generalize gt_loop (fX1_findEnds_53 u) n = k53
    intro hk53 h
    unfold fX1_findEnds_53 at h
    refine ga_iload_n C dX1_findEnds_53 rfl hl2 ?_
    refine ga_aload_n C dX1_findEnds_54 rfl hl0 hr0 ?_
    refine gt_geti C (iX1_findEnds_X1) hW 5 rfl rfl (by decide) kX1_findEnds_27 dX1_findEnds_55 ?_
    refine ga_icmp_ge (tgt := 94) C dX1_findEnds_58 (by decide) (fun c1 => ?_) (fun c1 => ?_)
    · have h := gt_ip h c1
      refine ga_iconst C dX1_findEnds_94 ⟨by decide, by decide⟩ ?_
      cases h
      exact hRet _ _ _ _ dX1_findEnds_95 rfl ⟨hW, hF⟩
    · have h := gt_in h c1
      obtain ⟨hg, h⟩ := gt_gd h
      have g66_0 := hg
      refine ga_aload_n C dX1_findEnds_61 rfl hl0 hr0 ?_
      refine gt_geta C (iX1_findEnds_X1) hW 2 rfl rfl (by decide) kX1_findEnds_18 dX1_findEnds_62 ?_
      refine ga_iload_n C dX1_findEnds_65 rfl hl2 ?_
      refine gt_iald C hW 2 rfl g66_0.1 g66_0.2 dX1_findEnds_66 ?_
      refine ga_iconst C dX1_findEnds_67 ⟨by decide, by decide⟩ ?_
      refine ga_icmp_eq (tgt := 81) C dX1_findEnds_68 (by decide) (fun c1 => ?_) (fun c1 => ?_)
      · have h := gt_ip h c1
        exact gX1_findEnds_81 C hRet hr0 hq0 hdis hW hF hU hl0 hl2 h
      · have h := gt_in h c1
        obtain ⟨hg, h⟩ := gt_gd h
        have g76_0 := hg
        refine ga_aload_n C dX1_findEnds_71 rfl hl0 hr0 ?_
        refine gt_geta C (iX1_findEnds_X1) hW 3 rfl rfl (by decide) kX1_findEnds_21 dX1_findEnds_72 ?_
        refine ga_iload_n C dX1_findEnds_75 rfl hl2 ?_
        refine gt_iald C hW 3 rfl g76_0.1 g76_0.2 dX1_findEnds_76 ?_
        refine ga_iconst C dX1_findEnds_77 ⟨by decide, by decide⟩ ?_
        refine ga_icmp_ne (tgt := 88) C dX1_findEnds_78 (by decide) (fun c1 => ?_) (fun c1 => ?_)
        · have h := gt_in h c1
          obtain ⟨hg, h⟩ := gt_gd h
          have g88_0 := hg
          refine ga_iinc C dX1_findEnds_88 hl2 g88_0 ?_
          refine ga_goto (tgt := 53) C dX1_findEnds_91 (by decide) ?_
          exact hk53 (a.1, a.2 + (1 : Int)) _ _ hW hF hU (gt_un (by decide) hl0) gt_us h
        · have h := gt_ip h c1
          exact gX1_findEnds_81 C hRet hr0 hq0 hdis hW hF hU hl0 hl2 h
set_option maxHeartbeats 4000000 in
theorem gX1_findEnds_18 {X : ga_X} {D : va_G} {cI cZ : ClassId} {K : Nat} {r : Nat} {σ0 : ga_S} {q : Nat} {res : gt_T × Int} {u : gt_T} (C : ga_C X cX1_findEnds yX1_findEnds wsX1_findEnds [] (gt_rm 4 85) (D, vwCl, cI, cZ) 3) (hRet : ∀ (pc : Nat) (lv : Nat → Option ga_V) (σ' : ga_S) (z : Int), decode cX1_findEnds pc = .ok (.ireturn, 1) → z = res.2 → (gt_O SX1 1 r res.1 σ' ∧ gt_F r (r + 6) σ0 σ') → ga_G X 0 0 K pc lv [.inl z] σ') (hr0 : r ≠ 0) (hq0 : q ≠ 0) (hdis : q + 3 ≤ r ∨ r + 6 ≤ q) : ∀ (n : Nat) (a : gt_T × Int) (σ : ga_S) (lv : Nat → Option ga_V), gt_O SX1 1 r a.1 σ → gt_F r (r + 6) σ0 σ → gt_O SX4 4 q u σ → lv 0 = some (.inr r) → lv 1 = some (.inr q) → lv 2 = some (.inl a.2) → gt_loop (fX1_findEnds_18 u) n a = some res → ga_G X 0 0 K 18 lv [] σ := by
  intro n
  induction n with
  | zero =>
    intro a _ lv _ _ _ _ _ _ h
    exact absurd (show (none : Option _) = some _ from h) (fun q => by cases q)
  | succ n hk18 =>
    intro a σ lv hW hF hU hl0 hl1 hl2 h
    have h : fX1_findEnds_18 u (gt_loop (fX1_findEnds_18 u) n) a = some res := h
    revert hk18 h
    generalize gt_loop (fX1_findEnds_18 u) n = k18
    intro hk18 h
    unfold fX1_findEnds_18 at h
    refine ga_iload_n C dX1_findEnds_18 rfl hl2 ?_
    refine ga_aload_n C dX1_findEnds_19 rfl hl1 hq0 ?_
    obtain ⟨q20, hq, h⟩ := Option.bind_eq_some_iff.mp h
    refine gt_cVi (n := 0) (st := [.inl a.2]) C (eX4_spots X.2.1 D cI cZ K hq0 hU hq) gX1_findEnds_X4_spots rfl (by decide +kernel) rfl ⟨Nat.le_of_ble_eq_true rfl, Nat.le_of_ble_eq_true rfl⟩ hU.1 rfl rfl (Nat.le_of_ble_eq_true rfl) rfl dX1_findEnds_20 (fun σ' hp => ?_)
    subst hp
    refine ga_icmp_ge (tgt := 51) C dX1_findEnds_23 (by decide) (fun c1 => ?_) (fun c1 => ?_)
    · have h := gt_ip h c1
      refine ga_iconst C dX1_findEnds_51 ⟨by decide, by decide⟩ ?_
      refine ga_istore_n C dX1_findEnds_52 rfl (by decide) ?_
      exact gX1_findEnds_53 C hRet hr0 hq0 hdis gt_fuel (a.1, (0 : Int)) _ _ hW hF hU (gt_un (by decide) hl0) gt_us h
    · have h := gt_in h c1
      refine ga_aload_n C dX1_findEnds_26 rfl hl0 hr0 ?_
      refine ga_iload_n C dX1_findEnds_27 rfl hl2 ?_
      refine ga_aload_n C dX1_findEnds_28 rfl hl0 hr0 ?_
      refine ga_aload_n C dX1_findEnds_29 rfl hl1 hq0 ?_
      refine ga_iload_n C dX1_findEnds_30 rfl hl2 ?_
      obtain ⟨q31, hq, h⟩ := Option.bind_eq_some_iff.mp h
      refine gt_cVi (n := 1) (st := [.inr r, .inl a.2, .inr r]) C (eX4_label X.2.1 D cI cZ K hq0 hU hq) gX1_findEnds_X4_label rfl (by decide +kernel) rfl ⟨Nat.le_of_ble_eq_true rfl, Nat.le_of_ble_eq_true rfl⟩ hU.1 rfl rfl (Nat.le_of_ble_eq_true rfl) rfl dX1_findEnds_31 (fun σ' hp => ?_)
      subst hp
      obtain ⟨q34, hq, h⟩ := Option.bind_eq_some_iff.mp h
      refine gt_cVi (n := 1) (st := [.inl a.2, .inr r]) C (eX1_rank X.2.1 D cI cZ K hr0 hW hq) gX1_findEnds_X1_rank rfl (by decide +kernel) rfl ⟨Nat.le_of_ble_eq_true rfl, Nat.le_of_ble_eq_true rfl⟩ hW.1 rfl rfl (Nat.le_of_ble_eq_true rfl) rfl dX1_findEnds_34 (fun σ' hp => ?_)
      subst hp
      refine ga_aload_n C dX1_findEnds_37 rfl hl1 hq0 ?_
      refine ga_iload_n C dX1_findEnds_38 rfl hl2 ?_
      obtain ⟨q39, hq, h⟩ := Option.bind_eq_some_iff.mp h
      refine gt_cVi (n := 1) (st := [.inl q34, .inl a.2, .inr r]) C (eX4_goesOut X.2.1 D cI cZ K hq0 hU hq) gX1_findEnds_X4_goesOut rfl (by decide +kernel) rfl ⟨Nat.le_of_ble_eq_true rfl, Nat.le_of_ble_eq_true rfl⟩ hU.1 rfl rfl (Nat.le_of_ble_eq_true rfl) rfl dX1_findEnds_39 (fun σ' hp => ?_)
      subst hp
      obtain ⟨q42, hq, h⟩ := Option.bind_eq_some_iff.mp h
      refine gt_cVv (n := 3) (st := []) C (eX1_noteEnd X.2.1 D cI cZ K hr0 hW hq) gX1_findEnds_X1_noteEnd rfl (by decide +kernel) rfl ⟨Nat.le_of_ble_eq_true rfl, Nat.le_of_ble_eq_true rfl⟩ hW.1 rfl rfl (Nat.le_of_ble_eq_true rfl) rfl dX1_findEnds_42 (fun σ' hp => ?_)
      obtain ⟨hw, hf⟩ := hp
      have hF := hF.tr hf (Nat.le_refl _) (Nat.le_refl _)
      have hU := hU.keep okX4 (fun k q1 q2 => hf k (by omega)) (by decide)
      have hW := hw
      clear hf
      obtain ⟨hg, h⟩ := gt_gd h
      have g45_0 := hg
      refine ga_iinc C dX1_findEnds_45 hl2 g45_0 ?_
      refine ga_goto (tgt := 18) C dX1_findEnds_48 (by decide) ?_
      exact hk18 (q42, a.2 + (1 : Int)) _ _ hW hF hU (gt_un (by decide) hl0) (gt_un (by decide) hl1) gt_us h
set_option maxHeartbeats 4000000 in
theorem gX1_findEnds_0 {X : ga_X} {D : va_G} {cI cZ : ClassId} {K : Nat} {r : Nat} {σ0 : ga_S} {q : Nat} {res : gt_T × Int} {u : gt_T} (C : ga_C X cX1_findEnds yX1_findEnds wsX1_findEnds [] (gt_rm 4 85) (D, vwCl, cI, cZ) 3) (hRet : ∀ (pc : Nat) (lv : Nat → Option ga_V) (σ' : ga_S) (z : Int), decode cX1_findEnds pc = .ok (.ireturn, 1) → z = res.2 → (gt_O SX1 1 r res.1 σ' ∧ gt_F r (r + 6) σ0 σ') → ga_G X 0 0 K pc lv [.inl z] σ') (hr0 : r ≠ 0) (hq0 : q ≠ 0) (hdis : q + 3 ≤ r ∨ r + 6 ≤ q) {T : gt_T} {σ : ga_S} {lv : Nat → Option ga_V} (hW : gt_O SX1 1 r T σ) (hF : gt_F r (r + 6) σ0 σ) (hU : gt_O SX4 4 q u σ) (hl0 : lv 0 = some (.inr r)) (hl1 : lv 1 = some (.inr q)) (h : fX1_findEnds u T = some res) : ga_G X 0 0 K 0 lv [] σ := by
  unfold fX1_findEnds at h
  refine ga_aload_n C dX1_findEnds_0 rfl hl0 hr0 ?_
  refine gt_geta C (iX1_findEnds_X1) hW 2 rfl rfl (by decide) kX1_findEnds_18 dX1_findEnds_1 ?_
  refine ga_iconst C dX1_findEnds_4 ⟨by decide, by decide⟩ ?_
  refine gt_cSv (n := 2) (st := []) C (eJ7_fill X.2.1 D cI cZ K ((hW.2 2 3 80).1 rfl) (by decide) (Nat.ne_of_gt (Nat.lt_of_lt_of_le (Nat.pos_of_ne_zero hr0) (Nat.le_add_right _ _)))) gX1_findEnds_J7_fill_53178 rfl (by decide +kernel) rfl ⟨Nat.le_of_ble_eq_true rfl, Nat.le_of_ble_eq_true rfl⟩ (Nat.le_of_ble_eq_true rfl) rfl dX1_findEnds_5 (fun σ' hp => ?_)
  subst hp
  have hW := hW.ist okX1 (j := 2) (o := 3) (m := 80) rfl (gt_fill ((T).2 2) 80 (-1 : Int))
  have hF := hF.up (i := r + 3) (x := .inl (false, 80, gt_fill ((T).2 2) 80 (-1 : Int))) (by omega) (by omega)
  have hU := hU.keep okX4 (σ' := va_up _ (r + 3) (.inl (false, 80, gt_fill ((T).2 2) 80 (-1 : Int)))) (fun k q1 q2 => by unfold va_up; rw [if_neg (by omega)]) (by decide)
  generalize (va_up _ (r + 3) _ : ga_S) = σ at hW hF hU ⊢
  refine ga_aload_n C dX1_findEnds_8 rfl hl0 hr0 ?_
  refine gt_geta C (iX1_findEnds_X1) hW 3 rfl rfl (by decide) kX1_findEnds_21 dX1_findEnds_9 ?_
  refine ga_iconst C dX1_findEnds_12 ⟨by decide, by decide⟩ ?_
  refine gt_cSv (n := 2) (st := []) C (eJ7_fill X.2.1 D cI cZ K ((hW.2 3 4 80).1 rfl) (by decide) (Nat.ne_of_gt (Nat.lt_of_lt_of_le (Nat.pos_of_ne_zero hr0) (Nat.le_add_right _ _)))) gX1_findEnds_J7_fill_53178 rfl (by decide +kernel) rfl ⟨Nat.le_of_ble_eq_true rfl, Nat.le_of_ble_eq_true rfl⟩ (Nat.le_of_ble_eq_true rfl) rfl dX1_findEnds_13 (fun σ' hp => ?_)
  subst hp
  have hW := hW.ist okX1 (j := 3) (o := 4) (m := 80) rfl (gt_fill (((T.1, (va_up T.2 2 (gt_fill (T.2 2) 80 (-1 : Int))))).2 3) 80 (-1 : Int))
  have hF := hF.up (i := r + 4) (x := .inl (false, 80, gt_fill (((T.1, (va_up T.2 2 (gt_fill (T.2 2) 80 (-1 : Int))))).2 3) 80 (-1 : Int))) (by omega) (by omega)
  have hU := hU.keep okX4 (σ' := va_up _ (r + 4) (.inl (false, 80, gt_fill (((T.1, (va_up T.2 2 (gt_fill (T.2 2) 80 (-1 : Int))))).2 3) 80 (-1 : Int)))) (fun k q1 q2 => by unfold va_up; rw [if_neg (by omega)]) (by decide)
  generalize (va_up _ (r + 4) _ : ga_S) = σ at hW hF hU ⊢
  refine ga_iconst C dX1_findEnds_16 ⟨by decide, by decide⟩ ?_
  refine ga_istore_n C dX1_findEnds_17 rfl (by decide) ?_
  exact gX1_findEnds_18 C hRet hr0 hq0 hdis gt_fuel ((T.1, (va_up (va_up T.2 2 (gt_fill (T.2 2) 80 (-1 : Int))) 3 (gt_fill ((va_up T.2 2 (gt_fill (T.2 2) 80 (-1 : Int))) 3) 80 (-1 : Int)))), (0 : Int)) _ _ hW hF hU (gt_un (by decide) hl0) (gt_un (by decide) hl1) gt_us h
set_option maxHeartbeats 4000000 in
theorem eX1_findEnds (l : Launch) (D : va_G) (cI cZ : ClassId) (K : Nat) {r : Nat} (hr0 : r ≠ 0) {q : Nat} (hq0 : q ≠ 0) (hdis : q + 3 ≤ r ∨ r + 6 ≤ q) {σ : ga_S} {T : gt_T} (hW : gt_O SX1 1 r T σ) {u : gt_T} (hU : gt_O SX4 4 q u σ) {res : gt_T × Int} (h : fX1_findEnds u T = some res) : ga_Ev l (D, vwCl, cI, cZ) yX1_findEnds wsX1_findEnds (gt_rm 4 85) [] 0 0 K [.inr r, .inr q] σ (fun σ' rv => (gt_O SX1 1 r res.1 σ' ∧ gt_F r (r + 6) σ σ') ∧ rv = some (.inl res.2)) := by
  refine ga_ofI (by decide +kernel) rfl gt_hcl (Nat.le_of_ble_eq_true rfl) (fun X hX C hret => ?_)
  exact gX1_findEnds_0 C (fun pc lv σ' z d hz hp => hret pc lv σ' z d ⟨hp, by rw [hz]⟩) hr0 hq0 hdis hW gt_F.rf hU rfl rfl h
-- X1_count: count()I
def fX1_count (T : gt_T) : Option (Int) :=
  some (T.1 5)
theorem iX1_count_X1 : ∀ w ∈ u_ws RX1 TX1 6, w ∈ wsX1_count := by decide +kernel
theorem kX1_count_27 : Cond.fieldLink yX1_count.cls 27 (TX1 5).1 (TX1 5).2.1 (TX1 5).2.2.1 ∈ wsX1_count := by decide +kernel
set_option maxHeartbeats 4000000 in
theorem gX1_count_0 {X : ga_X} {D : va_G} {cI cZ : ClassId} {K : Nat} {r : Nat} {res : Int} {T : gt_T} {σ : ga_S} (C : ga_C X cX1_count yX1_count wsX1_count [] (gt_rm 0 0) (D, vwCl, cI, cZ) 1) (hRet : ∀ (pc : Nat) (lv : Nat → Option ga_V) (σ' : ga_S) (z : Int), decode cX1_count pc = .ok (.ireturn, 1) → z = res → (σ' = σ) → ga_G X 0 0 K pc lv [.inl z] σ') (hr0 : r ≠ 0) {lv : Nat → Option ga_V} (hW : gt_O SX1 1 r T σ) (hl0 : lv 0 = some (.inr r)) (h : fX1_count T = some res) : ga_G X 0 0 K 0 lv [] σ := by
  unfold fX1_count at h
  refine ga_aload_n C dX1_count_0 rfl hl0 hr0 ?_
  refine gt_geti C (iX1_count_X1) hW 5 rfl rfl (by decide) kX1_count_27 dX1_count_1 ?_
  cases h
  exact hRet _ _ _ _ dX1_count_4 rfl rfl
set_option maxHeartbeats 4000000 in
theorem eX1_count (l : Launch) (D : va_G) (cI cZ : ClassId) (K : Nat) {r : Nat} (hr0 : r ≠ 0) {σ : ga_S} {T : gt_T} (hW : gt_O SX1 1 r T σ) {res : Int} (h : fX1_count T = some res) : ga_Ev l (D, vwCl, cI, cZ) yX1_count wsX1_count (gt_rm 0 0) [] 0 0 K [.inr r] σ (fun σ' rv => (σ' = σ) ∧ rv = some (.inl res)) := by
  refine ga_ofI (by decide +kernel) rfl gt_hcl (Nat.le_of_ble_eq_true rfl) (fun X hX C hret => ?_)
  exact gX1_count_0 C (fun pc lv σ' z d hz hp => hret pc lv σ' z d ⟨hp, by rw [hz]⟩) hr0 hW rfl h
-- X1_from: from(I)I
def fX1_from_18 (T : gt_T) (s0 : Int) : Option (Int) :=
  some s0
def fX1_from (T : gt_T) (l1 : Int) : Option (Int) :=
  (fX1_has T l1).bind (fun (q2 : Int) => (if q2 = 0 then fX1_from_18 T (-1 : Int) else (if (0 ≤ l1 ∧ l1 < 80) then fX1_from_18 T (T.2 2 l1.toNat) else none)))
theorem iX1_from_X1 : ∀ w ∈ u_ws RX1 TX1 6, w ∈ wsX1_from := by decide +kernel
theorem kX1_from_18 : Cond.fieldLink yX1_from.cls 18 (TX1 2).1 (TX1 2).2.1 (TX1 2).2.2.1 ∈ wsX1_from := by decide +kernel
set_option maxHeartbeats 4000000 in
theorem gX1_from_18 {X : ga_X} {D : va_G} {cI cZ : ClassId} {K : Nat} {r : Nat} {res : Int} {T : gt_T} {σ : ga_S} (C : ga_C X cX1_from yX1_from wsX1_from [] (gt_rm 1 21) (D, vwCl, cI, cZ) 2) (hRet : ∀ (pc : Nat) (lv : Nat → Option ga_V) (σ' : ga_S) (z : Int), decode cX1_from pc = .ok (.ireturn, 1) → z = res → (σ' = σ) → ga_G X 0 0 K pc lv [.inl z] σ') (hr0 : r ≠ 0) {s0 : Int} {lv : Nat → Option ga_V} (hW : gt_O SX1 1 r T σ) (h : fX1_from_18 T s0 = some res) : ga_G X 0 0 K 18 lv [.inl s0] σ := by
  unfold fX1_from_18 at h
  cases h
  exact hRet _ _ _ _ dX1_from_18 rfl rfl
set_option maxHeartbeats 4000000 in
theorem gX1_from_0 {X : ga_X} {D : va_G} {cI cZ : ClassId} {K : Nat} {r : Nat} {res : Int} {T : gt_T} {σ : ga_S} (C : ga_C X cX1_from yX1_from wsX1_from [] (gt_rm 1 21) (D, vwCl, cI, cZ) 2) (hRet : ∀ (pc : Nat) (lv : Nat → Option ga_V) (σ' : ga_S) (z : Int), decode cX1_from pc = .ok (.ireturn, 1) → z = res → (σ' = σ) → ga_G X 0 0 K pc lv [.inl z] σ') (hr0 : r ≠ 0) {l1 : Int} {lv : Nat → Option ga_V} (hW : gt_O SX1 1 r T σ) (hl0 : lv 0 = some (.inr r)) (hl1 : lv 1 = some (.inl l1)) (h : fX1_from T l1 = some res) : ga_G X 0 0 K 0 lv [] σ := by
  unfold fX1_from at h
  refine ga_aload_n C dX1_from_0 rfl hl0 hr0 ?_
  refine ga_iload_n C dX1_from_1 rfl hl1 ?_
  obtain ⟨q2, hq, h⟩ := Option.bind_eq_some_iff.mp h
  refine gt_cVi (n := 1) (st := []) C (eX1_has X.2.1 D cI cZ K hr0 hW hq) gX1_from_X1_has rfl (by decide +kernel) rfl ⟨Nat.le_of_ble_eq_true rfl, Nat.le_of_ble_eq_true rfl⟩ hW.1 rfl rfl (Nat.le_of_ble_eq_true rfl) rfl dX1_from_2 (fun σ' hp => ?_)
  subst hp
  refine ga_if_eq (tgt := 17) C dX1_from_5 (by decide) (fun c1 => ?_) (fun c1 => ?_)
  · have h := gt_ip h c1
    refine ga_iconst C dX1_from_17 ⟨by decide, by decide⟩ ?_
    exact gX1_from_18 C hRet hr0 hW h
  · have h := gt_in h c1
    obtain ⟨hg, h⟩ := gt_gd h
    have g13_0 := hg
    refine ga_aload_n C dX1_from_8 rfl hl0 hr0 ?_
    refine gt_geta C (iX1_from_X1) hW 2 rfl rfl (by decide) kX1_from_18 dX1_from_9 ?_
    refine ga_iload_n C dX1_from_12 rfl hl1 ?_
    refine gt_iald C hW 2 rfl g13_0.1 g13_0.2 dX1_from_13 ?_
    refine ga_goto (tgt := 18) C dX1_from_14 (by decide) ?_
    exact gX1_from_18 C hRet hr0 hW h
set_option maxHeartbeats 4000000 in
theorem eX1_from (l : Launch) (D : va_G) (cI cZ : ClassId) (K : Nat) {r : Nat} (hr0 : r ≠ 0) {σ : ga_S} {T : gt_T} (hW : gt_O SX1 1 r T σ) {l1 : Int} {res : Int} (h : fX1_from T l1 = some res) : ga_Ev l (D, vwCl, cI, cZ) yX1_from wsX1_from (gt_rm 1 21) [] 0 0 K [.inr r, .inl l1] σ (fun σ' rv => (σ' = σ) ∧ rv = some (.inl res)) := by
  refine ga_ofI (by decide +kernel) rfl gt_hcl (Nat.le_of_ble_eq_true rfl) (fun X hX C hret => ?_)
  exact gX1_from_0 C (fun pc lv σ' z d hz hp => hret pc lv σ' z d ⟨hp, by rw [hz]⟩) hr0 hW rfl rfl h
-- X1_to: to(I)I
def fX1_to_18 (T : gt_T) (s0 : Int) : Option (Int) :=
  some s0
def fX1_to (T : gt_T) (l1 : Int) : Option (Int) :=
  (fX1_has T l1).bind (fun (q2 : Int) => (if q2 = 0 then fX1_to_18 T (-1 : Int) else (if (0 ≤ l1 ∧ l1 < 80) then fX1_to_18 T (T.2 3 l1.toNat) else none)))
theorem iX1_to_X1 : ∀ w ∈ u_ws RX1 TX1 6, w ∈ wsX1_to := by decide +kernel
theorem kX1_to_21 : Cond.fieldLink yX1_to.cls 21 (TX1 3).1 (TX1 3).2.1 (TX1 3).2.2.1 ∈ wsX1_to := by decide +kernel
set_option maxHeartbeats 4000000 in
theorem gX1_to_18 {X : ga_X} {D : va_G} {cI cZ : ClassId} {K : Nat} {r : Nat} {res : Int} {T : gt_T} {σ : ga_S} (C : ga_C X cX1_to yX1_to wsX1_to [] (gt_rm 1 21) (D, vwCl, cI, cZ) 2) (hRet : ∀ (pc : Nat) (lv : Nat → Option ga_V) (σ' : ga_S) (z : Int), decode cX1_to pc = .ok (.ireturn, 1) → z = res → (σ' = σ) → ga_G X 0 0 K pc lv [.inl z] σ') (hr0 : r ≠ 0) {s0 : Int} {lv : Nat → Option ga_V} (hW : gt_O SX1 1 r T σ) (h : fX1_to_18 T s0 = some res) : ga_G X 0 0 K 18 lv [.inl s0] σ := by
  unfold fX1_to_18 at h
  cases h
  exact hRet _ _ _ _ dX1_to_18 rfl rfl
set_option maxHeartbeats 4000000 in
theorem gX1_to_0 {X : ga_X} {D : va_G} {cI cZ : ClassId} {K : Nat} {r : Nat} {res : Int} {T : gt_T} {σ : ga_S} (C : ga_C X cX1_to yX1_to wsX1_to [] (gt_rm 1 21) (D, vwCl, cI, cZ) 2) (hRet : ∀ (pc : Nat) (lv : Nat → Option ga_V) (σ' : ga_S) (z : Int), decode cX1_to pc = .ok (.ireturn, 1) → z = res → (σ' = σ) → ga_G X 0 0 K pc lv [.inl z] σ') (hr0 : r ≠ 0) {l1 : Int} {lv : Nat → Option ga_V} (hW : gt_O SX1 1 r T σ) (hl0 : lv 0 = some (.inr r)) (hl1 : lv 1 = some (.inl l1)) (h : fX1_to T l1 = some res) : ga_G X 0 0 K 0 lv [] σ := by
  unfold fX1_to at h
  refine ga_aload_n C dX1_to_0 rfl hl0 hr0 ?_
  refine ga_iload_n C dX1_to_1 rfl hl1 ?_
  obtain ⟨q2, hq, h⟩ := Option.bind_eq_some_iff.mp h
  refine gt_cVi (n := 1) (st := []) C (eX1_has X.2.1 D cI cZ K hr0 hW hq) gX1_to_X1_has rfl (by decide +kernel) rfl ⟨Nat.le_of_ble_eq_true rfl, Nat.le_of_ble_eq_true rfl⟩ hW.1 rfl rfl (Nat.le_of_ble_eq_true rfl) rfl dX1_to_2 (fun σ' hp => ?_)
  subst hp
  refine ga_if_eq (tgt := 17) C dX1_to_5 (by decide) (fun c1 => ?_) (fun c1 => ?_)
  · have h := gt_ip h c1
    refine ga_iconst C dX1_to_17 ⟨by decide, by decide⟩ ?_
    exact gX1_to_18 C hRet hr0 hW h
  · have h := gt_in h c1
    obtain ⟨hg, h⟩ := gt_gd h
    have g13_0 := hg
    refine ga_aload_n C dX1_to_8 rfl hl0 hr0 ?_
    refine gt_geta C (iX1_to_X1) hW 3 rfl rfl (by decide) kX1_to_21 dX1_to_9 ?_
    refine ga_iload_n C dX1_to_12 rfl hl1 ?_
    refine gt_iald C hW 3 rfl g13_0.1 g13_0.2 dX1_to_13 ?_
    refine ga_goto (tgt := 18) C dX1_to_14 (by decide) ?_
    exact gX1_to_18 C hRet hr0 hW h
set_option maxHeartbeats 4000000 in
theorem eX1_to (l : Launch) (D : va_G) (cI cZ : ClassId) (K : Nat) {r : Nat} (hr0 : r ≠ 0) {σ : ga_S} {T : gt_T} (hW : gt_O SX1 1 r T σ) {l1 : Int} {res : Int} (h : fX1_to T l1 = some res) : ga_Ev l (D, vwCl, cI, cZ) yX1_to wsX1_to (gt_rm 1 21) [] 0 0 K [.inr r, .inl l1] σ (fun σ' rv => (σ' = σ) ∧ rv = some (.inl res)) := by
  refine ga_ofI (by decide +kernel) rfl gt_hcl (Nat.le_of_ble_eq_true rfl) (fun X hX C hret => ?_)
  exact gX1_to_0 C (fun pc lv σ' z d hz hp => hret pc lv σ' z d ⟨hp, by rw [hz]⟩) hr0 hW rfl rfl h
-- X1_at: at(I)I
def fX1_at_20 (T : gt_T) (s0 : Int) : Option (Int) :=
  some s0
def fX1_at_19 (T : gt_T) : Option (Int) :=
  fX1_at_20 T (-1 : Int)
def fX1_at (T : gt_T) (l1 : Int) : Option (Int) :=
  (if l1 < 0 then fX1_at_19 T else (if (80 : Int) ≤ l1 then fX1_at_19 T else (if (0 ≤ l1 ∧ l1 < 80) then fX1_at_20 T (T.2 4 l1.toNat) else none)))
theorem iX1_at_X1 : ∀ w ∈ u_ws RX1 TX1 6, w ∈ wsX1_at := by decide +kernel
theorem kX1_at_24 : Cond.fieldLink yX1_at.cls 24 (TX1 4).1 (TX1 4).2.1 (TX1 4).2.2.1 ∈ wsX1_at := by decide +kernel
set_option maxHeartbeats 4000000 in
theorem gX1_at_20 {X : ga_X} {D : va_G} {cI cZ : ClassId} {K : Nat} {r : Nat} {res : Int} {T : gt_T} {σ : ga_S} (C : ga_C X cX1_at yX1_at wsX1_at [] (gt_rm 0 0) (D, vwCl, cI, cZ) 2) (hRet : ∀ (pc : Nat) (lv : Nat → Option ga_V) (σ' : ga_S) (z : Int), decode cX1_at pc = .ok (.ireturn, 1) → z = res → (σ' = σ) → ga_G X 0 0 K pc lv [.inl z] σ') (hr0 : r ≠ 0) {s0 : Int} {lv : Nat → Option ga_V} (hW : gt_O SX1 1 r T σ) (h : fX1_at_20 T s0 = some res) : ga_G X 0 0 K 20 lv [.inl s0] σ := by
  unfold fX1_at_20 at h
  cases h
  exact hRet _ _ _ _ dX1_at_20 rfl rfl
set_option maxHeartbeats 4000000 in
theorem gX1_at_19 {X : ga_X} {D : va_G} {cI cZ : ClassId} {K : Nat} {r : Nat} {res : Int} {T : gt_T} {σ : ga_S} (C : ga_C X cX1_at yX1_at wsX1_at [] (gt_rm 0 0) (D, vwCl, cI, cZ) 2) (hRet : ∀ (pc : Nat) (lv : Nat → Option ga_V) (σ' : ga_S) (z : Int), decode cX1_at pc = .ok (.ireturn, 1) → z = res → (σ' = σ) → ga_G X 0 0 K pc lv [.inl z] σ') (hr0 : r ≠ 0) {lv : Nat → Option ga_V} (hW : gt_O SX1 1 r T σ) (h : fX1_at_19 T = some res) : ga_G X 0 0 K 19 lv [] σ := by
  unfold fX1_at_19 at h
  refine ga_iconst C dX1_at_19 ⟨by decide, by decide⟩ ?_
  exact gX1_at_20 C hRet hr0 hW h
set_option maxHeartbeats 4000000 in
theorem gX1_at_0 {X : ga_X} {D : va_G} {cI cZ : ClassId} {K : Nat} {r : Nat} {res : Int} {T : gt_T} {σ : ga_S} (C : ga_C X cX1_at yX1_at wsX1_at [] (gt_rm 0 0) (D, vwCl, cI, cZ) 2) (hRet : ∀ (pc : Nat) (lv : Nat → Option ga_V) (σ' : ga_S) (z : Int), decode cX1_at pc = .ok (.ireturn, 1) → z = res → (σ' = σ) → ga_G X 0 0 K pc lv [.inl z] σ') (hr0 : r ≠ 0) {l1 : Int} {lv : Nat → Option ga_V} (hW : gt_O SX1 1 r T σ) (hl0 : lv 0 = some (.inr r)) (hl1 : lv 1 = some (.inl l1)) (h : fX1_at T l1 = some res) : ga_G X 0 0 K 0 lv [] σ := by
  unfold fX1_at at h
  refine ga_iload_n C dX1_at_0 rfl hl1 ?_
  refine ga_if_lt (tgt := 19) C dX1_at_1 (by decide) (fun c1 => ?_) (fun c1 => ?_)
  · have h := gt_ip h c1
    exact gX1_at_19 C hRet hr0 hW h
  · have h := gt_in h c1
    refine ga_iload_n C dX1_at_4 rfl hl1 ?_
    refine ga_bipush C dX1_at_5 ⟨by decide, by decide⟩ (by decide) ?_
    refine ga_icmp_ge (tgt := 19) C dX1_at_7 (by decide) (fun c1 => ?_) (fun c1 => ?_)
    · have h := gt_ip h c1
      exact gX1_at_19 C hRet hr0 hW h
    · have h := gt_in h c1
      obtain ⟨hg, h⟩ := gt_gd h
      have g15_0 := hg
      refine ga_aload_n C dX1_at_10 rfl hl0 hr0 ?_
      refine gt_geta C (iX1_at_X1) hW 4 rfl rfl (by decide) kX1_at_24 dX1_at_11 ?_
      refine ga_iload_n C dX1_at_14 rfl hl1 ?_
      refine gt_iald C hW 4 rfl g15_0.1 g15_0.2 dX1_at_15 ?_
      refine ga_goto (tgt := 20) C dX1_at_16 (by decide) ?_
      exact gX1_at_20 C hRet hr0 hW h
set_option maxHeartbeats 4000000 in
theorem eX1_at (l : Launch) (D : va_G) (cI cZ : ClassId) (K : Nat) {r : Nat} (hr0 : r ≠ 0) {σ : ga_S} {T : gt_T} (hW : gt_O SX1 1 r T σ) {l1 : Int} {res : Int} (h : fX1_at T l1 = some res) : ga_Ev l (D, vwCl, cI, cZ) yX1_at wsX1_at (gt_rm 0 0) [] 0 0 K [.inr r, .inl l1] σ (fun σ' rv => (σ' = σ) ∧ rv = some (.inl res)) := by
  refine ga_ofI (by decide +kernel) rfl gt_hcl (Nat.le_of_ble_eq_true rfl) (fun X hX C hret => ?_)
  exact gX1_at_0 C (fun pc lv σ' z d hz hp => hret pc lv σ' z d ⟨hp, by rw [hz]⟩) hr0 hW rfl rfl h
-- X1_dartFrom: dartFrom(I)I
def fX1_dartFrom_26 (T : gt_T) (s0 : Int) : Option (Int) :=
  some s0
def fX1_dartFrom (T : gt_T) (l1 : Int) : Option (Int) :=
  (fX1_at T l1).bind (fun (q2 : Int) => (fX1_from T q2).bind (fun (q8 : Int) => (if q8 = l1 then (if (-2147483648 ≤ (2 : Int) * q2 ∧ (2 : Int) * q2 < 2147483648) then fX1_dartFrom_26 T ((2 : Int) * q2) else none) else (if (-2147483648 ≤ (2 : Int) * q2 ∧ (2 : Int) * q2 < 2147483648) ∧ (-2147483648 ≤ ((2 : Int) * q2) + (1 : Int) ∧ ((2 : Int) * q2) + (1 : Int) < 2147483648) then fX1_dartFrom_26 T (((2 : Int) * q2) + (1 : Int)) else none))))
set_option maxHeartbeats 4000000 in
theorem gX1_dartFrom_26 {X : ga_X} {D : va_G} {cI cZ : ClassId} {K : Nat} {r : Nat} {res : Int} {T : gt_T} {σ : ga_S} (C : ga_C X cX1_dartFrom yX1_dartFrom wsX1_dartFrom [] (gt_rm 2 42) (D, vwCl, cI, cZ) 3) (hRet : ∀ (pc : Nat) (lv : Nat → Option ga_V) (σ' : ga_S) (z : Int), decode cX1_dartFrom pc = .ok (.ireturn, 1) → z = res → (σ' = σ) → ga_G X 0 0 K pc lv [.inl z] σ') (hr0 : r ≠ 0) {s0 : Int} {lv : Nat → Option ga_V} (hW : gt_O SX1 1 r T σ) (h : fX1_dartFrom_26 T s0 = some res) : ga_G X 0 0 K 26 lv [.inl s0] σ := by
  unfold fX1_dartFrom_26 at h
  cases h
  exact hRet _ _ _ _ dX1_dartFrom_26 rfl rfl
set_option maxHeartbeats 4000000 in
theorem gX1_dartFrom_0 {X : ga_X} {D : va_G} {cI cZ : ClassId} {K : Nat} {r : Nat} {res : Int} {T : gt_T} {σ : ga_S} (C : ga_C X cX1_dartFrom yX1_dartFrom wsX1_dartFrom [] (gt_rm 2 42) (D, vwCl, cI, cZ) 3) (hRet : ∀ (pc : Nat) (lv : Nat → Option ga_V) (σ' : ga_S) (z : Int), decode cX1_dartFrom pc = .ok (.ireturn, 1) → z = res → (σ' = σ) → ga_G X 0 0 K pc lv [.inl z] σ') (hr0 : r ≠ 0) {l1 : Int} {lv : Nat → Option ga_V} (hW : gt_O SX1 1 r T σ) (hl0 : lv 0 = some (.inr r)) (hl1 : lv 1 = some (.inl l1)) (h : fX1_dartFrom T l1 = some res) : ga_G X 0 0 K 0 lv [] σ := by
  unfold fX1_dartFrom at h
  refine ga_aload_n C dX1_dartFrom_0 rfl hl0 hr0 ?_
  refine ga_iload_n C dX1_dartFrom_1 rfl hl1 ?_
  obtain ⟨q2, hq, h⟩ := Option.bind_eq_some_iff.mp h
  refine gt_cVi (n := 1) (st := []) C (eX1_at X.2.1 D cI cZ K hr0 hW hq) gX1_dartFrom_X1_at rfl (by decide +kernel) rfl ⟨Nat.le_of_ble_eq_true rfl, Nat.le_of_ble_eq_true rfl⟩ hW.1 rfl rfl (Nat.le_of_ble_eq_true rfl) rfl dX1_dartFrom_2 (fun σ' hp => ?_)
  subst hp
  refine ga_istore_n C dX1_dartFrom_5 rfl (by decide) ?_
  refine ga_aload_n C dX1_dartFrom_6 rfl (gt_un (by decide) hl0) hr0 ?_
  refine ga_iload_n C dX1_dartFrom_7 rfl gt_us ?_
  obtain ⟨q8, hq, h⟩ := Option.bind_eq_some_iff.mp h
  refine gt_cVi (n := 1) (st := []) C (eX1_from X.2.1 D cI cZ K hr0 hW hq) gX1_dartFrom_X1_from rfl (by decide +kernel) rfl ⟨Nat.le_of_ble_eq_true rfl, Nat.le_of_ble_eq_true rfl⟩ hW.1 rfl rfl (Nat.le_of_ble_eq_true rfl) rfl dX1_dartFrom_8 (fun σ' hp => ?_)
  subst hp
  refine ga_iload_n C dX1_dartFrom_11 rfl (gt_un (by decide) hl1) ?_
  refine ga_icmp_ne (tgt := 21) C dX1_dartFrom_12 (by decide) (fun c1 => ?_) (fun c1 => ?_)
  · have h := gt_in h c1
    obtain ⟨hg, h⟩ := gt_gd h
    obtain ⟨g23_0, g25_1⟩ := hg
    refine ga_iconst C dX1_dartFrom_21 ⟨by decide, by decide⟩ ?_
    refine ga_iload_n C dX1_dartFrom_22 rfl gt_us ?_
    refine ga_imul C dX1_dartFrom_23 g23_0 ?_
    refine ga_iconst C dX1_dartFrom_24 ⟨by decide, by decide⟩ ?_
    refine ga_iadd C dX1_dartFrom_25 g25_1 ?_
    exact gX1_dartFrom_26 C hRet hr0 hW h
  · have h := gt_ip h c1
    obtain ⟨hg, h⟩ := gt_gd h
    have g17_0 := hg
    refine ga_iconst C dX1_dartFrom_15 ⟨by decide, by decide⟩ ?_
    refine ga_iload_n C dX1_dartFrom_16 rfl gt_us ?_
    refine ga_imul C dX1_dartFrom_17 g17_0 ?_
    refine ga_goto (tgt := 26) C dX1_dartFrom_18 (by decide) ?_
    exact gX1_dartFrom_26 C hRet hr0 hW h
set_option maxHeartbeats 4000000 in
theorem eX1_dartFrom (l : Launch) (D : va_G) (cI cZ : ClassId) (K : Nat) {r : Nat} (hr0 : r ≠ 0) {σ : ga_S} {T : gt_T} (hW : gt_O SX1 1 r T σ) {l1 : Int} {res : Int} (h : fX1_dartFrom T l1 = some res) : ga_Ev l (D, vwCl, cI, cZ) yX1_dartFrom wsX1_dartFrom (gt_rm 2 42) [] 0 0 K [.inr r, .inl l1] σ (fun σ' rv => (σ' = σ) ∧ rv = some (.inl res)) := by
  refine ga_ofI (by decide +kernel) rfl gt_hcl (Nat.le_of_ble_eq_true rfl) (fun X hX C hret => ?_)
  exact gX1_dartFrom_0 C (fun pc lv σ' z d hz hp => hret pc lv σ' z d ⟨hp, by rw [hz]⟩) hr0 hW rfl rfl h
-- X1_label: label(I)I
def fX1_label_18 (T : gt_T) (s0 : Int) : Option (Int) :=
  some s0
def fX1_label (T : gt_T) (l1 : Int) : Option (Int) :=
  (fX1_has T l1).bind (fun (q2 : Int) => (if q2 = 0 then fX1_label_18 T (0 : Int) else (if (0 ≤ l1 ∧ l1 < 80) then fX1_label_18 T (T.2 0 l1.toNat) else none)))
theorem iX1_label_X1 : ∀ w ∈ u_ws RX1 TX1 6, w ∈ wsX1_label := by decide +kernel
theorem kX1_label_9 : Cond.fieldLink yX1_label.cls 9 (TX1 0).1 (TX1 0).2.1 (TX1 0).2.2.1 ∈ wsX1_label := by decide +kernel
set_option maxHeartbeats 4000000 in
theorem gX1_label_18 {X : ga_X} {D : va_G} {cI cZ : ClassId} {K : Nat} {r : Nat} {res : Int} {T : gt_T} {σ : ga_S} (C : ga_C X cX1_label yX1_label wsX1_label [] (gt_rm 1 21) (D, vwCl, cI, cZ) 2) (hRet : ∀ (pc : Nat) (lv : Nat → Option ga_V) (σ' : ga_S) (z : Int), decode cX1_label pc = .ok (.ireturn, 1) → z = res → (σ' = σ) → ga_G X 0 0 K pc lv [.inl z] σ') (hr0 : r ≠ 0) {s0 : Int} {lv : Nat → Option ga_V} (hW : gt_O SX1 1 r T σ) (h : fX1_label_18 T s0 = some res) : ga_G X 0 0 K 18 lv [.inl s0] σ := by
  unfold fX1_label_18 at h
  cases h
  exact hRet _ _ _ _ dX1_label_18 rfl rfl
set_option maxHeartbeats 4000000 in
theorem gX1_label_0 {X : ga_X} {D : va_G} {cI cZ : ClassId} {K : Nat} {r : Nat} {res : Int} {T : gt_T} {σ : ga_S} (C : ga_C X cX1_label yX1_label wsX1_label [] (gt_rm 1 21) (D, vwCl, cI, cZ) 2) (hRet : ∀ (pc : Nat) (lv : Nat → Option ga_V) (σ' : ga_S) (z : Int), decode cX1_label pc = .ok (.ireturn, 1) → z = res → (σ' = σ) → ga_G X 0 0 K pc lv [.inl z] σ') (hr0 : r ≠ 0) {l1 : Int} {lv : Nat → Option ga_V} (hW : gt_O SX1 1 r T σ) (hl0 : lv 0 = some (.inr r)) (hl1 : lv 1 = some (.inl l1)) (h : fX1_label T l1 = some res) : ga_G X 0 0 K 0 lv [] σ := by
  unfold fX1_label at h
  refine ga_aload_n C dX1_label_0 rfl hl0 hr0 ?_
  refine ga_iload_n C dX1_label_1 rfl hl1 ?_
  obtain ⟨q2, hq, h⟩ := Option.bind_eq_some_iff.mp h
  refine gt_cVi (n := 1) (st := []) C (eX1_has X.2.1 D cI cZ K hr0 hW hq) gX1_label_X1_has rfl (by decide +kernel) rfl ⟨Nat.le_of_ble_eq_true rfl, Nat.le_of_ble_eq_true rfl⟩ hW.1 rfl rfl (Nat.le_of_ble_eq_true rfl) rfl dX1_label_2 (fun σ' hp => ?_)
  subst hp
  refine ga_if_eq (tgt := 17) C dX1_label_5 (by decide) (fun c1 => ?_) (fun c1 => ?_)
  · have h := gt_ip h c1
    refine ga_iconst C dX1_label_17 ⟨by decide, by decide⟩ ?_
    exact gX1_label_18 C hRet hr0 hW h
  · have h := gt_in h c1
    obtain ⟨hg, h⟩ := gt_gd h
    have g13_0 := hg
    refine ga_aload_n C dX1_label_8 rfl hl0 hr0 ?_
    refine gt_geta C (iX1_label_X1) hW 0 rfl rfl (by decide) kX1_label_9 dX1_label_9 ?_
    refine ga_iload_n C dX1_label_12 rfl hl1 ?_
    refine gt_iald C hW 0 rfl g13_0.1 g13_0.2 dX1_label_13 ?_
    refine ga_goto (tgt := 18) C dX1_label_14 (by decide) ?_
    exact gX1_label_18 C hRet hr0 hW h
set_option maxHeartbeats 4000000 in
theorem eX1_label (l : Launch) (D : va_G) (cI cZ : ClassId) (K : Nat) {r : Nat} (hr0 : r ≠ 0) {σ : ga_S} {T : gt_T} (hW : gt_O SX1 1 r T σ) {l1 : Int} {res : Int} (h : fX1_label T l1 = some res) : ga_Ev l (D, vwCl, cI, cZ) yX1_label wsX1_label (gt_rm 1 21) [] 0 0 K [.inr r, .inl l1] σ (fun σ' rv => (σ' = σ) ∧ rv = some (.inl res)) := by
  refine ga_ofI (by decide +kernel) rfl gt_hcl (Nat.le_of_ble_eq_true rfl) (fun X hX C hret => ?_)
  exact gX1_label_0 C (fun pc lv σ' z d hz hp => hret pc lv σ' z d ⟨hp, by rw [hz]⟩) hr0 hW rfl rfl h
-- X1_alternate: alternate()Z
def fX1_alternate_2 (T : gt_T) (k2 : Int → Option (Int)) (a : Int) : Option (Int) :=
  (if (T.1 5) ≤ a then (if ((1 : Int) = 0 ∨ (1 : Int) = 1) then some (1 : Int) else none) else (if (0 ≤ a ∧ a < 80) then (fX4_isUpper (T.2 2 a.toNat)).bind (fun (q16 : Int) => (if (0 ≤ a ∧ a < 80) then (fX4_isUpper (T.2 3 a.toNat)).bind (fun (q25 : Int) => (if q16 = q25 then (if ((0 : Int) = 0 ∨ (0 : Int) = 1) then some (0 : Int) else none) else (if (-2147483648 ≤ a + (1 : Int) ∧ a + (1 : Int) < 2147483648) then k2 (a + (1 : Int)) else none))) else none)) else none))
def fX1_alternate (T : gt_T) : Option (Int) :=
  gt_loop (fX1_alternate_2 T) gt_fuel (0 : Int)
theorem iX1_alternate_X1 : ∀ w ∈ u_ws RX1 TX1 6, w ∈ wsX1_alternate := by decide +kernel
theorem kX1_alternate_18 : Cond.fieldLink yX1_alternate.cls 18 (TX1 2).1 (TX1 2).2.1 (TX1 2).2.2.1 ∈ wsX1_alternate := by decide +kernel
theorem kX1_alternate_21 : Cond.fieldLink yX1_alternate.cls 21 (TX1 3).1 (TX1 3).2.1 (TX1 3).2.2.1 ∈ wsX1_alternate := by decide +kernel
theorem kX1_alternate_27 : Cond.fieldLink yX1_alternate.cls 27 (TX1 5).1 (TX1 5).2.1 (TX1 5).2.2.1 ∈ wsX1_alternate := by decide +kernel
set_option maxHeartbeats 4000000 in
theorem gX1_alternate_2 {X : ga_X} {D : va_G} {cI cZ : ClassId} {K : Nat} {r : Nat} {res : Int} {T : gt_T} {σ : ga_S} (C : ga_C X cX1_alternate yX1_alternate wsX1_alternate [] (gt_rm 1 20) (D, vwCl, cI, cZ) 2) (hRet : ∀ (pc : Nat) (lv : Nat → Option ga_V) (σ' : ga_S) (z : Int), decode cX1_alternate pc = .ok (.ireturn, 1) → (z = 0 ∨ z = 1) → z = res → (σ' = σ) → ga_G X 0 0 K pc lv [.inl z] σ') (hr0 : r ≠ 0) : ∀ (n : Nat) (a : Int) (lv : Nat → Option ga_V), gt_O SX1 1 r T σ → lv 0 = some (.inr r) → lv 1 = some (.inl a) → gt_loop (fX1_alternate_2 T) n a = some res → ga_G X 0 0 K 2 lv [] σ := by
  intro n
  induction n with
  | zero =>
    intro a lv _ _ _ h
    exact absurd (show (none : Option _) = some _ from h) (fun q => by cases q)
  | succ n hk2 =>
    intro a lv hW hl0 hl1 h
    have h : fX1_alternate_2 T (gt_loop (fX1_alternate_2 T) n) a = some res := h
    revert hk2 h
    generalize gt_loop (fX1_alternate_2 T) n = k2
    intro hk2 h
    unfold fX1_alternate_2 at h
    refine ga_iload_n C dX1_alternate_2 rfl hl1 ?_
    refine ga_aload_n C dX1_alternate_3 rfl hl0 hr0 ?_
    refine gt_geti C (iX1_alternate_X1) hW 5 rfl rfl (by decide) kX1_alternate_27 dX1_alternate_4 ?_
    refine ga_icmp_ge (tgt := 39) C dX1_alternate_7 (by decide) (fun c1 => ?_) (fun c1 => ?_)
    · have h := gt_ip h c1
      obtain ⟨hg, h⟩ := gt_gd h
      have g40_0 := hg
      refine ga_iconst C dX1_alternate_39 ⟨by decide, by decide⟩ ?_
      cases h
      exact hRet _ _ _ _ dX1_alternate_40 g40_0 rfl rfl
    · have h := gt_in h c1
      obtain ⟨hg, h⟩ := gt_gd h
      have g15_0 := hg
      refine ga_aload_n C dX1_alternate_10 rfl hl0 hr0 ?_
      refine gt_geta C (iX1_alternate_X1) hW 2 rfl rfl (by decide) kX1_alternate_18 dX1_alternate_11 ?_
      refine ga_iload_n C dX1_alternate_14 rfl hl1 ?_
      refine gt_iald C hW 2 rfl g15_0.1 g15_0.2 dX1_alternate_15 ?_
      obtain ⟨q16, hq, h⟩ := Option.bind_eq_some_iff.mp h
      refine gt_cSi (n := 1) (st := []) C (eX4_isUpper X.2.1 D cI cZ K hq) gX1_alternate_X4_isUpper rfl (by decide +kernel) rfl ⟨Nat.le_of_ble_eq_true rfl, Nat.le_of_ble_eq_true rfl⟩ (Nat.le_of_ble_eq_true rfl) rfl dX1_alternate_16 (fun σ' hp => ?_)
      subst hp
      obtain ⟨hg, h⟩ := gt_gd h
      have g24_0 := hg
      refine ga_aload_n C dX1_alternate_19 rfl hl0 hr0 ?_
      refine gt_geta C (iX1_alternate_X1) hW 3 rfl rfl (by decide) kX1_alternate_21 dX1_alternate_20 ?_
      refine ga_iload_n C dX1_alternate_23 rfl hl1 ?_
      refine gt_iald C hW 3 rfl g24_0.1 g24_0.2 dX1_alternate_24 ?_
      obtain ⟨q25, hq, h⟩ := Option.bind_eq_some_iff.mp h
      refine gt_cSi (n := 1) (st := [.inl q16]) C (eX4_isUpper X.2.1 D cI cZ K hq) gX1_alternate_X4_isUpper rfl (by decide +kernel) rfl ⟨Nat.le_of_ble_eq_true rfl, Nat.le_of_ble_eq_true rfl⟩ (Nat.le_of_ble_eq_true rfl) rfl dX1_alternate_25 (fun σ' hp => ?_)
      subst hp
      refine ga_icmp_ne (tgt := 33) C dX1_alternate_28 (by decide) (fun c1 => ?_) (fun c1 => ?_)
      · have h := gt_in h c1
        obtain ⟨hg, h⟩ := gt_gd h
        have g33_0 := hg
        refine ga_iinc C dX1_alternate_33 hl1 g33_0 ?_
        refine ga_goto (tgt := 2) C dX1_alternate_36 (by decide) ?_
        exact hk2 (a + (1 : Int)) _ hW (gt_un (by decide) hl0) gt_us h
      · have h := gt_ip h c1
        obtain ⟨hg, h⟩ := gt_gd h
        have g32_0 := hg
        refine ga_iconst C dX1_alternate_31 ⟨by decide, by decide⟩ ?_
        cases h
        exact hRet _ _ _ _ dX1_alternate_32 g32_0 rfl rfl
set_option maxHeartbeats 4000000 in
theorem gX1_alternate_0 {X : ga_X} {D : va_G} {cI cZ : ClassId} {K : Nat} {r : Nat} {res : Int} {T : gt_T} {σ : ga_S} (C : ga_C X cX1_alternate yX1_alternate wsX1_alternate [] (gt_rm 1 20) (D, vwCl, cI, cZ) 2) (hRet : ∀ (pc : Nat) (lv : Nat → Option ga_V) (σ' : ga_S) (z : Int), decode cX1_alternate pc = .ok (.ireturn, 1) → (z = 0 ∨ z = 1) → z = res → (σ' = σ) → ga_G X 0 0 K pc lv [.inl z] σ') (hr0 : r ≠ 0) {lv : Nat → Option ga_V} (hW : gt_O SX1 1 r T σ) (hl0 : lv 0 = some (.inr r)) (h : fX1_alternate T = some res) : ga_G X 0 0 K 0 lv [] σ := by
  unfold fX1_alternate at h
  refine ga_iconst C dX1_alternate_0 ⟨by decide, by decide⟩ ?_
  refine ga_istore_n C dX1_alternate_1 rfl (by decide) ?_
  exact gX1_alternate_2 C hRet hr0 gt_fuel (0 : Int) _ hW (gt_un (by decide) hl0) gt_us h
set_option maxHeartbeats 4000000 in
theorem eX1_alternate (l : Launch) (D : va_G) (cI cZ : ClassId) (K : Nat) {r : Nat} (hr0 : r ≠ 0) {σ : ga_S} {T : gt_T} (hW : gt_O SX1 1 r T σ) {res : Int} (h : fX1_alternate T = some res) : ga_Ev l (D, vwCl, cI, cZ) yX1_alternate wsX1_alternate (gt_rm 1 20) [] 0 0 K [.inr r] σ (fun σ' rv => (σ' = σ) ∧ rv = some (.inl res)) := by
  refine ga_ofZ (by decide +kernel) rfl gt_hcl (Nat.le_of_ble_eq_true rfl) (fun X hX C hret => ?_)
  exact gX1_alternate_0 C (fun pc lv σ' z d h01 hz hp => hret pc lv σ' z d h01 ⟨hp, by rw [hz]⟩) hr0 hW rfl h
