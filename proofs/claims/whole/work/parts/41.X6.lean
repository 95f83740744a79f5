-- X6_badPiece: badPiece()I
def fX6_badPiece_86 (k17 : gt_T × Int × Int → Option (gt_T × Int)) (T : gt_T) (l2 s0 : Int) : Option (gt_T × Int) :=
  (if (-2147483648 ≤ l2 + (-1 : Int) ∧ l2 + (-1 : Int) < 2147483648) then k17 (T, s0, l2 + (-1 : Int)) else none)
def fX6_badPiece_85 (k17 : gt_T × Int × Int → Option (gt_T × Int)) (T : gt_T) (l1 l2 : Int) : Option (gt_T × Int) :=
  fX6_badPiece_86 k17 T l2 l1
def fX6_badPiece_52 (k17 : gt_T × Int × Int → Option (gt_T × Int)) (k26 : gt_T × Int × Int × Int × Int → Option (gt_T × Int)) (T : gt_T) (l1 l2 l4 s0 s1 : Int) : Option (gt_T × Int) :=
  (if (-2147483648 ≤ s0 + s1 ∧ s0 + s1 < 2147483648) ∧ (-2147483648 ≤ l4 + (1 : Int) ∧ l4 + (1 : Int) < 2147483648) then k26 (T, l1, l2, s0 + s1, l4 + (1 : Int)) else none)
def fX6_badPiece_26 (k17 : gt_T × Int × Int → Option (gt_T × Int)) (k26 : gt_T × Int × Int × Int × Int → Option (gt_T × Int)) (a : gt_T × Int × Int × Int × Int) : Option (gt_T × Int) :=
  (if (a.1.1 5) ≤ a.2.2.2.2 then (if (0 ≤ a.2.2.1 ∧ a.2.2.1 < 20) then (if (a.1.2 18 a.2.2.1.toNat) = a.2.2.1 then (fX6_facesAt a.1 a.2.2.1).bind (fun (q72 : Int) => (if (-2147483648 ≤ a.2.2.2.1 + (2 : Int) ∧ a.2.2.2.1 + (2 : Int) < 2147483648) then (if q72 = (a.2.2.2.1 + (2 : Int)) then fX6_badPiece_85 k17 a.1 a.2.1 a.2.2.1 else fX6_badPiece_86 k17 a.1 a.2.2.1 a.2.2.1) else none)) else fX6_badPiece_85 k17 a.1 a.2.1 a.2.2.1) else none) else (if (0 ≤ a.2.2.2.2 ∧ a.2.2.2.2 < 20) then (if (a.1.2 18 a.2.2.2.2.toNat) = a.2.2.1 then fX6_badPiece_52 k17 k26 a.1 a.2.1 a.2.2.1 a.2.2.2.2 a.2.2.2.1 (1 : Int) else fX6_badPiece_52 k17 k26 a.1 a.2.1 a.2.2.1 a.2.2.2.2 a.2.2.2.1 (0 : Int)) else none))
def fX6_badPiece_17 (k17 : gt_T × Int × Int → Option (gt_T × Int)) (a : gt_T × Int × Int) : Option (gt_T × Int) :=
  (if a.2.2 < 0 then some (a.1, a.2.1) else gt_loop (fX6_badPiece_26 k17) gt_fuel (a.1, a.2.1, a.2.2, (0 : Int), (0 : Int)))
def fX6_badPiece (T : gt_T) : Option (gt_T × Int) :=
  (fX6_hang T).bind (fun (q1 : gt_T) => (fX6_findFaces q1).bind (fun (q5 : gt_T) => (if (-2147483648 ≤ (q5.1 5) - (1 : Int) ∧ (q5.1 5) - (1 : Int) < 2147483648) then gt_loop (fX6_badPiece_17) gt_fuel (q5, (-1 : Int), (q5.1 5) - (1 : Int)) else none)))
theorem iX6_badPiece_X6 : ∀ w ∈ u_ws RX6 TX6 23, w ∈ wsX6_badPiece := by decide +kernel
theorem kX6_badPiece_45 : Cond.fieldLink yX6_badPiece.cls 45 (TX6 18).1 (TX6 18).2.1 (TX6 18).2.2.1 ∈ wsX6_badPiece := by decide +kernel
theorem kX6_badPiece_57 : Cond.fieldLink yX6_badPiece.cls 57 (TX6 5).1 (TX6 5).2.1 (TX6 5).2.2.1 ∈ wsX6_badPiece := by decide +kernel
set_option maxHeartbeats 4000000 in
theorem gX6_badPiece_86 {X : ga_X} {D : va_G} {cI cZ : ClassId} {K : Nat} {r : Nat} {σ0 : ga_S} {res : gt_T × Int} {k17 : gt_T × Int × Int → Option (gt_T × Int)} (C : ga_C X cX6_badPiece yX6_badPiece wsX6_badPiece [] (gt_rm 4 92) (D, vwCl, cI, cZ) 5) (hRet : ∀ (pc : Nat) (lv : Nat → Option ga_V) (σ' : ga_S) (z : Int), decode cX6_badPiece pc = .ok (.ireturn, 1) → z = res.2 → (gt_O SX6 6 r res.1 σ' ∧ gt_F r (r + 14) σ0 σ') → ga_G X 0 0 K pc lv [.inl z] σ') (hr0 : r ≠ 0) (hk17 : ∀ (a : gt_T × Int × Int) (σ : ga_S) (lv : Nat → Option ga_V), gt_O SX6 6 r a.1 σ → gt_F r (r + 14) σ0 σ → lv 0 = some (.inr r) → lv 1 = some (.inl a.2.1) → lv 2 = some (.inl a.2.2) → k17 a = some res → ga_G X 0 0 K 17 lv [] σ) {T : gt_T} {σ : ga_S} {l2 s0 : Int} {lv : Nat → Option ga_V} (hW : gt_O SX6 6 r T σ) (hF : gt_F r (r + 14) σ0 σ) (hl0 : lv 0 = some (.inr r)) (hl2 : lv 2 = some (.inl l2)) (h : fX6_badPiece_86 k17 T l2 s0 = some res) : ga_G X 0 0 K 86 lv [.inl s0] σ := by
  unfold fX6_badPiece_86 at h
  obtain ⟨hg, h⟩ := gt_gd h
  have g87_0 := hg
  refine ga_istore_n C dX6_badPiece_86 rfl (by decide) ?_
  refine ga_iinc C dX6_badPiece_87 (gt_un (by decide) hl2) g87_0 ?_
  refine ga_goto (tgt := 17) C dX6_badPiece_90 (by decide) ?_
  exact hk17 (T, s0, l2 + (-1 : Int)) _ _ hW hF (gt_un (by decide) (gt_un (by decide) hl0)) (gt_un (by decide) gt_us) gt_us h
set_option maxHeartbeats 4000000 in
theorem gX6_badPiece_85 {X : ga_X} {D : va_G} {cI cZ : ClassId} {K : Nat} {r : Nat} {σ0 : ga_S} {res : gt_T × Int} {k17 : gt_T × Int × Int → Option (gt_T × Int)} (C : ga_C X cX6_badPiece yX6_badPiece wsX6_badPiece [] (gt_rm 4 92) (D, vwCl, cI, cZ) 5) (hRet : ∀ (pc : Nat) (lv : Nat → Option ga_V) (σ' : ga_S) (z : Int), decode cX6_badPiece pc = .ok (.ireturn, 1) → z = res.2 → (gt_O SX6 6 r res.1 σ' ∧ gt_F r (r + 14) σ0 σ') → ga_G X 0 0 K pc lv [.inl z] σ') (hr0 : r ≠ 0) (hk17 : ∀ (a : gt_T × Int × Int) (σ : ga_S) (lv : Nat → Option ga_V), gt_O SX6 6 r a.1 σ → gt_F r (r + 14) σ0 σ → lv 0 = some (.inr r) → lv 1 = some (.inl a.2.1) → lv 2 = some (.inl a.2.2) → k17 a = some res → ga_G X 0 0 K 17 lv [] σ) {T : gt_T} {σ : ga_S} {l1 l2 : Int} {lv : Nat → Option ga_V} (hW : gt_O SX6 6 r T σ) (hF : gt_F r (r + 14) σ0 σ) (hl0 : lv 0 = some (.inr r)) (hl1 : lv 1 = some (.inl l1)) (hl2 : lv 2 = some (.inl l2)) (h : fX6_badPiece_85 k17 T l1 l2 = some res) : ga_G X 0 0 K 85 lv [] σ := by
  unfold fX6_badPiece_85 at h
  refine ga_iload_n C dX6_badPiece_85 rfl hl1 ?_
  exact gX6_badPiece_86 C hRet hr0 hk17 hW hF hl0 hl2 h
set_option maxHeartbeats 4000000 in
theorem gX6_badPiece_52 {X : ga_X} {D : va_G} {cI cZ : ClassId} {K : Nat} {r : Nat} {σ0 : ga_S} {res : gt_T × Int} {k17 : gt_T × Int × Int → Option (gt_T × Int)} {k26 : gt_T × Int × Int × Int × Int → Option (gt_T × Int)} (C : ga_C X cX6_badPiece yX6_badPiece wsX6_badPiece [] (gt_rm 4 92) (D, vwCl, cI, cZ) 5) (hRet : ∀ (pc : Nat) (lv : Nat → Option ga_V) (σ' : ga_S) (z : Int), decode cX6_badPiece pc = .ok (.ireturn, 1) → z = res.2 → (gt_O SX6 6 r res.1 σ' ∧ gt_F r (r + 14) σ0 σ') → ga_G X 0 0 K pc lv [.inl z] σ') (hr0 : r ≠ 0) (hk17 : ∀ (a : gt_T × Int × Int) (σ : ga_S) (lv : Nat → Option ga_V), gt_O SX6 6 r a.1 σ → gt_F r (r + 14) σ0 σ → lv 0 = some (.inr r) → lv 1 = some (.inl a.2.1) → lv 2 = some (.inl a.2.2) → k17 a = some res → ga_G X 0 0 K 17 lv [] σ) (hk26 : ∀ (a : gt_T × Int × Int × Int × Int) (σ : ga_S) (lv : Nat → Option ga_V), gt_O SX6 6 r a.1 σ → gt_F r (r + 14) σ0 σ → lv 0 = some (.inr r) → lv 1 = some (.inl a.2.1) → lv 2 = some (.inl a.2.2.1) → lv 3 = some (.inl a.2.2.2.1) → lv 4 = some (.inl a.2.2.2.2) → k26 a = some res → ga_G X 0 0 K 26 lv [] σ) {T : gt_T} {σ : ga_S} {l1 l2 l4 s0 s1 : Int} {lv : Nat → Option ga_V} (hW : gt_O SX6 6 r T σ) (hF : gt_F r (r + 14) σ0 σ) (hl0 : lv 0 = some (.inr r)) (hl1 : lv 1 = some (.inl l1)) (hl2 : lv 2 = some (.inl l2)) (hl4 : lv 4 = some (.inl l4)) (h : fX6_badPiece_52 k17 k26 T l1 l2 l4 s0 s1 = some res) : ga_G X 0 0 K 52 lv [.inl s1, .inl s0] σ := by
  unfold fX6_badPiece_52 at h
  obtain ⟨hg, h⟩ := gt_gd h
  obtain ⟨g52_0, g54_1⟩ := hg
  refine ga_iadd C dX6_badPiece_52 g52_0 ?_
  refine ga_istore_n C dX6_badPiece_53 rfl (by decide) ?_
  refine ga_iinc C dX6_badPiece_54 (gt_un (by decide) hl4) g54_1 ?_
  refine ga_goto (tgt := 26) C dX6_badPiece_57 (by decide) ?_
  exact hk26 (T, l1, l2, s0 + s1, l4 + (1 : Int)) _ _ hW hF (gt_un (by decide) (gt_un (by decide) hl0)) (gt_un (by decide) (gt_un (by decide) hl1)) (gt_un (by decide) (gt_un (by decide) hl2)) (gt_un (by decide) gt_us) gt_us h
set_option maxHeartbeats 4000000 in
theorem gX6_badPiece_26 {X : ga_X} {D : va_G} {cI cZ : ClassId} {K : Nat} {r : Nat} {σ0 : ga_S} {res : gt_T × Int} {k17 : gt_T × Int × Int → Option (gt_T × Int)} (C : ga_C X cX6_badPiece yX6_badPiece wsX6_badPiece [] (gt_rm 4 92) (D, vwCl, cI, cZ) 5) (hRet : ∀ (pc : Nat) (lv : Nat → Option ga_V) (σ' : ga_S) (z : Int), decode cX6_badPiece pc = .ok (.ireturn, 1) → z = res.2 → (gt_O SX6 6 r res.1 σ' ∧ gt_F r (r + 14) σ0 σ') → ga_G X 0 0 K pc lv [.inl z] σ') (hr0 : r ≠ 0) (hk17 : ∀ (a : gt_T × Int × Int) (σ : ga_S) (lv : Nat → Option ga_V), gt_O SX6 6 r a.1 σ → gt_F r (r + 14) σ0 σ → lv 0 = some (.inr r) → lv 1 = some (.inl a.2.1) → lv 2 = some (.inl a.2.2) → k17 a = some res → ga_G X 0 0 K 17 lv [] σ) : ∀ (n : Nat) (a : gt_T × Int × Int × Int × Int) (σ : ga_S) (lv : Nat → Option ga_V), gt_O SX6 6 r a.1 σ → gt_F r (r + 14) σ0 σ → lv 0 = some (.inr r) → lv 1 = some (.inl a.2.1) → lv 2 = some (.inl a.2.2.1) → lv 3 = some (.inl a.2.2.2.1) → lv 4 = some (.inl a.2.2.2.2) → gt_loop (fX6_badPiece_26 k17) n a = some res → ga_G X 0 0 K 26 lv [] σ := by
  intro n
  induction n with
  | zero =>
    intro a _ lv _ _ _ _ _ _ _ h
    exact absurd (show (none : Option _) = some _ from h) (fun q => by cases q)
  | succ n hk26 =>
    intro a σ lv hW hF hl0 hl1 hl2 hl3 hl4 h
    have h : fX6_badPiece_26 k17 (gt_loop (fX6_badPiece_26 k17) n) a = some res := h
    revert hk26 h
    generalize gt_loop (fX6_badPiece_26 k17) n = k26
    intro hk26 h
    unfold fX6_badPiece_26 at h
    refine ga_iload C dX6_badPiece_26 hl4 ?_
    refine ga_aload_n C dX6_badPiece_28 rfl hl0 hr0 ?_
    refine gt_geti C (iX6_badPiece_X6) hW 5 rfl rfl (by decide) kX6_badPiece_57 dX6_badPiece_29 ?_
    refine ga_icmp_ge (tgt := 60) C dX6_badPiece_32 (by decide) (fun c1 => ?_) (fun c1 => ?_)
    · have h := gt_ip h c1
      obtain ⟨hg, h⟩ := gt_gd h
      have g65_0 := hg
      refine ga_aload_n C dX6_badPiece_60 rfl hl0 hr0 ?_
      refine gt_geta C (iX6_badPiece_X6) hW 18 rfl rfl (by decide) kX6_badPiece_45 dX6_badPiece_61 ?_
      refine ga_iload_n C dX6_badPiece_64 rfl hl2 ?_
      refine gt_iald C hW 18 rfl g65_0.1 g65_0.2 dX6_badPiece_65 ?_
      refine ga_iload_n C dX6_badPiece_66 rfl hl2 ?_
      refine ga_icmp_ne (tgt := 85) C dX6_badPiece_67 (by decide) (fun c1 => ?_) (fun c1 => ?_)
      · have h := gt_in h c1
        exact gX6_badPiece_85 C hRet hr0 hk17 hW hF hl0 hl1 hl2 h
      · have h := gt_ip h c1
        refine ga_aload_n C dX6_badPiece_70 rfl hl0 hr0 ?_
        refine ga_iload_n C dX6_badPiece_71 rfl hl2 ?_
        obtain ⟨q72, hq, h⟩ := Option.bind_eq_some_iff.mp h
        refine gt_cVi (n := 1) (st := []) C (eX6_facesAt X.2.1 D cI cZ K hr0 hW hq) gX6_badPiece_X6_facesAt rfl (by decide +kernel) rfl ⟨Nat.le_of_ble_eq_true rfl, Nat.le_of_ble_eq_true rfl⟩ hW.1 rfl rfl (Nat.le_of_ble_eq_true rfl) rfl dX6_badPiece_72 (fun σ' hp => ?_)
        subst hp
        obtain ⟨hg, h⟩ := gt_gd h
        have g77_0 := hg
        refine ga_iload_n C dX6_badPiece_75 rfl hl3 ?_
        refine ga_iconst C dX6_badPiece_76 ⟨by decide, by decide⟩ ?_
        refine ga_iadd C dX6_badPiece_77 g77_0 ?_
        refine ga_icmp_eq (tgt := 85) C dX6_badPiece_78 (by decide) (fun c1 => ?_) (fun c1 => ?_)
        · have h := gt_ip h c1
          exact gX6_badPiece_85 C hRet hr0 hk17 hW hF hl0 hl1 hl2 h
        · have h := gt_in h c1
          refine ga_iload_n C dX6_badPiece_81 rfl hl2 ?_
          refine ga_goto (tgt := 86) C dX6_badPiece_82 (by decide) ?_
          exact gX6_badPiece_86 C hRet hr0 hk17 hW hF hl0 hl2 h
    · have h := gt_in h c1
      obtain ⟨hg, h⟩ := gt_gd h
      have g42_0 := hg
      refine ga_iload_n C dX6_badPiece_35 rfl hl3 ?_
      refine ga_aload_n C dX6_badPiece_36 rfl hl0 hr0 ?_
      refine gt_geta C (iX6_badPiece_X6) hW 18 rfl rfl (by decide) kX6_badPiece_45 dX6_badPiece_37 ?_
      refine ga_iload C dX6_badPiece_40 hl4 ?_
      refine gt_iald C hW 18 rfl g42_0.1 g42_0.2 dX6_badPiece_42 ?_
      refine ga_iload_n C dX6_badPiece_43 rfl hl2 ?_
      refine ga_icmp_ne (tgt := 51) C dX6_badPiece_44 (by decide) (fun c1 => ?_) (fun c1 => ?_)
      · have h := gt_in h c1
        refine ga_iconst C dX6_badPiece_51 ⟨by decide, by decide⟩ ?_
        exact gX6_badPiece_52 C hRet hr0 hk17 hk26 hW hF hl0 hl1 hl2 hl4 h
      · have h := gt_ip h c1
        refine ga_iconst C dX6_badPiece_47 ⟨by decide, by decide⟩ ?_
        refine ga_goto (tgt := 52) C dX6_badPiece_48 (by decide) ?_
        exact gX6_badPiece_52 C hRet hr0 hk17 hk26 hW hF hl0 hl1 hl2 hl4 h
set_option maxHeartbeats 4000000 in
theorem gX6_badPiece_17 {X : ga_X} {D : va_G} {cI cZ : ClassId} {K : Nat} {r : Nat} {σ0 : ga_S} {res : gt_T × Int} (C : ga_C X cX6_badPiece yX6_badPiece wsX6_badPiece [] (gt_rm 4 92) (D, vwCl, cI, cZ) 5) (hRet : ∀ (pc : Nat) (lv : Nat → Option ga_V) (σ' : ga_S) (z : Int), decode cX6_badPiece pc = .ok (.ireturn, 1) → z = res.2 → (gt_O SX6 6 r res.1 σ' ∧ gt_F r (r + 14) σ0 σ') → ga_G X 0 0 K pc lv [.inl z] σ') (hr0 : r ≠ 0) : ∀ (n : Nat) (a : gt_T × Int × Int) (σ : ga_S) (lv : Nat → Option ga_V), gt_O SX6 6 r a.1 σ → gt_F r (r + 14) σ0 σ → lv 0 = some (.inr r) → lv 1 = some (.inl a.2.1) → lv 2 = some (.inl a.2.2) → gt_loop (fX6_badPiece_17) n a = some res → ga_G X 0 0 K 17 lv [] σ := by
  intro n
  induction n with
  | zero =>
    intro a _ lv _ _ _ _ _ h
    exact absurd (show (none : Option _) = some _ from h) (fun q => by cases q)
  | succ n hk17 =>
    intro a σ lv hW hF hl0 hl1 hl2 h
    have h : fX6_badPiece_17 (gt_loop (fX6_badPiece_17) n) a = some res := h
    revert hk17 h
    generalize gt_loop (fX6_badPiece_17) n = k17
    intro hk17 h
    unfold fX6_badPiece_17 at h
    refine ga_iload_n C dX6_badPiece_17 rfl hl2 ?_
    refine ga_if_lt (tgt := 93) C dX6_badPiece_18 (by decide) (fun c1 => ?_) (fun c1 => ?_)
    · have h := gt_ip h c1
      refine ga_iload_n C dX6_badPiece_93 rfl hl1 ?_
      cases h
      exact hRet _ _ _ _ dX6_badPiece_94 rfl ⟨hW, hF⟩
    · have h := gt_in h c1
      refine ga_iconst C dX6_badPiece_21 ⟨by decide, by decide⟩ ?_
      refine ga_istore_n C dX6_badPiece_22 rfl (by decide) ?_
      refine ga_iconst C dX6_badPiece_23 ⟨by decide, by decide⟩ ?_
      refine ga_istore C dX6_badPiece_24 (by decide) ?_
      exact gX6_badPiece_26 C hRet hr0 hk17 gt_fuel (a.1, a.2.1, a.2.2, (0 : Int), (0 : Int)) _ _ hW hF (gt_un (by decide) (gt_un (by decide) hl0)) (gt_un (by decide) (gt_un (by decide) hl1)) (gt_un (by decide) (gt_un (by decide) hl2)) (gt_un (by decide) gt_us) gt_us h
set_option maxHeartbeats 4000000 in
theorem gX6_badPiece_0 {X : ga_X} {D : va_G} {cI cZ : ClassId} {K : Nat} {r : Nat} {σ0 : ga_S} {res : gt_T × Int} (C : ga_C X cX6_badPiece yX6_badPiece wsX6_badPiece [] (gt_rm 4 92) (D, vwCl, cI, cZ) 5) (hRet : ∀ (pc : Nat) (lv : Nat → Option ga_V) (σ' : ga_S) (z : Int), decode cX6_badPiece pc = .ok (.ireturn, 1) → z = res.2 → (gt_O SX6 6 r res.1 σ' ∧ gt_F r (r + 14) σ0 σ') → ga_G X 0 0 K pc lv [.inl z] σ') (hr0 : r ≠ 0) {T : gt_T} {σ : ga_S} {lv : Nat → Option ga_V} (hW : gt_O SX6 6 r T σ) (hF : gt_F r (r + 14) σ0 σ) (hl0 : lv 0 = some (.inr r)) (h : fX6_badPiece T = some res) : ga_G X 0 0 K 0 lv [] σ := by
  unfold fX6_badPiece at h
  refine ga_aload_n C dX6_badPiece_0 rfl hl0 hr0 ?_
  obtain ⟨q1, hq, h⟩ := Option.bind_eq_some_iff.mp h
  refine gt_cVv (n := 0) (st := []) C (eX6_hang X.2.1 D cI cZ K hr0 hW hq) gX6_badPiece_X6_hang rfl (by decide +kernel) rfl ⟨Nat.le_of_ble_eq_true rfl, Nat.le_of_ble_eq_true rfl⟩ hW.1 rfl rfl (Nat.le_of_ble_eq_true rfl) rfl dX6_badPiece_1 (fun σ' hp => ?_)
  obtain ⟨hw, hf⟩ := hp
  have hF := hF.tr hf (Nat.le_refl _) (Nat.le_refl _)
  have hW := hw
  clear hf
  refine ga_aload_n C dX6_badPiece_4 rfl hl0 hr0 ?_
  obtain ⟨q5, hq, h⟩ := Option.bind_eq_some_iff.mp h
  refine gt_cVv (n := 0) (st := []) C (eX6_findFaces X.2.1 D cI cZ K hr0 hW hq) gX6_badPiece_X6_findFaces rfl (by decide +kernel) rfl ⟨Nat.le_of_ble_eq_true rfl, Nat.le_of_ble_eq_true rfl⟩ hW.1 rfl rfl (Nat.le_of_ble_eq_true rfl) rfl dX6_badPiece_5 (fun σ' hp => ?_)
  obtain ⟨hw, hf⟩ := hp
  have hF := hF.tr hf (Nat.le_refl _) (Nat.le_refl _)
  have hW := hw
  clear hf
  obtain ⟨hg, h⟩ := gt_gd h
  have g15_0 := hg
  refine ga_iconst C dX6_badPiece_8 ⟨by decide, by decide⟩ ?_
  refine ga_istore_n C dX6_badPiece_9 rfl (by decide) ?_
  refine ga_aload_n C dX6_badPiece_10 rfl (gt_un (by decide) hl0) hr0 ?_
  refine gt_geti C (iX6_badPiece_X6) hW 5 rfl rfl (by decide) kX6_badPiece_57 dX6_badPiece_11 ?_
  refine ga_iconst C dX6_badPiece_14 ⟨by decide, by decide⟩ ?_
  refine ga_isub C dX6_badPiece_15 g15_0 ?_
  refine ga_istore_n C dX6_badPiece_16 rfl (by decide) ?_
  exact gX6_badPiece_17 C hRet hr0 gt_fuel (q5, (-1 : Int), (q5.1 5) - (1 : Int)) _ _ hW hF (gt_un (by decide) (gt_un (by decide) hl0)) (gt_un (by decide) gt_us) gt_us h
set_option maxHeartbeats 4000000 in
theorem eX6_badPiece (l : Launch) (D : va_G) (cI cZ : ClassId) (K : Nat) {r : Nat} (hr0 : r ≠ 0) {σ : ga_S} {T : gt_T} (hW : gt_O SX6 6 r T σ) {res : gt_T × Int} (h : fX6_badPiece T = some res) : ga_Ev l (D, vwCl, cI, cZ) yX6_badPiece wsX6_badPiece (gt_rm 4 92) [] 0 0 K [.inr r] σ (fun σ' rv => (gt_O SX6 6 r res.1 σ' ∧ gt_F r (r + 14) σ σ') ∧ rv = some (.inl res.2)) := by
  refine ga_ofI (by decide +kernel) rfl gt_hcl (Nat.le_of_ble_eq_true rfl) (fun X hX C hret => ?_)
  exact gX6_badPiece_0 C (fun pc lv σ' z d hz hp => hret pc lv σ' z d ⟨hp, by rw [hz]⟩) hr0 hW gt_F.rf rfl h
-- X6_fault: fault()I
def fX6_fault_56 (T : gt_T) (s0 : Int) : Option (gt_T × Int) :=
  some (T, s0)
def fX6_fault (T : gt_T) : Option (gt_T × Int) :=
  (fX6_badLabel T (0 : Int)).bind (fun (q3 : gt_T × Int) => (if ((va_up q3.1.1 2 q3.2) 2) < 0 then (fX6_badLabel ((va_up q3.1.1 2 q3.2), q3.1.2) (1 : Int)).bind (fun (q21 : gt_T × Int) => (if ((va_up q21.1.1 2 q21.2) 2) < 0 then (fX6_badPiece ((va_up q21.1.1 2 q21.2), q21.1.2)).bind (fun (q38 : gt_T × Int) => (if ((va_up q38.1.1 2 q38.2) 2) < 0 then fX6_fault_56 ((va_up q38.1.1 2 q38.2), q38.1.2) (0 : Int) else fX6_fault_56 ((va_up q38.1.1 2 q38.2), q38.1.2) (3 : Int))) else some (((va_up q21.1.1 2 q21.2), q21.1.2), (2 : Int)))) else some (((va_up q3.1.1 2 q3.2), q3.1.2), (1 : Int))))
theorem iX6_fault_X6 : ∀ w ∈ u_ws RX6 TX6 23, w ∈ wsX6_fault := by decide +kernel
theorem kX6_fault_7 : Cond.fieldLink yX6_fault.cls 7 (TX6 2).1 (TX6 2).2.1 (TX6 2).2.2.1 ∈ wsX6_fault := by decide +kernel
set_option maxHeartbeats 4000000 in
theorem gX6_fault_56 {X : ga_X} {D : va_G} {cI cZ : ClassId} {K : Nat} {r : Nat} {σ0 : ga_S} {res : gt_T × Int} (C : ga_C X cX6_fault yX6_fault wsX6_fault [] (gt_rm 5 116) (D, vwCl, cI, cZ) 1) (hRet : ∀ (pc : Nat) (lv : Nat → Option ga_V) (σ' : ga_S) (z : Int), decode cX6_fault pc = .ok (.ireturn, 1) → z = res.2 → (gt_O SX6 6 r res.1 σ' ∧ gt_F r (r + 14) σ0 σ') → ga_G X 0 0 K pc lv [.inl z] σ') (hr0 : r ≠ 0) {T : gt_T} {σ : ga_S} {s0 : Int} {lv : Nat → Option ga_V} (hW : gt_O SX6 6 r T σ) (hF : gt_F r (r + 14) σ0 σ) (h : fX6_fault_56 T s0 = some res) : ga_G X 0 0 K 56 lv [.inl s0] σ := by
  unfold fX6_fault_56 at h
  cases h
  exact hRet _ _ _ _ dX6_fault_56 rfl ⟨hW, hF⟩
set_option maxHeartbeats 4000000 in
theorem gX6_fault_0 {X : ga_X} {D : va_G} {cI cZ : ClassId} {K : Nat} {r : Nat} {σ0 : ga_S} {res : gt_T × Int} (C : ga_C X cX6_fault yX6_fault wsX6_fault [] (gt_rm 5 116) (D, vwCl, cI, cZ) 1) (hRet : ∀ (pc : Nat) (lv : Nat → Option ga_V) (σ' : ga_S) (z : Int), decode cX6_fault pc = .ok (.ireturn, 1) → z = res.2 → (gt_O SX6 6 r res.1 σ' ∧ gt_F r (r + 14) σ0 σ') → ga_G X 0 0 K pc lv [.inl z] σ') (hr0 : r ≠ 0) {T : gt_T} {σ : ga_S} {lv : Nat → Option ga_V} (hW : gt_O SX6 6 r T σ) (hF : gt_F r (r + 14) σ0 σ) (hl0 : lv 0 = some (.inr r)) (h : fX6_fault T = some res) : ga_G X 0 0 K 0 lv [] σ := by
  unfold fX6_fault at h
  refine ga_aload_n C dX6_fault_0 rfl hl0 hr0 ?_
  refine ga_aload_n C dX6_fault_1 rfl hl0 hr0 ?_
  refine ga_iconst C dX6_fault_2 ⟨by decide, by decide⟩ ?_
  obtain ⟨q3, hq, h⟩ := Option.bind_eq_some_iff.mp h
  refine gt_cVi (n := 1) (st := [.inr r]) C (eX6_badLabel X.2.1 D cI cZ K hr0 hW hq) gX6_fault_X6_badLabel rfl (by decide +kernel) rfl ⟨Nat.le_of_ble_eq_true rfl, Nat.le_of_ble_eq_true rfl⟩ hW.1 rfl rfl (Nat.le_of_ble_eq_true rfl) rfl dX6_fault_3 (fun σ' hp => ?_)
  obtain ⟨hw, hf⟩ := hp
  have hF := hF.tr hf (Nat.le_refl _) (Nat.le_refl _)
  have hW := hw
  clear hf
  refine gt_puti C okX6 (by decide) (iX6_fault_X6) tyX6 tyX6_ok nmX6 hW hF ⟨Nat.le_refl _, Nat.le_refl _⟩ 2 rfl rfl (by decide) kX6_fault_7 rfl (by decide +kernel) dX6_fault_6 (fun σ hW hF hf => ?_)
  refine ga_aload_n C dX6_fault_9 rfl hl0 hr0 ?_
  refine gt_geti C (iX6_fault_X6) hW 2 rfl rfl (by decide) kX6_fault_7 dX6_fault_10 ?_
  refine ga_if_lt (tgt := 18) C dX6_fault_13 (by decide) (fun c1 => ?_) (fun c1 => ?_)
  · have h := gt_ip h c1
    refine ga_aload_n C dX6_fault_18 rfl hl0 hr0 ?_
    refine ga_aload_n C dX6_fault_19 rfl hl0 hr0 ?_
    refine ga_iconst C dX6_fault_20 ⟨by decide, by decide⟩ ?_
    obtain ⟨q21, hq, h⟩ := Option.bind_eq_some_iff.mp h
    refine gt_cVi (n := 1) (st := [.inr r]) C (eX6_badLabel X.2.1 D cI cZ K hr0 hW hq) gX6_fault_X6_badLabel rfl (by decide +kernel) rfl ⟨Nat.le_of_ble_eq_true rfl, Nat.le_of_ble_eq_true rfl⟩ hW.1 rfl rfl (Nat.le_of_ble_eq_true rfl) rfl dX6_fault_21 (fun σ' hp => ?_)
    obtain ⟨hw, hf⟩ := hp
    have hF := hF.tr hf (Nat.le_refl _) (Nat.le_refl _)
    have hW := hw
    clear hf
    refine gt_puti C okX6 (by decide) (iX6_fault_X6) tyX6 tyX6_ok nmX6 hW hF ⟨Nat.le_refl _, Nat.le_refl _⟩ 2 rfl rfl (by decide) kX6_fault_7 rfl (by decide +kernel) dX6_fault_24 (fun σ hW hF hf => ?_)
    refine ga_aload_n C dX6_fault_27 rfl hl0 hr0 ?_
    refine gt_geti C (iX6_fault_X6) hW 2 rfl rfl (by decide) kX6_fault_7 dX6_fault_28 ?_
    refine ga_if_lt (tgt := 36) C dX6_fault_31 (by decide) (fun c1 => ?_) (fun c1 => ?_)
    · have h := gt_ip h c1
      refine ga_aload_n C dX6_fault_36 rfl hl0 hr0 ?_
      refine ga_aload_n C dX6_fault_37 rfl hl0 hr0 ?_
      obtain ⟨q38, hq, h⟩ := Option.bind_eq_some_iff.mp h
      refine gt_cVi (n := 0) (st := [.inr r]) C (eX6_badPiece X.2.1 D cI cZ K hr0 hW hq) gX6_fault_X6_badPiece rfl (by decide +kernel) rfl ⟨Nat.le_of_ble_eq_true rfl, Nat.le_of_ble_eq_true rfl⟩ hW.1 rfl rfl (Nat.le_of_ble_eq_true rfl) rfl dX6_fault_38 (fun σ' hp => ?_)
      obtain ⟨hw, hf⟩ := hp
      have hF := hF.tr hf (Nat.le_refl _) (Nat.le_refl _)
      have hW := hw
      clear hf
      refine gt_puti C okX6 (by decide) (iX6_fault_X6) tyX6 tyX6_ok nmX6 hW hF ⟨Nat.le_refl _, Nat.le_refl _⟩ 2 rfl rfl (by decide) kX6_fault_7 rfl (by decide +kernel) dX6_fault_41 (fun σ hW hF hf => ?_)
      refine ga_aload_n C dX6_fault_44 rfl hl0 hr0 ?_
      refine gt_geti C (iX6_fault_X6) hW 2 rfl rfl (by decide) kX6_fault_7 dX6_fault_45 ?_
      refine ga_if_lt (tgt := 55) C dX6_fault_48 (by decide) (fun c1 => ?_) (fun c1 => ?_)
      · have h := gt_ip h c1
        refine ga_iconst C dX6_fault_55 ⟨by decide, by decide⟩ ?_
        exact gX6_fault_56 C hRet hr0 hW hF h
      · have h := gt_in h c1
        refine ga_iconst C dX6_fault_51 ⟨by decide, by decide⟩ ?_
        refine ga_goto (tgt := 56) C dX6_fault_52 (by decide) ?_
        exact gX6_fault_56 C hRet hr0 hW hF h
    · have h := gt_in h c1
      refine ga_iconst C dX6_fault_34 ⟨by decide, by decide⟩ ?_
      cases h
      exact hRet _ _ _ _ dX6_fault_35 rfl ⟨hW, hF⟩
  · have h := gt_in h c1
    refine ga_iconst C dX6_fault_16 ⟨by decide, by decide⟩ ?_
    cases h
    exact hRet _ _ _ _ dX6_fault_17 rfl ⟨hW, hF⟩
set_option maxHeartbeats 4000000 in
theorem eX6_fault (l : Launch) (D : va_G) (cI cZ : ClassId) (K : Nat) {r : Nat} (hr0 : r ≠ 0) {σ : ga_S} {T : gt_T} (hW : gt_O SX6 6 r T σ) {res : gt_T × Int} (h : fX6_fault T = some res) : ga_Ev l (D, vwCl, cI, cZ) yX6_fault wsX6_fault (gt_rm 5 116) [] 0 0 K [.inr r] σ (fun σ' rv => (gt_O SX6 6 r res.1 σ' ∧ gt_F r (r + 14) σ σ') ∧ rv = some (.inl res.2)) := by
  refine ga_ofI (by decide +kernel) rfl gt_hcl (Nat.le_of_ble_eq_true rfl) (fun X hX C hret => ?_)
  exact gX6_fault_0 C (fun pc lv σ' z d hz hp => hret pc lv σ' z d ⟨hp, by rw [hz]⟩) hr0 hW gt_F.rf rfl h
-- X6_check: check(I)I
def fX6_check_10 (T : gt_T) : Option (gt_T × Int) :=
  some (T, (-1 : Int))
def fX6_check_34 (T : gt_T) (l2 : Int) : Option (gt_T × Int) :=
  some (T, l2)
def fX6_check (T : gt_T) (l1 : Int) : Option (gt_T × Int) :=
  (if l1 < 0 then fX6_check_10 T else (if l1 ≤ (20 : Int) then (fX6_take T).bind (fun (q13 : gt_T) => (fX6_fault ((va_up q13.1 6 l1), q13.2)).bind (fun (q22 : gt_T × Int) => (if q22.2 ≤ 0 then fX6_check_34 q22.1 q22.2 else (fX6_back q22.1).bind (fun (q31 : gt_T) => fX6_check_34 q31 q22.2)))) else fX6_check_10 T))
theorem iX6_check_X6 : ∀ w ∈ u_ws RX6 TX6 23, w ∈ wsX6_check := by decide +kernel
theorem kX6_check_105 : Cond.fieldLink yX6_check.cls 105 (TX6 6).1 (TX6 6).2.1 (TX6 6).2.2.1 ∈ wsX6_check := by decide +kernel
set_option maxHeartbeats 4000000 in
theorem gX6_check_10 {X : ga_X} {D : va_G} {cI cZ : ClassId} {K : Nat} {r : Nat} {σ0 : ga_S} {res : gt_T × Int} (C : ga_C X cX6_check yX6_check wsX6_check [] (gt_rm 6 136) (D, vwCl, cI, cZ) 3) (hRet : ∀ (pc : Nat) (lv : Nat → Option ga_V) (σ' : ga_S) (z : Int), decode cX6_check pc = .ok (.ireturn, 1) → z = res.2 → (gt_O SX6 6 r res.1 σ' ∧ gt_F r (r + 14) σ0 σ') → ga_G X 0 0 K pc lv [.inl z] σ') (hr0 : r ≠ 0) {T : gt_T} {σ : ga_S} {lv : Nat → Option ga_V} (hW : gt_O SX6 6 r T σ) (hF : gt_F r (r + 14) σ0 σ) (h : fX6_check_10 T = some res) : ga_G X 0 0 K 10 lv [] σ := by
  unfold fX6_check_10 at h
  refine ga_iconst C dX6_check_10 ⟨by decide, by decide⟩ ?_
  cases h
  exact hRet _ _ _ _ dX6_check_11 rfl ⟨hW, hF⟩
set_option maxHeartbeats 4000000 in
theorem gX6_check_34 {X : ga_X} {D : va_G} {cI cZ : ClassId} {K : Nat} {r : Nat} {σ0 : ga_S} {res : gt_T × Int} (C : ga_C X cX6_check yX6_check wsX6_check [] (gt_rm 6 136) (D, vwCl, cI, cZ) 3) (hRet : ∀ (pc : Nat) (lv : Nat → Option ga_V) (σ' : ga_S) (z : Int), decode cX6_check pc = .ok (.ireturn, 1) → z = res.2 → (gt_O SX6 6 r res.1 σ' ∧ gt_F r (r + 14) σ0 σ') → ga_G X 0 0 K pc lv [.inl z] σ') (hr0 : r ≠ 0) {T : gt_T} {σ : ga_S} {l2 : Int} {lv : Nat → Option ga_V} (hW : gt_O SX6 6 r T σ) (hF : gt_F r (r + 14) σ0 σ) (hl2 : lv 2 = some (.inl l2)) (h : fX6_check_34 T l2 = some res) : ga_G X 0 0 K 34 lv [] σ := by
  unfold fX6_check_34 at h
  refine ga_iload_n C dX6_check_34 rfl hl2 ?_
  cases h
  exact hRet _ _ _ _ dX6_check_35 rfl ⟨hW, hF⟩
set_option maxHeartbeats 4000000 in
theorem gX6_check_0 {X : ga_X} {D : va_G} {cI cZ : ClassId} {K : Nat} {r : Nat} {σ0 : ga_S} {res : gt_T × Int} (C : ga_C X cX6_check yX6_check wsX6_check [] (gt_rm 6 136) (D, vwCl, cI, cZ) 3) (hRet : ∀ (pc : Nat) (lv : Nat → Option ga_V) (σ' : ga_S) (z : Int), decode cX6_check pc = .ok (.ireturn, 1) → z = res.2 → (gt_O SX6 6 r res.1 σ' ∧ gt_F r (r + 14) σ0 σ') → ga_G X 0 0 K pc lv [.inl z] σ') (hr0 : r ≠ 0) {T : gt_T} {σ : ga_S} {l1 : Int} {lv : Nat → Option ga_V} (hW : gt_O SX6 6 r T σ) (hF : gt_F r (r + 14) σ0 σ) (hl0 : lv 0 = some (.inr r)) (hl1 : lv 1 = some (.inl l1)) (h : fX6_check T l1 = some res) : ga_G X 0 0 K 0 lv [] σ := by
  unfold fX6_check at h
  refine ga_iload_n C dX6_check_0 rfl hl1 ?_
  refine ga_if_lt (tgt := 10) C dX6_check_1 (by decide) (fun c1 => ?_) (fun c1 => ?_)
  · have h := gt_ip h c1
    exact gX6_check_10 C hRet hr0 hW hF h
  · have h := gt_in h c1
    refine ga_iload_n C dX6_check_4 rfl hl1 ?_
    refine ga_bipush C dX6_check_5 ⟨by decide, by decide⟩ (by decide) ?_
    refine ga_icmp_le (tgt := 12) C dX6_check_7 (by decide) (fun c1 => ?_) (fun c1 => ?_)
    · have h := gt_ip h c1
      refine ga_aload_n C dX6_check_12 rfl hl0 hr0 ?_
      obtain ⟨q13, hq, h⟩ := Option.bind_eq_some_iff.mp h
      refine gt_cVv (n := 0) (st := []) C (eX6_take X.2.1 D cI cZ K hr0 hW hq) gX6_check_X6_take rfl (by decide +kernel) rfl ⟨Nat.le_of_ble_eq_true rfl, Nat.le_of_ble_eq_true rfl⟩ hW.1 rfl rfl (Nat.le_of_ble_eq_true rfl) rfl dX6_check_13 (fun σ' hp => ?_)
      obtain ⟨hw, hf⟩ := hp
      have hF := hF.tr hf (Nat.le_refl _) (Nat.le_refl _)
      have hW := hw
      clear hf
      refine ga_aload_n C dX6_check_16 rfl hl0 hr0 ?_
      refine ga_iload_n C dX6_check_17 rfl hl1 ?_
      refine gt_puti C okX6 (by decide) (iX6_check_X6) tyX6 tyX6_ok nmX6 hW hF ⟨Nat.le_refl _, Nat.le_refl _⟩ 6 rfl rfl (by decide) kX6_check_105 rfl (by decide +kernel) dX6_check_18 (fun σ hW hF hf => ?_)
      refine ga_aload_n C dX6_check_21 rfl hl0 hr0 ?_
      obtain ⟨q22, hq, h⟩ := Option.bind_eq_some_iff.mp h
      refine gt_cVi (n := 0) (st := []) C (eX6_fault X.2.1 D cI cZ K hr0 hW hq) gX6_check_X6_fault rfl (by decide +kernel) rfl ⟨Nat.le_of_ble_eq_true rfl, Nat.le_of_ble_eq_true rfl⟩ hW.1 rfl rfl (Nat.le_of_ble_eq_true rfl) rfl dX6_check_22 (fun σ' hp => ?_)
      obtain ⟨hw, hf⟩ := hp
      have hF := hF.tr hf (Nat.le_refl _) (Nat.le_refl _)
      have hW := hw
      clear hf
      refine ga_istore_n C dX6_check_25 rfl (by decide) ?_
      refine ga_iload_n C dX6_check_26 rfl gt_us ?_
      refine ga_if_le (tgt := 34) C dX6_check_27 (by decide) (fun c1 => ?_) (fun c1 => ?_)
      · have h := gt_ip h c1
        exact gX6_check_34 C hRet hr0 hW hF gt_us h
      · have h := gt_in h c1
        refine ga_aload_n C dX6_check_30 rfl (gt_un (by decide) hl0) hr0 ?_
        obtain ⟨q31, hq, h⟩ := Option.bind_eq_some_iff.mp h
        refine gt_cVv (n := 0) (st := []) C (eX6_back X.2.1 D cI cZ K hr0 hW hq) gX6_check_X6_back rfl (by decide +kernel) rfl ⟨Nat.le_of_ble_eq_true rfl, Nat.le_of_ble_eq_true rfl⟩ hW.1 rfl rfl (Nat.le_of_ble_eq_true rfl) rfl dX6_check_31 (fun σ' hp => ?_)
        obtain ⟨hw, hf⟩ := hp
        have hF := hF.tr hf (Nat.le_refl _) (Nat.le_refl _)
        have hW := hw
        clear hf
        exact gX6_check_34 C hRet hr0 hW hF gt_us h
    · have h := gt_in h c1
      exact gX6_check_10 C hRet hr0 hW hF h
set_option maxHeartbeats 4000000 in
theorem eX6_check (l : Launch) (D : va_G) (cI cZ : ClassId) (K : Nat) {r : Nat} (hr0 : r ≠ 0) {σ : ga_S} {T : gt_T} (hW : gt_O SX6 6 r T σ) {l1 : Int} {res : gt_T × Int} (h : fX6_check T l1 = some res) : ga_Ev l (D, vwCl, cI, cZ) yX6_check wsX6_check (gt_rm 6 136) [] 0 0 K [.inr r, .inl l1] σ (fun σ' rv => (gt_O SX6 6 r res.1 σ' ∧ gt_F r (r + 14) σ σ') ∧ rv = some (.inl res.2)) := by
  refine ga_ofI (by decide +kernel) rfl gt_hcl (Nat.le_of_ble_eq_true rfl) (fun X hX C hret => ?_)
  exact gX6_check_0 C (fun pc lv σ' z d hz hp => hret pc lv σ' z d ⟨hp, by rw [hz]⟩) hr0 hW gt_F.rf rfl rfl h
-- X6_which: which()I
def fX6_which (T : gt_T) : Option (Int) :=
  some (T.1 2)
theorem iX6_which_X6 : ∀ w ∈ u_ws RX6 TX6 23, w ∈ wsX6_which := by decide +kernel
theorem kX6_which_7 : Cond.fieldLink yX6_which.cls 7 (TX6 2).1 (TX6 2).2.1 (TX6 2).2.2.1 ∈ wsX6_which := by decide +kernel
set_option maxHeartbeats 4000000 in
theorem gX6_which_0 {X : ga_X} {D : va_G} {cI cZ : ClassId} {K : Nat} {r : Nat} {res : Int} {T : gt_T} {σ : ga_S} (C : ga_C X cX6_which yX6_which wsX6_which [] (gt_rm 0 0) (D, vwCl, cI, cZ) 1) (hRet : ∀ (pc : Nat) (lv : Nat → Option ga_V) (σ' : ga_S) (z : Int), decode cX6_which pc = .ok (.ireturn, 1) → z = res → (σ' = σ) → ga_G X 0 0 K pc lv [.inl z] σ') (hr0 : r ≠ 0) {lv : Nat → Option ga_V} (hW : gt_O SX6 6 r T σ) (hl0 : lv 0 = some (.inr r)) (h : fX6_which T = some res) : ga_G X 0 0 K 0 lv [] σ := by
  unfold fX6_which at h
  refine ga_aload_n C dX6_which_0 rfl hl0 hr0 ?_
  refine gt_geti C (iX6_which_X6) hW 2 rfl rfl (by decide) kX6_which_7 dX6_which_1 ?_
  cases h
  exact hRet _ _ _ _ dX6_which_4 rfl rfl
set_option maxHeartbeats 4000000 in
theorem eX6_which (l : Launch) (D : va_G) (cI cZ : ClassId) (K : Nat) {r : Nat} (hr0 : r ≠ 0) {σ : ga_S} {T : gt_T} (hW : gt_O SX6 6 r T σ) {res : Int} (h : fX6_which T = some res) : ga_Ev l (D, vwCl, cI, cZ) yX6_which wsX6_which (gt_rm 0 0) [] 0 0 K [.inr r] σ (fun σ' rv => (σ' = σ) ∧ rv = some (.inl res)) := by
  refine ga_ofI (by decide +kernel) rfl gt_hcl (Nat.le_of_ble_eq_true rfl) (fun X hX C hret => ?_)
  exact gX6_which_0 C (fun pc lv σ' z d hz hp => hret pc lv σ' z d ⟨hp, by rw [hz]⟩) hr0 hW rfl h
-- X6_signs: signs()I
def fX6_signs_4 (T : gt_T) (k4 : Int × Int → Option (Int)) (a : Int × Int) : Option (Int) :=
  (if (T.1 5) ≤ a.2 then some a.1 else (if (0 ≤ a.2 ∧ a.2 < 20) ∧ (-2147483648 ≤ a.1 + (T.2 9 a.2.toNat) ∧ a.1 + (T.2 9 a.2.toNat) < 2147483648) ∧ (-2147483648 ≤ a.2 + (1 : Int) ∧ a.2 + (1 : Int) < 2147483648) then k4 (a.1 + (T.2 9 a.2.toNat), a.2 + (1 : Int)) else none))
def fX6_signs (T : gt_T) : Option (Int) :=
  gt_loop (fX6_signs_4 T) gt_fuel ((0 : Int), (0 : Int))
theorem iX6_signs_X6 : ∀ w ∈ u_ws RX6 TX6 23, w ∈ wsX6_signs := by decide +kernel
theorem kX6_signs_20 : Cond.fieldLink yX6_signs.cls 20 (TX6 9).1 (TX6 9).2.1 (TX6 9).2.2.1 ∈ wsX6_signs := by decide +kernel
theorem kX6_signs_57 : Cond.fieldLink yX6_signs.cls 57 (TX6 5).1 (TX6 5).2.1 (TX6 5).2.2.1 ∈ wsX6_signs := by decide +kernel
set_option maxHeartbeats 4000000 in
theorem gX6_signs_4 {X : ga_X} {D : va_G} {cI cZ : ClassId} {K : Nat} {r : Nat} {res : Int} {T : gt_T} {σ : ga_S} (C : ga_C X cX6_signs yX6_signs wsX6_signs [] (gt_rm 0 0) (D, vwCl, cI, cZ) 3) (hRet : ∀ (pc : Nat) (lv : Nat → Option ga_V) (σ' : ga_S) (z : Int), decode cX6_signs pc = .ok (.ireturn, 1) → z = res → (σ' = σ) → ga_G X 0 0 K pc lv [.inl z] σ') (hr0 : r ≠ 0) : ∀ (n : Nat) (a : Int × Int) (lv : Nat → Option ga_V), gt_O SX6 6 r T σ → lv 0 = some (.inr r) → lv 1 = some (.inl a.1) → lv 2 = some (.inl a.2) → gt_loop (fX6_signs_4 T) n a = some res → ga_G X 0 0 K 4 lv [] σ := by
  intro n
  induction n with
  | zero =>
    intro a lv _ _ _ _ h
    exact absurd (show (none : Option _) = some _ from h) (fun q => by cases q)
  | succ n hk4 =>
    intro a lv hW hl0 hl1 hl2 h
    have h : fX6_signs_4 T (gt_loop (fX6_signs_4 T) n) a = some res := h
    revert hk4 h
    generalize gt_loop (fX6_signs_4 T) n = k4
    intro hk4 h
    unfold fX6_signs_4 at h
    refine ga_iload_n C dX6_signs_4 rfl hl2 ?_
    refine ga_aload_n C dX6_signs_5 rfl hl0 hr0 ?_
    refine gt_geti C (iX6_signs_X6) hW 5 rfl rfl (by decide) kX6_signs_57 dX6_signs_6 ?_
    refine ga_icmp_ge (tgt := 27) C dX6_signs_9 (by decide) (fun c1 => ?_) (fun c1 => ?_)
    · have h := gt_ip h c1
      refine ga_iload_n C dX6_signs_27 rfl hl1 ?_
      cases h
      exact hRet _ _ _ _ dX6_signs_28 rfl rfl
    · have h := gt_in h c1
      obtain ⟨hg, h⟩ := gt_gd h
      obtain ⟨g18_0, g19_1, g21_2⟩ := hg
      refine ga_iload_n C dX6_signs_12 rfl hl1 ?_
      refine ga_aload_n C dX6_signs_13 rfl hl0 hr0 ?_
      refine gt_geta C (iX6_signs_X6) hW 9 rfl rfl (by decide) kX6_signs_20 dX6_signs_14 ?_
      refine ga_iload_n C dX6_signs_17 rfl hl2 ?_
      refine gt_iald C hW 9 rfl g18_0.1 g18_0.2 dX6_signs_18 ?_
      refine ga_iadd C dX6_signs_19 g19_1 ?_
      refine ga_istore_n C dX6_signs_20 rfl (by decide) ?_
      refine ga_iinc C dX6_signs_21 (gt_un (by decide) hl2) g21_2 ?_
      refine ga_goto (tgt := 4) C dX6_signs_24 (by decide) ?_
      exact hk4 (a.1 + (T.2 9 a.2.toNat), a.2 + (1 : Int)) _ hW (gt_un (by decide) (gt_un (by decide) hl0)) (gt_un (by decide) gt_us) gt_us h
set_option maxHeartbeats 4000000 in
theorem gX6_signs_0 {X : ga_X} {D : va_G} {cI cZ : ClassId} {K : Nat} {r : Nat} {res : Int} {T : gt_T} {σ : ga_S} (C : ga_C X cX6_signs yX6_signs wsX6_signs [] (gt_rm 0 0) (D, vwCl, cI, cZ) 3) (hRet : ∀ (pc : Nat) (lv : Nat → Option ga_V) (σ' : ga_S) (z : Int), decode cX6_signs pc = .ok (.ireturn, 1) → z = res → (σ' = σ) → ga_G X 0 0 K pc lv [.inl z] σ') (hr0 : r ≠ 0) {lv : Nat → Option ga_V} (hW : gt_O SX6 6 r T σ) (hl0 : lv 0 = some (.inr r)) (h : fX6_signs T = some res) : ga_G X 0 0 K 0 lv [] σ := by
  unfold fX6_signs at h
  refine ga_iconst C dX6_signs_0 ⟨by decide, by decide⟩ ?_
  refine ga_istore_n C dX6_signs_1 rfl (by decide) ?_
  refine ga_iconst C dX6_signs_2 ⟨by decide, by decide⟩ ?_
  refine ga_istore_n C dX6_signs_3 rfl (by decide) ?_
  exact gX6_signs_4 C hRet hr0 gt_fuel ((0 : Int), (0 : Int)) _ hW (gt_un (by decide) (gt_un (by decide) hl0)) (gt_un (by decide) gt_us) gt_us h
set_option maxHeartbeats 4000000 in
theorem eX6_signs (l : Launch) (D : va_G) (cI cZ : ClassId) (K : Nat) {r : Nat} (hr0 : r ≠ 0) {σ : ga_S} {T : gt_T} (hW : gt_O SX6 6 r T σ) {res : Int} (h : fX6_signs T = some res) : ga_Ev l (D, vwCl, cI, cZ) yX6_signs wsX6_signs (gt_rm 0 0) [] 0 0 K [.inr r] σ (fun σ' rv => (σ' = σ) ∧ rv = some (.inl res)) := by
  refine ga_ofI (by decide +kernel) rfl gt_hcl (Nat.le_of_ble_eq_true rfl) (fun X hX C hret => ?_)
  exact gX6_signs_0 C (fun pc lv σ' z d hz hp => hret pc lv σ' z d ⟨hp, by rw [hz]⟩) hr0 hW rfl h
-- X6_arcOf: arcOf(I)I
def fX6_arcOf_113 (T : gt_T) (l4 : Int) : Option (Int) :=
  some l4
def fX6_arcOf_108 (T : gt_T) (k63 : Int × Int × Int → Option (Int)) (l2 l5 s0 : Int) : Option (Int) :=
  k63 (l2, s0, l5)
def fX6_arcOf_63 (T : gt_T) (k63 : Int × Int × Int → Option (Int)) (a : Int × Int × Int) : Option (Int) :=
  (fX6_placeOf T a.2.2 (0 : Int)).bind (fun (q67 : Int) => (fX6_isUpper q67).bind (fun (q70 : Int) => (if q70 = 0 then fX6_arcOf_113 T a.2.1 else (fX6_next T a.2.2).bind (fun (q79 : Int) => (if q79 = a.1 then fX6_arcOf_113 T a.2.1 else (fX6_next T a.2.2).bind (fun (q89 : Int) => (if a.2.1 ≤ q89 then fX6_arcOf_108 T k63 a.1 q89 a.2.1 else fX6_arcOf_108 T k63 a.1 q89 q89)))))))
def fX6_arcOf_53 (T : gt_T) (k12 : Int × Int × Int → Option (Int)) (l1 l2 s0 : Int) : Option (Int) :=
  k12 (l1, l2, s0)
def fX6_arcOf_52 (T : gt_T) (k12 : Int × Int × Int → Option (Int)) (l1 l2 : Int) : Option (Int) :=
  fX6_arcOf_53 T k12 l1 l2 (0 : Int)
def fX6_arcOf_12 (T : gt_T) (k12 : Int × Int × Int → Option (Int)) (a : Int × Int × Int) : Option (Int) :=
  (if a.2.2 = 0 then gt_loop (fX6_arcOf_63 T) gt_fuel (a.2.1, a.2.1, a.2.1) else (fX6_placeOf T a.2.1 (1 : Int)).bind (fun (q23 : Int) => (fX6_across q23).bind (fun (q26 : Int) => (if (0 ≤ q26 ∧ q26 < 80) then (if (T.2 10 q26.toNat) = a.1 then fX6_arcOf_52 T k12 a.1 (T.2 10 q26.toNat) else (fX6_placeOf T (T.2 10 q26.toNat) (1 : Int)).bind (fun (q39 : Int) => (fX6_isUpper q39).bind (fun (q42 : Int) => (if q42 = 0 then fX6_arcOf_52 T k12 a.1 (T.2 10 q26.toNat) else fX6_arcOf_53 T k12 a.1 (T.2 10 q26.toNat) (1 : Int))))) else none))))
def fX6_arcOf (T : gt_T) (l1 : Int) : Option (Int) :=
  (fX6_placeOf T l1 (1 : Int)).bind (fun (q5 : Int) => (fX6_isUpper q5).bind (fun (q8 : Int) => gt_loop (fX6_arcOf_12 T) gt_fuel (l1, l1, q8)))
theorem iX6_arcOf_X6 : ∀ w ∈ u_ws RX6 TX6 23, w ∈ wsX6_arcOf := by decide +kernel
theorem kX6_arcOf_23 : Cond.fieldLink yX6_arcOf.cls 23 (TX6 10).1 (TX6 10).2.1 (TX6 10).2.2.1 ∈ wsX6_arcOf := by decide +kernel
set_option maxHeartbeats 4000000 in
theorem gX6_arcOf_113 {X : ga_X} {D : va_G} {cI cZ : ClassId} {K : Nat} {r : Nat} {res : Int} {T : gt_T} {σ : ga_S} (C : ga_C X cX6_arcOf yX6_arcOf wsX6_arcOf [] (gt_rm 3 67) (D, vwCl, cI, cZ) 6) (hRet : ∀ (pc : Nat) (lv : Nat → Option ga_V) (σ' : ga_S) (z : Int), decode cX6_arcOf pc = .ok (.ireturn, 1) → z = res → (σ' = σ) → ga_G X 0 0 K pc lv [.inl z] σ') (hr0 : r ≠ 0) {l4 : Int} {lv : Nat → Option ga_V} (hW : gt_O SX6 6 r T σ) (hl4 : lv 4 = some (.inl l4)) (h : fX6_arcOf_113 T l4 = some res) : ga_G X 0 0 K 113 lv [] σ := by
  unfold fX6_arcOf_113 at h
  refine ga_iload C dX6_arcOf_113 hl4 ?_
  cases h
  exact hRet _ _ _ _ dX6_arcOf_115 rfl rfl
set_option maxHeartbeats 4000000 in
theorem gX6_arcOf_108 {X : ga_X} {D : va_G} {cI cZ : ClassId} {K : Nat} {r : Nat} {res : Int} {T : gt_T} {σ : ga_S} {k63 : Int × Int × Int → Option (Int)} (C : ga_C X cX6_arcOf yX6_arcOf wsX6_arcOf [] (gt_rm 3 67) (D, vwCl, cI, cZ) 6) (hRet : ∀ (pc : Nat) (lv : Nat → Option ga_V) (σ' : ga_S) (z : Int), decode cX6_arcOf pc = .ok (.ireturn, 1) → z = res → (σ' = σ) → ga_G X 0 0 K pc lv [.inl z] σ') (hr0 : r ≠ 0) (hk63 : ∀ (a : Int × Int × Int) (lv : Nat → Option ga_V), gt_O SX6 6 r T σ → lv 0 = some (.inr r) → lv 2 = some (.inl a.1) → lv 4 = some (.inl a.2.1) → lv 5 = some (.inl a.2.2) → k63 a = some res → ga_G X 0 0 K 63 lv [] σ) {l2 l5 s0 : Int} {lv : Nat → Option ga_V} (hW : gt_O SX6 6 r T σ) (hl0 : lv 0 = some (.inr r)) (hl2 : lv 2 = some (.inl l2)) (hl5 : lv 5 = some (.inl l5)) (h : fX6_arcOf_108 T k63 l2 l5 s0 = some res) : ga_G X 0 0 K 108 lv [.inl s0] σ := by
  unfold fX6_arcOf_108 at h
  refine ga_istore C dX6_arcOf_108 (by decide) ?_
  refine ga_goto (tgt := 63) C dX6_arcOf_110 (by decide) ?_
  exact hk63 (l2, s0, l5) _ hW (gt_un (by decide) hl0) (gt_un (by decide) hl2) gt_us (gt_un (by decide) hl5) h
set_option maxHeartbeats 4000000 in
theorem gX6_arcOf_63 {X : ga_X} {D : va_G} {cI cZ : ClassId} {K : Nat} {r : Nat} {res : Int} {T : gt_T} {σ : ga_S} (C : ga_C X cX6_arcOf yX6_arcOf wsX6_arcOf [] (gt_rm 3 67) (D, vwCl, cI, cZ) 6) (hRet : ∀ (pc : Nat) (lv : Nat → Option ga_V) (σ' : ga_S) (z : Int), decode cX6_arcOf pc = .ok (.ireturn, 1) → z = res → (σ' = σ) → ga_G X 0 0 K pc lv [.inl z] σ') (hr0 : r ≠ 0) : ∀ (n : Nat) (a : Int × Int × Int) (lv : Nat → Option ga_V), gt_O SX6 6 r T σ → lv 0 = some (.inr r) → lv 2 = some (.inl a.1) → lv 4 = some (.inl a.2.1) → lv 5 = some (.inl a.2.2) → gt_loop (fX6_arcOf_63 T) n a = some res → ga_G X 0 0 K 63 lv [] σ := by
  intro n
  induction n with
  | zero =>
    intro a lv _ _ _ _ _ h
    exact absurd (show (none : Option _) = some _ from h) (fun q => by cases q)
  | succ n hk63 =>
    intro a lv hW hl0 hl2 hl4 hl5 h
    have h : fX6_arcOf_63 T (gt_loop (fX6_arcOf_63 T) n) a = some res := h
    revert hk63 h
    generalize gt_loop (fX6_arcOf_63 T) n = k63
    intro hk63 h
    unfold fX6_arcOf_63 at h
    refine ga_aload_n C dX6_arcOf_63 rfl hl0 hr0 ?_
    refine ga_iload C dX6_arcOf_64 hl5 ?_
    refine ga_iconst C dX6_arcOf_66 ⟨by decide, by decide⟩ ?_
    obtain ⟨q67, hq, h⟩ := Option.bind_eq_some_iff.mp h
    refine gt_cVi (n := 2) (st := []) C (eX6_placeOf X.2.1 D cI cZ K hr0 hW hq) gX6_arcOf_X6_placeOf rfl (by decide +kernel) rfl ⟨Nat.le_of_ble_eq_true rfl, Nat.le_of_ble_eq_true rfl⟩ hW.1 rfl rfl (Nat.le_of_ble_eq_true rfl) rfl dX6_arcOf_67 (fun σ' hp => ?_)
    subst hp
    obtain ⟨q70, hq, h⟩ := Option.bind_eq_some_iff.mp h
    refine gt_cSi (n := 1) (st := []) C (eX6_isUpper X.2.1 D cI cZ K hq) gX6_arcOf_X6_isUpper rfl (by decide +kernel) rfl ⟨Nat.le_of_ble_eq_true rfl, Nat.le_of_ble_eq_true rfl⟩ (Nat.le_of_ble_eq_true rfl) rfl dX6_arcOf_70 (fun σ' hp => ?_)
    subst hp
    refine ga_if_eq (tgt := 113) C dX6_arcOf_73 (by decide) (fun c1 => ?_) (fun c1 => ?_)
    · have h := gt_ip h c1
      exact gX6_arcOf_113 C hRet hr0 hW hl4 h
    · have h := gt_in h c1
      refine ga_aload_n C dX6_arcOf_76 rfl hl0 hr0 ?_
      refine ga_iload C dX6_arcOf_77 hl5 ?_
      obtain ⟨q79, hq, h⟩ := Option.bind_eq_some_iff.mp h
      refine gt_cVi (n := 1) (st := []) C (eX6_next X.2.1 D cI cZ K hr0 hW hq) gX6_arcOf_X6_next rfl (by decide +kernel) rfl ⟨Nat.le_of_ble_eq_true rfl, Nat.le_of_ble_eq_true rfl⟩ hW.1 rfl rfl (Nat.le_of_ble_eq_true rfl) rfl dX6_arcOf_79 (fun σ' hp => ?_)
      subst hp
      refine ga_iload_n C dX6_arcOf_82 rfl hl2 ?_
      refine ga_icmp_eq (tgt := 113) C dX6_arcOf_83 (by decide) (fun c1 => ?_) (fun c1 => ?_)
      · have h := gt_ip h c1
        exact gX6_arcOf_113 C hRet hr0 hW hl4 h
      · have h := gt_in h c1
        refine ga_aload_n C dX6_arcOf_86 rfl hl0 hr0 ?_
        refine ga_iload C dX6_arcOf_87 hl5 ?_
        obtain ⟨q89, hq, h⟩ := Option.bind_eq_some_iff.mp h
        refine gt_cVi (n := 1) (st := []) C (eX6_next X.2.1 D cI cZ K hr0 hW hq) gX6_arcOf_X6_next rfl (by decide +kernel) rfl ⟨Nat.le_of_ble_eq_true rfl, Nat.le_of_ble_eq_true rfl⟩ hW.1 rfl rfl (Nat.le_of_ble_eq_true rfl) rfl dX6_arcOf_89 (fun σ' hp => ?_)
        subst hp
        refine ga_istore C dX6_arcOf_92 (by decide) ?_
        refine ga_iload C dX6_arcOf_94 gt_us ?_
        refine ga_iload C dX6_arcOf_96 (gt_un (by decide) hl4) ?_
        refine ga_icmp_ge (tgt := 106) C dX6_arcOf_98 (by decide) (fun c1 => ?_) (fun c1 => ?_)
        · have h := gt_ip h c1
          refine ga_iload C dX6_arcOf_106 (gt_un (by decide) hl4) ?_
          exact gX6_arcOf_108 C hRet hr0 hk63 hW (gt_un (by decide) hl0) (gt_un (by decide) hl2) gt_us h
        · have h := gt_in h c1
          refine ga_iload C dX6_arcOf_101 gt_us ?_
          refine ga_goto (tgt := 108) C dX6_arcOf_103 (by decide) ?_
          exact gX6_arcOf_108 C hRet hr0 hk63 hW (gt_un (by decide) hl0) (gt_un (by decide) hl2) gt_us h
set_option maxHeartbeats 4000000 in
theorem gX6_arcOf_53 {X : ga_X} {D : va_G} {cI cZ : ClassId} {K : Nat} {r : Nat} {res : Int} {T : gt_T} {σ : ga_S} {k12 : Int × Int × Int → Option (Int)} (C : ga_C X cX6_arcOf yX6_arcOf wsX6_arcOf [] (gt_rm 3 67) (D, vwCl, cI, cZ) 6) (hRet : ∀ (pc : Nat) (lv : Nat → Option ga_V) (σ' : ga_S) (z : Int), decode cX6_arcOf pc = .ok (.ireturn, 1) → z = res → (σ' = σ) → ga_G X 0 0 K pc lv [.inl z] σ') (hr0 : r ≠ 0) (hk12 : ∀ (a : Int × Int × Int) (lv : Nat → Option ga_V), gt_O SX6 6 r T σ → lv 0 = some (.inr r) → lv 1 = some (.inl a.1) → lv 2 = some (.inl a.2.1) → lv 3 = some (.inl a.2.2) → k12 a = some res → ga_G X 0 0 K 12 lv [] σ) {l1 l2 s0 : Int} {lv : Nat → Option ga_V} (hW : gt_O SX6 6 r T σ) (hl0 : lv 0 = some (.inr r)) (hl1 : lv 1 = some (.inl l1)) (hl2 : lv 2 = some (.inl l2)) (h : fX6_arcOf_53 T k12 l1 l2 s0 = some res) : ga_G X 0 0 K 53 lv [.inl s0] σ := by
  unfold fX6_arcOf_53 at h
  refine ga_istore_n C dX6_arcOf_53 rfl (by decide) ?_
  refine ga_goto (tgt := 12) C dX6_arcOf_54 (by decide) ?_
  exact hk12 (l1, l2, s0) _ hW (gt_un (by decide) hl0) (gt_un (by decide) hl1) (gt_un (by decide) hl2) gt_us h
set_option maxHeartbeats 4000000 in
theorem gX6_arcOf_52 {X : ga_X} {D : va_G} {cI cZ : ClassId} {K : Nat} {r : Nat} {res : Int} {T : gt_T} {σ : ga_S} {k12 : Int × Int × Int → Option (Int)} (C : ga_C X cX6_arcOf yX6_arcOf wsX6_arcOf [] (gt_rm 3 67) (D, vwCl, cI, cZ) 6) (hRet : ∀ (pc : Nat) (lv : Nat → Option ga_V) (σ' : ga_S) (z : Int), decode cX6_arcOf pc = .ok (.ireturn, 1) → z = res → (σ' = σ) → ga_G X 0 0 K pc lv [.inl z] σ') (hr0 : r ≠ 0) (hk12 : ∀ (a : Int × Int × Int) (lv : Nat → Option ga_V), gt_O SX6 6 r T σ → lv 0 = some (.inr r) → lv 1 = some (.inl a.1) → lv 2 = some (.inl a.2.1) → lv 3 = some (.inl a.2.2) → k12 a = some res → ga_G X 0 0 K 12 lv [] σ) {l1 l2 : Int} {lv : Nat → Option ga_V} (hW : gt_O SX6 6 r T σ) (hl0 : lv 0 = some (.inr r)) (hl1 : lv 1 = some (.inl l1)) (hl2 : lv 2 = some (.inl l2)) (h : fX6_arcOf_52 T k12 l1 l2 = some res) : ga_G X 0 0 K 52 lv [] σ := by
  unfold fX6_arcOf_52 at h
  refine ga_iconst C dX6_arcOf_52 ⟨by decide, by decide⟩ ?_
  exact gX6_arcOf_53 C hRet hr0 hk12 hW hl0 hl1 hl2 h
set_option maxHeartbeats 4000000 in
theorem gX6_arcOf_12 {X : ga_X} {D : va_G} {cI cZ : ClassId} {K : Nat} {r : Nat} {res : Int} {T : gt_T} {σ : ga_S} (C : ga_C X cX6_arcOf yX6_arcOf wsX6_arcOf [] (gt_rm 3 67) (D, vwCl, cI, cZ) 6) (hRet : ∀ (pc : Nat) (lv : Nat → Option ga_V) (σ' : ga_S) (z : Int), decode cX6_arcOf pc = .ok (.ireturn, 1) → z = res → (σ' = σ) → ga_G X 0 0 K pc lv [.inl z] σ') (hr0 : r ≠ 0) : ∀ (n : Nat) (a : Int × Int × Int) (lv : Nat → Option ga_V), gt_O SX6 6 r T σ → lv 0 = some (.inr r) → lv 1 = some (.inl a.1) → lv 2 = some (.inl a.2.1) → lv 3 = some (.inl a.2.2) → gt_loop (fX6_arcOf_12 T) n a = some res → ga_G X 0 0 K 12 lv [] σ := by
  intro n
  induction n with
  | zero =>
    intro a lv _ _ _ _ _ h
    exact absurd (show (none : Option _) = some _ from h) (fun q => by cases q)
  | succ n hk12 =>
    intro a lv hW hl0 hl1 hl2 hl3 h
    have h : fX6_arcOf_12 T (gt_loop (fX6_arcOf_12 T) n) a = some res := h
    revert hk12 h
    generalize gt_loop (fX6_arcOf_12 T) n = k12
    intro hk12 h
    unfold fX6_arcOf_12 at h
    refine ga_iload_n C dX6_arcOf_12 rfl hl3 ?_
    refine ga_if_eq (tgt := 57) C dX6_arcOf_13 (by decide) (fun c1 => ?_) (fun c1 => ?_)
    · have h := gt_ip h c1
      refine ga_iload_n C dX6_arcOf_57 rfl hl2 ?_
      refine ga_istore C dX6_arcOf_58 (by decide) ?_
      refine ga_iload_n C dX6_arcOf_60 rfl (gt_un (by decide) hl2) ?_
      refine ga_istore C dX6_arcOf_61 (by decide) ?_
      exact gX6_arcOf_63 C hRet hr0 gt_fuel (a.2.1, a.2.1, a.2.1) _ hW (gt_un (by decide) (gt_un (by decide) hl0)) (gt_un (by decide) (gt_un (by decide) hl2)) (gt_un (by decide) gt_us) gt_us h
    · have h := gt_in h c1
      refine ga_aload_n C dX6_arcOf_16 rfl hl0 hr0 ?_
      refine gt_geta C (iX6_arcOf_X6) hW 10 rfl rfl (by decide) kX6_arcOf_23 dX6_arcOf_17 ?_
      refine ga_aload_n C dX6_arcOf_20 rfl hl0 hr0 ?_
      refine ga_iload_n C dX6_arcOf_21 rfl hl2 ?_
      refine ga_iconst C dX6_arcOf_22 ⟨by decide, by decide⟩ ?_
      obtain ⟨q23, hq, h⟩ := Option.bind_eq_some_iff.mp h
      refine gt_cVi (n := 2) (st := [.inr (r + 4)]) C (eX6_placeOf X.2.1 D cI cZ K hr0 hW hq) gX6_arcOf_X6_placeOf rfl (by decide +kernel) rfl ⟨Nat.le_of_ble_eq_true rfl, Nat.le_of_ble_eq_true rfl⟩ hW.1 rfl rfl (Nat.le_of_ble_eq_true rfl) rfl dX6_arcOf_23 (fun σ' hp => ?_)
      subst hp
      obtain ⟨q26, hq, h⟩ := Option.bind_eq_some_iff.mp h
      refine gt_cSi (n := 1) (st := [.inr (r + 4)]) C (eX6_across X.2.1 D cI cZ K hq) gX6_arcOf_X6_across rfl (by decide +kernel) rfl ⟨Nat.le_of_ble_eq_true rfl, Nat.le_of_ble_eq_true rfl⟩ (Nat.le_of_ble_eq_true rfl) rfl dX6_arcOf_26 (fun σ' hp => ?_)
      subst hp
      obtain ⟨hg, h⟩ := gt_gd h
      have g29_0 := hg
      refine gt_iald C hW 10 rfl g29_0.1 g29_0.2 dX6_arcOf_29 ?_
      refine ga_istore_n C dX6_arcOf_30 rfl (by decide) ?_
      refine ga_iload_n C dX6_arcOf_31 rfl gt_us ?_
      refine ga_iload_n C dX6_arcOf_32 rfl (gt_un (by decide) hl1) ?_
      refine ga_icmp_eq (tgt := 52) C dX6_arcOf_33 (by decide) (fun c1 => ?_) (fun c1 => ?_)
      · have h := gt_ip h c1
        exact gX6_arcOf_52 C hRet hr0 hk12 hW (gt_un (by decide) hl0) (gt_un (by decide) hl1) gt_us h
      · have h := gt_in h c1
        refine ga_aload_n C dX6_arcOf_36 rfl (gt_un (by decide) hl0) hr0 ?_
        refine ga_iload_n C dX6_arcOf_37 rfl gt_us ?_
        refine ga_iconst C dX6_arcOf_38 ⟨by decide, by decide⟩ ?_
        obtain ⟨q39, hq, h⟩ := Option.bind_eq_some_iff.mp h
        refine gt_cVi (n := 2) (st := []) C (eX6_placeOf X.2.1 D cI cZ K hr0 hW hq) gX6_arcOf_X6_placeOf rfl (by decide +kernel) rfl ⟨Nat.le_of_ble_eq_true rfl, Nat.le_of_ble_eq_true rfl⟩ hW.1 rfl rfl (Nat.le_of_ble_eq_true rfl) rfl dX6_arcOf_39 (fun σ' hp => ?_)
        subst hp
        obtain ⟨q42, hq, h⟩ := Option.bind_eq_some_iff.mp h
        refine gt_cSi (n := 1) (st := []) C (eX6_isUpper X.2.1 D cI cZ K hq) gX6_arcOf_X6_isUpper rfl (by decide +kernel) rfl ⟨Nat.le_of_ble_eq_true rfl, Nat.le_of_ble_eq_true rfl⟩ (Nat.le_of_ble_eq_true rfl) rfl dX6_arcOf_42 (fun σ' hp => ?_)
        subst hp
        refine ga_if_eq (tgt := 52) C dX6_arcOf_45 (by decide) (fun c1 => ?_) (fun c1 => ?_)
        · have h := gt_ip h c1
          exact gX6_arcOf_52 C hRet hr0 hk12 hW (gt_un (by decide) hl0) (gt_un (by decide) hl1) gt_us h
        · have h := gt_in h c1
          refine ga_iconst C dX6_arcOf_48 ⟨by decide, by decide⟩ ?_
          refine ga_goto (tgt := 53) C dX6_arcOf_49 (by decide) ?_
          exact gX6_arcOf_53 C hRet hr0 hk12 hW (gt_un (by decide) hl0) (gt_un (by decide) hl1) gt_us h
set_option maxHeartbeats 4000000 in
theorem gX6_arcOf_0 {X : ga_X} {D : va_G} {cI cZ : ClassId} {K : Nat} {r : Nat} {res : Int} {T : gt_T} {σ : ga_S} (C : ga_C X cX6_arcOf yX6_arcOf wsX6_arcOf [] (gt_rm 3 67) (D, vwCl, cI, cZ) 6) (hRet : ∀ (pc : Nat) (lv : Nat → Option ga_V) (σ' : ga_S) (z : Int), decode cX6_arcOf pc = .ok (.ireturn, 1) → z = res → (σ' = σ) → ga_G X 0 0 K pc lv [.inl z] σ') (hr0 : r ≠ 0) {l1 : Int} {lv : Nat → Option ga_V} (hW : gt_O SX6 6 r T σ) (hl0 : lv 0 = some (.inr r)) (hl1 : lv 1 = some (.inl l1)) (h : fX6_arcOf T l1 = some res) : ga_G X 0 0 K 0 lv [] σ := by
  unfold fX6_arcOf at h
  refine ga_iload_n C dX6_arcOf_0 rfl hl1 ?_
  refine ga_istore_n C dX6_arcOf_1 rfl (by decide) ?_
  refine ga_aload_n C dX6_arcOf_2 rfl (gt_un (by decide) hl0) hr0 ?_
  refine ga_iload_n C dX6_arcOf_3 rfl gt_us ?_
  refine ga_iconst C dX6_arcOf_4 ⟨by decide, by decide⟩ ?_
  obtain ⟨q5, hq, h⟩ := Option.bind_eq_some_iff.mp h
  refine gt_cVi (n := 2) (st := []) C (eX6_placeOf X.2.1 D cI cZ K hr0 hW hq) gX6_arcOf_X6_placeOf rfl (by decide +kernel) rfl ⟨Nat.le_of_ble_eq_true rfl, Nat.le_of_ble_eq_true rfl⟩ hW.1 rfl rfl (Nat.le_of_ble_eq_true rfl) rfl dX6_arcOf_5 (fun σ' hp => ?_)
  subst hp
  obtain ⟨q8, hq, h⟩ := Option.bind_eq_some_iff.mp h
  refine gt_cSi (n := 1) (st := []) C (eX6_isUpper X.2.1 D cI cZ K hq) gX6_arcOf_X6_isUpper rfl (by decide +kernel) rfl ⟨Nat.le_of_ble_eq_true rfl, Nat.le_of_ble_eq_true rfl⟩ (Nat.le_of_ble_eq_true rfl) rfl dX6_arcOf_8 (fun σ' hp => ?_)
  subst hp
  refine ga_istore_n C dX6_arcOf_11 rfl (by decide) ?_
  exact gX6_arcOf_12 C hRet hr0 gt_fuel (l1, l1, q8) _ hW (gt_un (by decide) (gt_un (by decide) hl0)) (gt_un (by decide) (gt_un (by decide) hl1)) (gt_un (by decide) gt_us) gt_us h
set_option maxHeartbeats 4000000 in
theorem eX6_arcOf (l : Launch) (D : va_G) (cI cZ : ClassId) (K : Nat) {r : Nat} (hr0 : r ≠ 0) {σ : ga_S} {T : gt_T} (hW : gt_O SX6 6 r T σ) {l1 : Int} {res : Int} (h : fX6_arcOf T l1 = some res) : ga_Ev l (D, vwCl, cI, cZ) yX6_arcOf wsX6_arcOf (gt_rm 3 67) [] 0 0 K [.inr r, .inl l1] σ (fun σ' rv => (σ' = σ) ∧ rv = some (.inl res)) := by
  refine ga_ofI (by decide +kernel) rfl gt_hcl (Nat.le_of_ble_eq_true rfl) (fun X hX C hret => ?_)
  exact gX6_arcOf_0 C (fun pc lv σ' z d hz hp => hret pc lv σ' z d ⟨hp, by rw [hz]⟩) hr0 hW rfl rfl h
-- X6_arcs: arcs()I
def fX6_arcs_44 (k11 : gt_T × Int × Int → Option (gt_T × Int)) (T : gt_T) (l2 s0 s1 : Int) : Option (gt_T × Int) :=
  (if (-2147483648 ≤ s0 + s1 ∧ s0 + s1 < 2147483648) ∧ (-2147483648 ≤ l2 + (1 : Int) ∧ l2 + (1 : Int) < 2147483648) then k11 (T, s0 + s1, l2 + (1 : Int)) else none)
def fX6_arcs_11 (k11 : gt_T × Int × Int → Option (gt_T × Int)) (a : gt_T × Int × Int) : Option (gt_T × Int) :=
  (if (a.1.1 13) ≤ a.2.2 then some (a.1, a.2.1) else (if (0 ≤ a.2.2 ∧ a.2.2 < 80) then (fX6_arcOf a.1 (a.1.2 14 a.2.2.toNat)).bind (fun (q27 : Int) => (if (0 ≤ a.2.2 ∧ a.2.2 < 80) then (if q27 = (a.1.2 14 a.2.2.toNat) then fX6_arcs_44 k11 a.1 a.2.2 a.2.1 (1 : Int) else fX6_arcs_44 k11 a.1 a.2.2 a.2.1 (0 : Int)) else none)) else none))
def fX6_arcs (T : gt_T) : Option (gt_T × Int) :=
  (fX6_sort T).bind (fun (q6 : gt_T) => gt_loop (fX6_arcs_11) gt_fuel (q6, T.1 6, (0 : Int)))
theorem iX6_arcs_X6 : ∀ w ∈ u_ws RX6 TX6 23, w ∈ wsX6_arcs := by decide +kernel
theorem kX6_arcs_32 : Cond.fieldLink yX6_arcs.cls 32 (TX6 14).1 (TX6 14).2.1 (TX6 14).2.2.1 ∈ wsX6_arcs := by decide +kernel
theorem kX6_arcs_72 : Cond.fieldLink yX6_arcs.cls 72 (TX6 13).1 (TX6 13).2.1 (TX6 13).2.2.1 ∈ wsX6_arcs := by decide +kernel
theorem kX6_arcs_105 : Cond.fieldLink yX6_arcs.cls 105 (TX6 6).1 (TX6 6).2.1 (TX6 6).2.2.1 ∈ wsX6_arcs := by decide +kernel
set_option maxHeartbeats 4000000 in
theorem gX6_arcs_44 {X : ga_X} {D : va_G} {cI cZ : ClassId} {K : Nat} {r : Nat} {σ0 : ga_S} {res : gt_T × Int} {k11 : gt_T × Int × Int → Option (gt_T × Int)} (C : ga_C X cX6_arcs yX6_arcs wsX6_arcs [] (gt_rm 4 92) (D, vwCl, cI, cZ) 3) (hRet : ∀ (pc : Nat) (lv : Nat → Option ga_V) (σ' : ga_S) (z : Int), decode cX6_arcs pc = .ok (.ireturn, 1) → z = res.2 → (gt_O SX6 6 r res.1 σ' ∧ gt_F r (r + 14) σ0 σ') → ga_G X 0 0 K pc lv [.inl z] σ') (hr0 : r ≠ 0) (hk11 : ∀ (a : gt_T × Int × Int) (σ : ga_S) (lv : Nat → Option ga_V), gt_O SX6 6 r a.1 σ → gt_F r (r + 14) σ0 σ → lv 0 = some (.inr r) → lv 1 = some (.inl a.2.1) → lv 2 = some (.inl a.2.2) → k11 a = some res → ga_G X 0 0 K 11 lv [] σ) {T : gt_T} {σ : ga_S} {l2 s0 s1 : Int} {lv : Nat → Option ga_V} (hW : gt_O SX6 6 r T σ) (hF : gt_F r (r + 14) σ0 σ) (hl0 : lv 0 = some (.inr r)) (hl2 : lv 2 = some (.inl l2)) (h : fX6_arcs_44 k11 T l2 s0 s1 = some res) : ga_G X 0 0 K 44 lv [.inl s1, .inl s0] σ := by
  unfold fX6_arcs_44 at h
  obtain ⟨hg, h⟩ := gt_gd h
  obtain ⟨g44_0, g46_1⟩ := hg
  refine ga_iadd C dX6_arcs_44 g44_0 ?_
  refine ga_istore_n C dX6_arcs_45 rfl (by decide) ?_
  refine ga_iinc C dX6_arcs_46 (gt_un (by decide) hl2) g46_1 ?_
  refine ga_goto (tgt := 11) C dX6_arcs_49 (by decide) ?_
  exact hk11 (T, s0 + s1, l2 + (1 : Int)) _ _ hW hF (gt_un (by decide) (gt_un (by decide) hl0)) (gt_un (by decide) gt_us) gt_us h
set_option maxHeartbeats 4000000 in
theorem gX6_arcs_11 {X : ga_X} {D : va_G} {cI cZ : ClassId} {K : Nat} {r : Nat} {σ0 : ga_S} {res : gt_T × Int} (C : ga_C X cX6_arcs yX6_arcs wsX6_arcs [] (gt_rm 4 92) (D, vwCl, cI, cZ) 3) (hRet : ∀ (pc : Nat) (lv : Nat → Option ga_V) (σ' : ga_S) (z : Int), decode cX6_arcs pc = .ok (.ireturn, 1) → z = res.2 → (gt_O SX6 6 r res.1 σ' ∧ gt_F r (r + 14) σ0 σ') → ga_G X 0 0 K pc lv [.inl z] σ') (hr0 : r ≠ 0) : ∀ (n : Nat) (a : gt_T × Int × Int) (σ : ga_S) (lv : Nat → Option ga_V), gt_O SX6 6 r a.1 σ → gt_F r (r + 14) σ0 σ → lv 0 = some (.inr r) → lv 1 = some (.inl a.2.1) → lv 2 = some (.inl a.2.2) → gt_loop (fX6_arcs_11) n a = some res → ga_G X 0 0 K 11 lv [] σ := by
  intro n
  induction n with
  | zero =>
    intro a _ lv _ _ _ _ _ h
    exact absurd (show (none : Option _) = some _ from h) (fun q => by cases q)
  | succ n hk11 =>
    intro a σ lv hW hF hl0 hl1 hl2 h
    have h : fX6_arcs_11 (gt_loop (fX6_arcs_11) n) a = some res := h
    revert hk11 h
    generalize gt_loop (fX6_arcs_11) n = k11
    intro hk11 h
    unfold fX6_arcs_11 at h
    refine ga_iload_n C dX6_arcs_11 rfl hl2 ?_
    refine ga_aload_n C dX6_arcs_12 rfl hl0 hr0 ?_
    refine gt_geti C (iX6_arcs_X6) hW 13 rfl rfl (by decide) kX6_arcs_72 dX6_arcs_13 ?_
    refine ga_icmp_ge (tgt := 52) C dX6_arcs_16 (by decide) (fun c1 => ?_) (fun c1 => ?_)
    · have h := gt_ip h c1
      refine ga_iload_n C dX6_arcs_52 rfl hl1 ?_
      cases h
      exact hRet _ _ _ _ dX6_arcs_53 rfl ⟨hW, hF⟩
    · have h := gt_in h c1
      obtain ⟨hg, h⟩ := gt_gd h
      have g26_0 := hg
      refine ga_iload_n C dX6_arcs_19 rfl hl1 ?_
      refine ga_aload_n C dX6_arcs_20 rfl hl0 hr0 ?_
      refine ga_aload_n C dX6_arcs_21 rfl hl0 hr0 ?_
      refine gt_geta C (iX6_arcs_X6) hW 14 rfl rfl (by decide) kX6_arcs_32 dX6_arcs_22 ?_
      refine ga_iload_n C dX6_arcs_25 rfl hl2 ?_
      refine gt_iald C hW 14 rfl g26_0.1 g26_0.2 dX6_arcs_26 ?_
      obtain ⟨q27, hq, h⟩ := Option.bind_eq_some_iff.mp h
      refine gt_cVi (n := 1) (st := [.inl a.2.1]) C (eX6_arcOf X.2.1 D cI cZ K hr0 hW hq) gX6_arcs_X6_arcOf rfl (by decide +kernel) rfl ⟨Nat.le_of_ble_eq_true rfl, Nat.le_of_ble_eq_true rfl⟩ hW.1 rfl rfl (Nat.le_of_ble_eq_true rfl) rfl dX6_arcs_27 (fun σ' hp => ?_)
      subst hp
      obtain ⟨hg, h⟩ := gt_gd h
      have g35_0 := hg
      refine ga_aload_n C dX6_arcs_30 rfl hl0 hr0 ?_
      refine gt_geta C (iX6_arcs_X6) hW 14 rfl rfl (by decide) kX6_arcs_32 dX6_arcs_31 ?_
      refine ga_iload_n C dX6_arcs_34 rfl hl2 ?_
      refine gt_iald C hW 14 rfl g35_0.1 g35_0.2 dX6_arcs_35 ?_
      refine ga_icmp_ne (tgt := 43) C dX6_arcs_36 (by decide) (fun c1 => ?_) (fun c1 => ?_)
      · have h := gt_in h c1
        refine ga_iconst C dX6_arcs_43 ⟨by decide, by decide⟩ ?_
        exact gX6_arcs_44 C hRet hr0 hk11 hW hF hl0 hl2 h
      · have h := gt_ip h c1
        refine ga_iconst C dX6_arcs_39 ⟨by decide, by decide⟩ ?_
        refine ga_goto (tgt := 44) C dX6_arcs_40 (by decide) ?_
        exact gX6_arcs_44 C hRet hr0 hk11 hW hF hl0 hl2 h
set_option maxHeartbeats 4000000 in
theorem gX6_arcs_0 {X : ga_X} {D : va_G} {cI cZ : ClassId} {K : Nat} {r : Nat} {σ0 : ga_S} {res : gt_T × Int} (C : ga_C X cX6_arcs yX6_arcs wsX6_arcs [] (gt_rm 4 92) (D, vwCl, cI, cZ) 3) (hRet : ∀ (pc : Nat) (lv : Nat → Option ga_V) (σ' : ga_S) (z : Int), decode cX6_arcs pc = .ok (.ireturn, 1) → z = res.2 → (gt_O SX6 6 r res.1 σ' ∧ gt_F r (r + 14) σ0 σ') → ga_G X 0 0 K pc lv [.inl z] σ') (hr0 : r ≠ 0) {T : gt_T} {σ : ga_S} {lv : Nat → Option ga_V} (hW : gt_O SX6 6 r T σ) (hF : gt_F r (r + 14) σ0 σ) (hl0 : lv 0 = some (.inr r)) (h : fX6_arcs T = some res) : ga_G X 0 0 K 0 lv [] σ := by
  unfold fX6_arcs at h
  refine ga_aload_n C dX6_arcs_0 rfl hl0 hr0 ?_
  refine gt_geti C (iX6_arcs_X6) hW 6 rfl rfl (by decide) kX6_arcs_105 dX6_arcs_1 ?_
  refine ga_istore_n C dX6_arcs_4 rfl (by decide) ?_
  refine ga_aload_n C dX6_arcs_5 rfl (gt_un (by decide) hl0) hr0 ?_
  obtain ⟨q6, hq, h⟩ := Option.bind_eq_some_iff.mp h
  refine gt_cVv (n := 0) (st := []) C (eX6_sort X.2.1 D cI cZ K hr0 hW hq) gX6_arcs_X6_sort rfl (by decide +kernel) rfl ⟨Nat.le_of_ble_eq_true rfl, Nat.le_of_ble_eq_true rfl⟩ hW.1 rfl rfl (Nat.le_of_ble_eq_true rfl) rfl dX6_arcs_6 (fun σ' hp => ?_)
  obtain ⟨hw, hf⟩ := hp
  have hF := hF.tr hf (Nat.le_refl _) (Nat.le_refl _)
  have hW := hw
  clear hf
  refine ga_iconst C dX6_arcs_9 ⟨by decide, by decide⟩ ?_
  refine ga_istore_n C dX6_arcs_10 rfl (by decide) ?_
  exact gX6_arcs_11 C hRet hr0 gt_fuel (q6, T.1 6, (0 : Int)) _ _ hW hF (gt_un (by decide) (gt_un (by decide) hl0)) (gt_un (by decide) gt_us) gt_us h
set_option maxHeartbeats 4000000 in
theorem eX6_arcs (l : Launch) (D : va_G) (cI cZ : ClassId) (K : Nat) {r : Nat} (hr0 : r ≠ 0) {σ : ga_S} {T : gt_T} (hW : gt_O SX6 6 r T σ) {res : gt_T × Int} (h : fX6_arcs T = some res) : ga_Ev l (D, vwCl, cI, cZ) yX6_arcs wsX6_arcs (gt_rm 4 92) [] 0 0 K [.inr r] σ (fun σ' rv => (gt_O SX6 6 r res.1 σ' ∧ gt_F r (r + 14) σ σ') ∧ rv = some (.inl res.2)) := by
  refine ga_ofI (by decide +kernel) rfl gt_hcl (Nat.le_of_ble_eq_true rfl) (fun X hX C hret => ?_)
  exact gX6_arcs_0 C (fun pc lv σ' z d hz hp => hret pc lv σ' z d ⟨hp, by rw [hz]⟩) hr0 hW gt_F.rf rfl h
-- X6_seifertNext: seifertNext(I)I
def fX6_seifertNext_38 (T : gt_T) (s0 s1 : Int) : Option (Int) :=
  (if (-2147483648 ≤ s0 + s1 ∧ s0 + s1 < 2147483648) ∧ (0 ≤ (s0 + s1) ∧ (s0 + s1) < 80) then some (T.2 10 (s0 + s1).toNat) else none)
def fX6_seifertNext (T : gt_T) (l1 : Int) : Option (Int) :=
  (fX6_placeOf T l1 (0 : Int)).bind (fun (q3 : Int) => (if (-2147483648 ≤ (4 : Int) * (Int.tdiv q3 (4 : Int)) ∧ (4 : Int) * (Int.tdiv q3 (4 : Int)) < 2147483648) then (fX6_isUpper q3).bind (fun (q19 : Int) => (if q19 = 0 then (fX6_upperIn T (Int.tdiv q3 (4 : Int))).bind (fun (q31 : Int) => (if (-2147483648 ≤ q31 + (2 : Int) ∧ q31 + (2 : Int) < 2147483648) ∧ 0 ≤ (q31 + (2 : Int)) then fX6_seifertNext_38 T ((4 : Int) * (Int.tdiv q3 (4 : Int))) ((q31 + (2 : Int)) % (4 : Int)) else none)) else fX6_seifertNext_38 T ((4 : Int) * (Int.tdiv q3 (4 : Int))) (2 : Int))) else none))
theorem iX6_seifertNext_X6 : ∀ w ∈ u_ws RX6 TX6 23, w ∈ wsX6_seifertNext := by decide +kernel
theorem kX6_seifertNext_23 : Cond.fieldLink yX6_seifertNext.cls 23 (TX6 10).1 (TX6 10).2.1 (TX6 10).2.2.1 ∈ wsX6_seifertNext := by decide +kernel
set_option maxHeartbeats 4000000 in
theorem gX6_seifertNext_38 {X : ga_X} {D : va_G} {cI cZ : ClassId} {K : Nat} {r : Nat} {res : Int} {T : gt_T} {σ : ga_S} (C : ga_C X cX6_seifertNext yX6_seifertNext wsX6_seifertNext [] (gt_rm 2 46) (D, vwCl, cI, cZ) 4) (hRet : ∀ (pc : Nat) (lv : Nat → Option ga_V) (σ' : ga_S) (z : Int), decode cX6_seifertNext pc = .ok (.ireturn, 1) → z = res → (σ' = σ) → ga_G X 0 0 K pc lv [.inl z] σ') (hr0 : r ≠ 0) {s0 s1 : Int} {lv : Nat → Option ga_V} (hW : gt_O SX6 6 r T σ) (h : fX6_seifertNext_38 T s0 s1 = some res) : ga_G X 0 0 K 38 lv [.inl s1, .inl s0, .inr (r + 4)] σ := by
  unfold fX6_seifertNext_38 at h
  obtain ⟨hg, h⟩ := gt_gd h
  obtain ⟨g38_0, g39_1⟩ := hg
  refine ga_iadd C dX6_seifertNext_38 g38_0 ?_
  refine gt_iald C hW 10 rfl g39_1.1 g39_1.2 dX6_seifertNext_39 ?_
  cases h
  exact hRet _ _ _ _ dX6_seifertNext_40 rfl rfl
set_option maxHeartbeats 4000000 in
theorem gX6_seifertNext_0 {X : ga_X} {D : va_G} {cI cZ : ClassId} {K : Nat} {r : Nat} {res : Int} {T : gt_T} {σ : ga_S} (C : ga_C X cX6_seifertNext yX6_seifertNext wsX6_seifertNext [] (gt_rm 2 46) (D, vwCl, cI, cZ) 4) (hRet : ∀ (pc : Nat) (lv : Nat → Option ga_V) (σ' : ga_S) (z : Int), decode cX6_seifertNext pc = .ok (.ireturn, 1) → z = res → (σ' = σ) → ga_G X 0 0 K pc lv [.inl z] σ') (hr0 : r ≠ 0) {l1 : Int} {lv : Nat → Option ga_V} (hW : gt_O SX6 6 r T σ) (hl0 : lv 0 = some (.inr r)) (hl1 : lv 1 = some (.inl l1)) (h : fX6_seifertNext T l1 = some res) : ga_G X 0 0 K 0 lv [] σ := by
  unfold fX6_seifertNext at h
  refine ga_aload_n C dX6_seifertNext_0 rfl hl0 hr0 ?_
  refine ga_iload_n C dX6_seifertNext_1 rfl hl1 ?_
  refine ga_iconst C dX6_seifertNext_2 ⟨by decide, by decide⟩ ?_
  obtain ⟨q3, hq, h⟩ := Option.bind_eq_some_iff.mp h
  refine gt_cVi (n := 2) (st := []) C (eX6_placeOf X.2.1 D cI cZ K hr0 hW hq) gX6_seifertNext_X6_placeOf rfl (by decide +kernel) rfl ⟨Nat.le_of_ble_eq_true rfl, Nat.le_of_ble_eq_true rfl⟩ hW.1 rfl rfl (Nat.le_of_ble_eq_true rfl) rfl dX6_seifertNext_3 (fun σ' hp => ?_)
  subst hp
  obtain ⟨hg, h⟩ := gt_gd h
  have g17_0 := hg
  refine ga_istore_n C dX6_seifertNext_6 rfl (by decide) ?_
  refine ga_iload_n C dX6_seifertNext_7 rfl gt_us ?_
  refine ga_iconst C dX6_seifertNext_8 ⟨by decide, by decide⟩ ?_
  refine ga_idiv C dX6_seifertNext_9 (by decide) ?_
  refine ga_istore_n C dX6_seifertNext_10 rfl (by decide) ?_
  refine ga_aload_n C dX6_seifertNext_11 rfl (gt_un (by decide) (gt_un (by decide) hl0)) hr0 ?_
  refine gt_geta C (iX6_seifertNext_X6) hW 10 rfl rfl (by decide) kX6_seifertNext_23 dX6_seifertNext_12 ?_
  refine ga_iconst C dX6_seifertNext_15 ⟨by decide, by decide⟩ ?_
  refine ga_iload_n C dX6_seifertNext_16 rfl gt_us ?_
  refine ga_imul C dX6_seifertNext_17 g17_0 ?_
  refine ga_iload_n C dX6_seifertNext_18 rfl (gt_un (by decide) gt_us) ?_
  obtain ⟨q19, hq, h⟩ := Option.bind_eq_some_iff.mp h
  refine gt_cSi (n := 1) (st := [.inl ((4 : Int) * (Int.tdiv q3 (4 : Int))), .inr (r + 4)]) C (eX6_isUpper X.2.1 D cI cZ K hq) gX6_seifertNext_X6_isUpper rfl (by decide +kernel) rfl ⟨Nat.le_of_ble_eq_true rfl, Nat.le_of_ble_eq_true rfl⟩ (Nat.le_of_ble_eq_true rfl) rfl dX6_seifertNext_19 (fun σ' hp => ?_)
  subst hp
  refine ga_if_eq (tgt := 29) C dX6_seifertNext_22 (by decide) (fun c1 => ?_) (fun c1 => ?_)
  · have h := gt_ip h c1
    refine ga_aload_n C dX6_seifertNext_29 rfl (gt_un (by decide) (gt_un (by decide) hl0)) hr0 ?_
    refine ga_iload_n C dX6_seifertNext_30 rfl gt_us ?_
    obtain ⟨q31, hq, h⟩ := Option.bind_eq_some_iff.mp h
    refine gt_cVi (n := 1) (st := [.inl ((4 : Int) * (Int.tdiv q3 (4 : Int))), .inr (r + 4)]) C (eX6_upperIn X.2.1 D cI cZ K hr0 hW hq) gX6_seifertNext_X6_upperIn rfl (by decide +kernel) rfl ⟨Nat.le_of_ble_eq_true rfl, Nat.le_of_ble_eq_true rfl⟩ hW.1 rfl rfl (Nat.le_of_ble_eq_true rfl) rfl dX6_seifertNext_31 (fun σ' hp => ?_)
    subst hp
    obtain ⟨hg, h⟩ := gt_gd h
    obtain ⟨g35_0, g37_1⟩ := hg
    refine ga_iconst C dX6_seifertNext_34 ⟨by decide, by decide⟩ ?_
    refine ga_iadd C dX6_seifertNext_35 g35_0 ?_
    refine ga_iconst C dX6_seifertNext_36 ⟨by decide, by decide⟩ ?_
    refine ga_irem C dX6_seifertNext_37 (by decide) g37_1 ?_
    exact gX6_seifertNext_38 C hRet hr0 hW h
  · have h := gt_in h c1
    refine ga_iconst C dX6_seifertNext_25 ⟨by decide, by decide⟩ ?_
    refine ga_goto (tgt := 38) C dX6_seifertNext_26 (by decide) ?_
    exact gX6_seifertNext_38 C hRet hr0 hW h
set_option maxHeartbeats 4000000 in
theorem eX6_seifertNext (l : Launch) (D : va_G) (cI cZ : ClassId) (K : Nat) {r : Nat} (hr0 : r ≠ 0) {σ : ga_S} {T : gt_T} (hW : gt_O SX6 6 r T σ) {l1 : Int} {res : Int} (h : fX6_seifertNext T l1 = some res) : ga_Ev l (D, vwCl, cI, cZ) yX6_seifertNext wsX6_seifertNext (gt_rm 2 46) [] 0 0 K [.inr r, .inl l1] σ (fun σ' rv => (σ' = σ) ∧ rv = some (.inl res)) := by
  refine ga_ofI (by decide +kernel) rfl gt_hcl (Nat.le_of_ble_eq_true rfl) (fun X hX C hret => ?_)
  exact gX6_seifertNext_0 C (fun pc lv σ' z d hz hp => hret pc lv σ' z d ⟨hp, by rw [hz]⟩) hr0 hW rfl rfl h
-- X6_seifert: seifert()I
def fX6_seifert_89 (k11 : gt_T × Int × Int → Option (gt_T × Int)) (T : gt_T) (l2 s0 s1 : Int) : Option (gt_T × Int) :=
  (if (-2147483648 ≤ s0 + s1 ∧ s0 + s1 < 2147483648) ∧ (-2147483648 ≤ l2 + (1 : Int) ∧ l2 + (1 : Int) < 2147483648) then k11 (T, s0 + s1, l2 + (1 : Int)) else none)
def fX6_seifert_61 (k11 : gt_T × Int × Int → Option (gt_T × Int)) (k38 : gt_T × Int × Int × Int × Int → Option (gt_T × Int)) (T : gt_T) (l1 l2 l4 s0 : Int) : Option (gt_T × Int) :=
  (fX6_seifertNext T l4).bind (fun (q65 : Int) => k38 (T, l1, l2, s0, q65))
def fX6_seifert_38 (k11 : gt_T × Int × Int → Option (gt_T × Int)) (k38 : gt_T × Int × Int × Int × Int → Option (gt_T × Int)) (a : gt_T × Int × Int × Int × Int) : Option (gt_T × Int) :=
  (if (0 ≤ a.2.2.1 ∧ a.2.2.1 < 80) then (if a.2.2.2.2 = (a.1.2 14 a.2.2.1.toNat) then (if (0 ≤ a.2.2.1 ∧ a.2.2.1 < 80) then (if a.2.2.2.1 = (a.1.2 14 a.2.2.1.toNat) then fX6_seifert_89 k11 a.1 a.2.2.1 a.2.1 (1 : Int) else fX6_seifert_89 k11 a.1 a.2.2.1 a.2.1 (0 : Int)) else none) else (if a.2.2.2.1 ≤ a.2.2.2.2 then fX6_seifert_61 k11 k38 a.1 a.2.1 a.2.2.1 a.2.2.2.2 a.2.2.2.1 else fX6_seifert_61 k11 k38 a.1 a.2.1 a.2.2.1 a.2.2.2.2 a.2.2.2.2)) else none)
def fX6_seifert_11 (k11 : gt_T × Int × Int → Option (gt_T × Int)) (a : gt_T × Int × Int) : Option (gt_T × Int) :=
  (if (a.1.1 13) ≤ a.2.2 then some (a.1, a.2.1) else (if (0 ≤ a.2.2 ∧ a.2.2 < 80) then (fX6_seifertNext a.1 (a.1.2 14 a.2.2.toNat)).bind (fun (q33 : Int) => gt_loop (fX6_seifert_38 k11) gt_fuel (a.1, a.2.1, a.2.2, a.1.2 14 a.2.2.toNat, q33)) else none))
def fX6_seifert (T : gt_T) : Option (gt_T × Int) :=
  (fX6_sort T).bind (fun (q6 : gt_T) => gt_loop (fX6_seifert_11) gt_fuel (q6, T.1 6, (0 : Int)))
theorem iX6_seifert_X6 : ∀ w ∈ u_ws RX6 TX6 23, w ∈ wsX6_seifert := by decide +kernel
theorem kX6_seifert_32 : Cond.fieldLink yX6_seifert.cls 32 (TX6 14).1 (TX6 14).2.1 (TX6 14).2.2.1 ∈ wsX6_seifert := by decide +kernel
theorem kX6_seifert_72 : Cond.fieldLink yX6_seifert.cls 72 (TX6 13).1 (TX6 13).2.1 (TX6 13).2.2.1 ∈ wsX6_seifert := by decide +kernel
theorem kX6_seifert_105 : Cond.fieldLink yX6_seifert.cls 105 (TX6 6).1 (TX6 6).2.1 (TX6 6).2.2.1 ∈ wsX6_seifert := by decide +kernel
set_option maxHeartbeats 4000000 in
theorem gX6_seifert_89 {X : ga_X} {D : va_G} {cI cZ : ClassId} {K : Nat} {r : Nat} {σ0 : ga_S} {res : gt_T × Int} {k11 : gt_T × Int × Int → Option (gt_T × Int)} (C : ga_C X cX6_seifert yX6_seifert wsX6_seifert [] (gt_rm 3 69) (D, vwCl, cI, cZ) 5) (hRet : ∀ (pc : Nat) (lv : Nat → Option ga_V) (σ' : ga_S) (z : Int), decode cX6_seifert pc = .ok (.ireturn, 1) → z = res.2 → (gt_O SX6 6 r res.1 σ' ∧ gt_F r (r + 14) σ0 σ') → ga_G X 0 0 K pc lv [.inl z] σ') (hr0 : r ≠ 0) (hk11 : ∀ (a : gt_T × Int × Int) (σ : ga_S) (lv : Nat → Option ga_V), gt_O SX6 6 r a.1 σ → gt_F r (r + 14) σ0 σ → lv 0 = some (.inr r) → lv 1 = some (.inl a.2.1) → lv 2 = some (.inl a.2.2) → k11 a = some res → ga_G X 0 0 K 11 lv [] σ) {T : gt_T} {σ : ga_S} {l2 s0 s1 : Int} {lv : Nat → Option ga_V} (hW : gt_O SX6 6 r T σ) (hF : gt_F r (r + 14) σ0 σ) (hl0 : lv 0 = some (.inr r)) (hl2 : lv 2 = some (.inl l2)) (h : fX6_seifert_89 k11 T l2 s0 s1 = some res) : ga_G X 0 0 K 89 lv [.inl s1, .inl s0] σ := by
  unfold fX6_seifert_89 at h
  obtain ⟨hg, h⟩ := gt_gd h
  obtain ⟨g89_0, g91_1⟩ := hg
  refine ga_iadd C dX6_seifert_89 g89_0 ?_
  refine ga_istore_n C dX6_seifert_90 rfl (by decide) ?_
  refine ga_iinc C dX6_seifert_91 (gt_un (by decide) hl2) g91_1 ?_
  refine ga_goto (tgt := 11) C dX6_seifert_94 (by decide) ?_
  exact hk11 (T, s0 + s1, l2 + (1 : Int)) _ _ hW hF (gt_un (by decide) (gt_un (by decide) hl0)) (gt_un (by decide) gt_us) gt_us h
set_option maxHeartbeats 4000000 in
theorem gX6_seifert_61 {X : ga_X} {D : va_G} {cI cZ : ClassId} {K : Nat} {r : Nat} {σ0 : ga_S} {res : gt_T × Int} {k11 : gt_T × Int × Int → Option (gt_T × Int)} {k38 : gt_T × Int × Int × Int × Int → Option (gt_T × Int)} (C : ga_C X cX6_seifert yX6_seifert wsX6_seifert [] (gt_rm 3 69) (D, vwCl, cI, cZ) 5) (hRet : ∀ (pc : Nat) (lv : Nat → Option ga_V) (σ' : ga_S) (z : Int), decode cX6_seifert pc = .ok (.ireturn, 1) → z = res.2 → (gt_O SX6 6 r res.1 σ' ∧ gt_F r (r + 14) σ0 σ') → ga_G X 0 0 K pc lv [.inl z] σ') (hr0 : r ≠ 0) (hk11 : ∀ (a : gt_T × Int × Int) (σ : ga_S) (lv : Nat → Option ga_V), gt_O SX6 6 r a.1 σ → gt_F r (r + 14) σ0 σ → lv 0 = some (.inr r) → lv 1 = some (.inl a.2.1) → lv 2 = some (.inl a.2.2) → k11 a = some res → ga_G X 0 0 K 11 lv [] σ) (hk38 : ∀ (a : gt_T × Int × Int × Int × Int) (σ : ga_S) (lv : Nat → Option ga_V), gt_O SX6 6 r a.1 σ → gt_F r (r + 14) σ0 σ → lv 0 = some (.inr r) → lv 1 = some (.inl a.2.1) → lv 2 = some (.inl a.2.2.1) → lv 3 = some (.inl a.2.2.2.1) → lv 4 = some (.inl a.2.2.2.2) → k38 a = some res → ga_G X 0 0 K 38 lv [] σ) {T : gt_T} {σ : ga_S} {l1 l2 l4 s0 : Int} {lv : Nat → Option ga_V} (hW : gt_O SX6 6 r T σ) (hF : gt_F r (r + 14) σ0 σ) (hl0 : lv 0 = some (.inr r)) (hl1 : lv 1 = some (.inl l1)) (hl2 : lv 2 = some (.inl l2)) (hl4 : lv 4 = some (.inl l4)) (h : fX6_seifert_61 k11 k38 T l1 l2 l4 s0 = some res) : ga_G X 0 0 K 61 lv [.inl s0] σ := by
  unfold fX6_seifert_61 at h
  refine ga_istore_n C dX6_seifert_61 rfl (by decide) ?_
  refine ga_aload_n C dX6_seifert_62 rfl (gt_un (by decide) hl0) hr0 ?_
  refine ga_iload C dX6_seifert_63 (gt_un (by decide) hl4) ?_
  obtain ⟨q65, hq, h⟩ := Option.bind_eq_some_iff.mp h
  refine gt_cVi (n := 1) (st := []) C (eX6_seifertNext X.2.1 D cI cZ K hr0 hW hq) gX6_seifert_X6_seifertNext rfl (by decide +kernel) rfl ⟨Nat.le_of_ble_eq_true rfl, Nat.le_of_ble_eq_true rfl⟩ hW.1 rfl rfl (Nat.le_of_ble_eq_true rfl) rfl dX6_seifert_65 (fun σ' hp => ?_)
  subst hp
  refine ga_istore C dX6_seifert_68 (by decide) ?_
  refine ga_goto (tgt := 38) C dX6_seifert_70 (by decide) ?_
  exact hk38 (T, l1, l2, s0, q65) _ _ hW hF (gt_un (by decide) (gt_un (by decide) hl0)) (gt_un (by decide) (gt_un (by decide) hl1)) (gt_un (by decide) (gt_un (by decide) hl2)) (gt_un (by decide) gt_us) gt_us h
set_option maxHeartbeats 4000000 in
theorem gX6_seifert_38 {X : ga_X} {D : va_G} {cI cZ : ClassId} {K : Nat} {r : Nat} {σ0 : ga_S} {res : gt_T × Int} {k11 : gt_T × Int × Int → Option (gt_T × Int)} (C : ga_C X cX6_seifert yX6_seifert wsX6_seifert [] (gt_rm 3 69) (D, vwCl, cI, cZ) 5) (hRet : ∀ (pc : Nat) (lv : Nat → Option ga_V) (σ' : ga_S) (z : Int), decode cX6_seifert pc = .ok (.ireturn, 1) → z = res.2 → (gt_O SX6 6 r res.1 σ' ∧ gt_F r (r + 14) σ0 σ') → ga_G X 0 0 K pc lv [.inl z] σ') (hr0 : r ≠ 0) (hk11 : ∀ (a : gt_T × Int × Int) (σ : ga_S) (lv : Nat → Option ga_V), gt_O SX6 6 r a.1 σ → gt_F r (r + 14) σ0 σ → lv 0 = some (.inr r) → lv 1 = some (.inl a.2.1) → lv 2 = some (.inl a.2.2) → k11 a = some res → ga_G X 0 0 K 11 lv [] σ) : ∀ (n : Nat) (a : gt_T × Int × Int × Int × Int) (σ : ga_S) (lv : Nat → Option ga_V), gt_O SX6 6 r a.1 σ → gt_F r (r + 14) σ0 σ → lv 0 = some (.inr r) → lv 1 = some (.inl a.2.1) → lv 2 = some (.inl a.2.2.1) → lv 3 = some (.inl a.2.2.2.1) → lv 4 = some (.inl a.2.2.2.2) → gt_loop (fX6_seifert_38 k11) n a = some res → ga_G X 0 0 K 38 lv [] σ := by
  intro n
  induction n with
  | zero =>
    intro a _ lv _ _ _ _ _ _ _ h
    exact absurd (show (none : Option _) = some _ from h) (fun q => by cases q)
  | succ n hk38 =>
    intro a σ lv hW hF hl0 hl1 hl2 hl3 hl4 h
    have h : fX6_seifert_38 k11 (gt_loop (fX6_seifert_38 k11) n) a = some res := h
    revert hk38 h
    generalize gt_loop (fX6_seifert_38 k11) n = k38
    intro hk38 h
    unfold fX6_seifert_38 at h
    obtain ⟨hg, h⟩ := gt_gd h
    have g45_0 := hg
    refine ga_iload C dX6_seifert_38 hl4 ?_
    refine ga_aload_n C dX6_seifert_40 rfl hl0 hr0 ?_
    refine gt_geta C (iX6_seifert_X6) hW 14 rfl rfl (by decide) kX6_seifert_32 dX6_seifert_41 ?_
    refine ga_iload_n C dX6_seifert_44 rfl hl2 ?_
    refine gt_iald C hW 14 rfl g45_0.1 g45_0.2 dX6_seifert_45 ?_
    refine ga_icmp_eq (tgt := 73) C dX6_seifert_46 (by decide) (fun c1 => ?_) (fun c1 => ?_)
    · have h := gt_ip h c1
      obtain ⟨hg, h⟩ := gt_gd h
      have g80_0 := hg
      refine ga_iload_n C dX6_seifert_73 rfl hl1 ?_
      refine ga_iload_n C dX6_seifert_74 rfl hl3 ?_
      refine ga_aload_n C dX6_seifert_75 rfl hl0 hr0 ?_
      refine gt_geta C (iX6_seifert_X6) hW 14 rfl rfl (by decide) kX6_seifert_32 dX6_seifert_76 ?_
      refine ga_iload_n C dX6_seifert_79 rfl hl2 ?_
      refine gt_iald C hW 14 rfl g80_0.1 g80_0.2 dX6_seifert_80 ?_
      refine ga_icmp_ne (tgt := 88) C dX6_seifert_81 (by decide) (fun c1 => ?_) (fun c1 => ?_)
      · have h := gt_in h c1
        refine ga_iconst C dX6_seifert_88 ⟨by decide, by decide⟩ ?_
        exact gX6_seifert_89 C hRet hr0 hk11 hW hF hl0 hl2 h
      · have h := gt_ip h c1
        refine ga_iconst C dX6_seifert_84 ⟨by decide, by decide⟩ ?_
        refine ga_goto (tgt := 89) C dX6_seifert_85 (by decide) ?_
        exact gX6_seifert_89 C hRet hr0 hk11 hW hF hl0 hl2 h
    · have h := gt_in h c1
      refine ga_iload C dX6_seifert_49 hl4 ?_
      refine ga_iload_n C dX6_seifert_51 rfl hl3 ?_
      refine ga_icmp_ge (tgt := 60) C dX6_seifert_52 (by decide) (fun c1 => ?_) (fun c1 => ?_)
      · have h := gt_ip h c1
        refine ga_iload_n C dX6_seifert_60 rfl hl3 ?_
        exact gX6_seifert_61 C hRet hr0 hk11 hk38 hW hF hl0 hl1 hl2 hl4 h
      · have h := gt_in h c1
        refine ga_iload C dX6_seifert_55 hl4 ?_
        refine ga_goto (tgt := 61) C dX6_seifert_57 (by decide) ?_
        exact gX6_seifert_61 C hRet hr0 hk11 hk38 hW hF hl0 hl1 hl2 hl4 h
set_option maxHeartbeats 4000000 in
theorem gX6_seifert_11 {X : ga_X} {D : va_G} {cI cZ : ClassId} {K : Nat} {r : Nat} {σ0 : ga_S} {res : gt_T × Int} (C : ga_C X cX6_seifert yX6_seifert wsX6_seifert [] (gt_rm 3 69) (D, vwCl, cI, cZ) 5) (hRet : ∀ (pc : Nat) (lv : Nat → Option ga_V) (σ' : ga_S) (z : Int), decode cX6_seifert pc = .ok (.ireturn, 1) → z = res.2 → (gt_O SX6 6 r res.1 σ' ∧ gt_F r (r + 14) σ0 σ') → ga_G X 0 0 K pc lv [.inl z] σ') (hr0 : r ≠ 0) : ∀ (n : Nat) (a : gt_T × Int × Int) (σ : ga_S) (lv : Nat → Option ga_V), gt_O SX6 6 r a.1 σ → gt_F r (r + 14) σ0 σ → lv 0 = some (.inr r) → lv 1 = some (.inl a.2.1) → lv 2 = some (.inl a.2.2) → gt_loop (fX6_seifert_11) n a = some res → ga_G X 0 0 K 11 lv [] σ := by
  intro n
  induction n with
  | zero =>
    intro a _ lv _ _ _ _ _ h
    exact absurd (show (none : Option _) = some _ from h) (fun q => by cases q)
  | succ n hk11 =>
    intro a σ lv hW hF hl0 hl1 hl2 h
    have h : fX6_seifert_11 (gt_loop (fX6_seifert_11) n) a = some res := h
    revert hk11 h
    generalize gt_loop (fX6_seifert_11) n = k11
    intro hk11 h
    unfold fX6_seifert_11 at h
    refine ga_iload_n C dX6_seifert_11 rfl hl2 ?_
    refine ga_aload_n C dX6_seifert_12 rfl hl0 hr0 ?_
    refine gt_geti C (iX6_seifert_X6) hW 13 rfl rfl (by decide) kX6_seifert_72 dX6_seifert_13 ?_
    refine ga_icmp_ge (tgt := 97) C dX6_seifert_16 (by decide) (fun c1 => ?_) (fun c1 => ?_)
    · have h := gt_ip h c1
      refine ga_iload_n C dX6_seifert_97 rfl hl1 ?_
      cases h
      exact hRet _ _ _ _ dX6_seifert_98 rfl ⟨hW, hF⟩
    · have h := gt_in h c1
      obtain ⟨hg, h⟩ := gt_gd h
      have g24_0 := hg
      refine ga_aload_n C dX6_seifert_19 rfl hl0 hr0 ?_
      refine gt_geta C (iX6_seifert_X6) hW 14 rfl rfl (by decide) kX6_seifert_32 dX6_seifert_20 ?_
      refine ga_iload_n C dX6_seifert_23 rfl hl2 ?_
      refine gt_iald C hW 14 rfl g24_0.1 g24_0.2 dX6_seifert_24 ?_
      refine ga_istore_n C dX6_seifert_25 rfl (by decide) ?_
      refine ga_aload_n C dX6_seifert_26 rfl (gt_un (by decide) hl0) hr0 ?_
      refine ga_aload_n C dX6_seifert_27 rfl (gt_un (by decide) hl0) hr0 ?_
      refine gt_geta C (iX6_seifert_X6) hW 14 rfl rfl (by decide) kX6_seifert_32 dX6_seifert_28 ?_
      refine ga_iload_n C dX6_seifert_31 rfl (gt_un (by decide) hl2) ?_
      refine gt_iald C hW 14 rfl g24_0.1 g24_0.2 dX6_seifert_32 ?_
      obtain ⟨q33, hq, h⟩ := Option.bind_eq_some_iff.mp h
      refine gt_cVi (n := 1) (st := []) C (eX6_seifertNext X.2.1 D cI cZ K hr0 hW hq) gX6_seifert_X6_seifertNext rfl (by decide +kernel) rfl ⟨Nat.le_of_ble_eq_true rfl, Nat.le_of_ble_eq_true rfl⟩ hW.1 rfl rfl (Nat.le_of_ble_eq_true rfl) rfl dX6_seifert_33 (fun σ' hp => ?_)
      subst hp
      refine ga_istore C dX6_seifert_36 (by decide) ?_
      exact gX6_seifert_38 C hRet hr0 hk11 gt_fuel (a.1, a.2.1, a.2.2, a.1.2 14 a.2.2.toNat, q33) _ _ hW hF (gt_un (by decide) (gt_un (by decide) hl0)) (gt_un (by decide) (gt_un (by decide) hl1)) (gt_un (by decide) (gt_un (by decide) hl2)) (gt_un (by decide) gt_us) gt_us h
set_option maxHeartbeats 4000000 in
theorem gX6_seifert_0 {X : ga_X} {D : va_G} {cI cZ : ClassId} {K : Nat} {r : Nat} {σ0 : ga_S} {res : gt_T × Int} (C : ga_C X cX6_seifert yX6_seifert wsX6_seifert [] (gt_rm 3 69) (D, vwCl, cI, cZ) 5) (hRet : ∀ (pc : Nat) (lv : Nat → Option ga_V) (σ' : ga_S) (z : Int), decode cX6_seifert pc = .ok (.ireturn, 1) → z = res.2 → (gt_O SX6 6 r res.1 σ' ∧ gt_F r (r + 14) σ0 σ') → ga_G X 0 0 K pc lv [.inl z] σ') (hr0 : r ≠ 0) {T : gt_T} {σ : ga_S} {lv : Nat → Option ga_V} (hW : gt_O SX6 6 r T σ) (hF : gt_F r (r + 14) σ0 σ) (hl0 : lv 0 = some (.inr r)) (h : fX6_seifert T = some res) : ga_G X 0 0 K 0 lv [] σ := by
  unfold fX6_seifert at h
  refine ga_aload_n C dX6_seifert_0 rfl hl0 hr0 ?_
  refine gt_geti C (iX6_seifert_X6) hW 6 rfl rfl (by decide) kX6_seifert_105 dX6_seifert_1 ?_
  refine ga_istore_n C dX6_seifert_4 rfl (by decide) ?_
  refine ga_aload_n C dX6_seifert_5 rfl (gt_un (by decide) hl0) hr0 ?_
  obtain ⟨q6, hq, h⟩ := Option.bind_eq_some_iff.mp h
  refine gt_cVv (n := 0) (st := []) C (eX6_sort X.2.1 D cI cZ K hr0 hW hq) gX6_seifert_X6_sort rfl (by decide +kernel) rfl ⟨Nat.le_of_ble_eq_true rfl, Nat.le_of_ble_eq_true rfl⟩ hW.1 rfl rfl (Nat.le_of_ble_eq_true rfl) rfl dX6_seifert_6 (fun σ' hp => ?_)
  obtain ⟨hw, hf⟩ := hp
  have hF := hF.tr hf (Nat.le_refl _) (Nat.le_refl _)
  have hW := hw
  clear hf
  refine ga_iconst C dX6_seifert_9 ⟨by decide, by decide⟩ ?_
  refine ga_istore_n C dX6_seifert_10 rfl (by decide) ?_
  exact gX6_seifert_11 C hRet hr0 gt_fuel (q6, T.1 6, (0 : Int)) _ _ hW hF (gt_un (by decide) (gt_un (by decide) hl0)) (gt_un (by decide) gt_us) gt_us h
set_option maxHeartbeats 4000000 in
theorem eX6_seifert (l : Launch) (D : va_G) (cI cZ : ClassId) (K : Nat) {r : Nat} (hr0 : r ≠ 0) {σ : ga_S} {T : gt_T} (hW : gt_O SX6 6 r T σ) {res : gt_T × Int} (h : fX6_seifert T = some res) : ga_Ev l (D, vwCl, cI, cZ) yX6_seifert wsX6_seifert (gt_rm 3 69) [] 0 0 K [.inr r] σ (fun σ' rv => (gt_O SX6 6 r res.1 σ' ∧ gt_F r (r + 14) σ σ') ∧ rv = some (.inl res.2)) := by
  refine ga_ofI (by decide +kernel) rfl gt_hcl (Nat.le_of_ble_eq_true rfl) (fun X hX C hret => ?_)
  exact gX6_seifert_0 C (fun pc lv σ' z d hz hp => hret pc lv σ' z d ⟨hp, by rw [hz]⟩) hr0 hW gt_F.rf rfl h
-- X6_isAlternating: isAlternating()Z
def fX6_isAlternating_52 (T : gt_T) (k4 : Int × Int → Option (Int)) (l2 s0 : Int) : Option (Int) :=
  (if (-2147483648 ≤ l2 + (1 : Int) ∧ l2 + (1 : Int) < 2147483648) then k4 (s0, l2 + (1 : Int)) else none)
def fX6_isAlternating_51 (T : gt_T) (k4 : Int × Int → Option (Int)) (l2 : Int) : Option (Int) :=
  fX6_isAlternating_52 T k4 l2 (0 : Int)
def fX6_isAlternating_47 (T : gt_T) (k4 : Int × Int → Option (Int)) (l2 : Int) : Option (Int) :=
  fX6_isAlternating_52 T k4 l2 (1 : Int)
def fX6_isAlternating_4 (T : gt_T) (k4 : Int × Int → Option (Int)) (a : Int × Int) : Option (Int) :=
  (if (-2147483648 ≤ (4 : Int) * (T.1 5) ∧ (4 : Int) * (T.1 5) < 2147483648) then (if ((4 : Int) * (T.1 5)) ≤ a.2 then (if (a.1 = 0 ∨ a.1 = 1) then some a.1 else none) else (if a.1 = 0 then fX6_isAlternating_51 T k4 a.2 else (fX6_isOut T a.2).bind (fun (q20 : Int) => (if q20 = 0 then fX6_isAlternating_47 T k4 a.2 else (fX6_isUpper a.2).bind (fun (q27 : Int) => (if (0 ≤ a.2 ∧ a.2 < 80) then (fX6_placeOf T (T.2 10 a.2.toNat) (0 : Int)).bind (fun (q38 : Int) => (fX6_isUpper q38).bind (fun (q41 : Int) => (if q27 = q41 then fX6_isAlternating_51 T k4 a.2 else fX6_isAlternating_47 T k4 a.2))) else none)))))) else none)
def fX6_isAlternating (T : gt_T) : Option (Int) :=
  gt_loop (fX6_isAlternating_4 T) gt_fuel ((1 : Int), (0 : Int))
theorem iX6_isAlternating_X6 : ∀ w ∈ u_ws RX6 TX6 23, w ∈ wsX6_isAlternating := by decide +kernel
theorem kX6_isAlternating_23 : Cond.fieldLink yX6_isAlternating.cls 23 (TX6 10).1 (TX6 10).2.1 (TX6 10).2.2.1 ∈ wsX6_isAlternating := by decide +kernel
theorem kX6_isAlternating_57 : Cond.fieldLink yX6_isAlternating.cls 57 (TX6 5).1 (TX6 5).2.1 (TX6 5).2.2.1 ∈ wsX6_isAlternating := by decide +kernel
set_option maxHeartbeats 4000000 in
theorem gX6_isAlternating_52 {X : ga_X} {D : va_G} {cI cZ : ClassId} {K : Nat} {r : Nat} {res : Int} {T : gt_T} {σ : ga_S} {k4 : Int × Int → Option (Int)} (C : ga_C X cX6_isAlternating yX6_isAlternating wsX6_isAlternating [] (gt_rm 2 46) (D, vwCl, cI, cZ) 3) (hRet : ∀ (pc : Nat) (lv : Nat → Option ga_V) (σ' : ga_S) (z : Int), decode cX6_isAlternating pc = .ok (.ireturn, 1) → (z = 0 ∨ z = 1) → z = res → (σ' = σ) → ga_G X 0 0 K pc lv [.inl z] σ') (hr0 : r ≠ 0) (hk4 : ∀ (a : Int × Int) (lv : Nat → Option ga_V), gt_O SX6 6 r T σ → lv 0 = some (.inr r) → lv 1 = some (.inl a.1) → lv 2 = some (.inl a.2) → k4 a = some res → ga_G X 0 0 K 4 lv [] σ) {l2 s0 : Int} {lv : Nat → Option ga_V} (hW : gt_O SX6 6 r T σ) (hl0 : lv 0 = some (.inr r)) (hl2 : lv 2 = some (.inl l2)) (h : fX6_isAlternating_52 T k4 l2 s0 = some res) : ga_G X 0 0 K 52 lv [.inl s0] σ := by
  unfold fX6_isAlternating_52 at h
  obtain ⟨hg, h⟩ := gt_gd h
  have g53_0 := hg
  refine ga_istore_n C dX6_isAlternating_52 rfl (by decide) ?_
  refine ga_iinc C dX6_isAlternating_53 (gt_un (by decide) hl2) g53_0 ?_
  refine ga_goto (tgt := 4) C dX6_isAlternating_56 (by decide) ?_
  exact hk4 (s0, l2 + (1 : Int)) _ hW (gt_un (by decide) (gt_un (by decide) hl0)) (gt_un (by decide) gt_us) gt_us h
set_option maxHeartbeats 4000000 in
theorem gX6_isAlternating_51 {X : ga_X} {D : va_G} {cI cZ : ClassId} {K : Nat} {r : Nat} {res : Int} {T : gt_T} {σ : ga_S} {k4 : Int × Int → Option (Int)} (C : ga_C X cX6_isAlternating yX6_isAlternating wsX6_isAlternating [] (gt_rm 2 46) (D, vwCl, cI, cZ) 3) (hRet : ∀ (pc : Nat) (lv : Nat → Option ga_V) (σ' : ga_S) (z : Int), decode cX6_isAlternating pc = .ok (.ireturn, 1) → (z = 0 ∨ z = 1) → z = res → (σ' = σ) → ga_G X 0 0 K pc lv [.inl z] σ') (hr0 : r ≠ 0) (hk4 : ∀ (a : Int × Int) (lv : Nat → Option ga_V), gt_O SX6 6 r T σ → lv 0 = some (.inr r) → lv 1 = some (.inl a.1) → lv 2 = some (.inl a.2) → k4 a = some res → ga_G X 0 0 K 4 lv [] σ) {l2 : Int} {lv : Nat → Option ga_V} (hW : gt_O SX6 6 r T σ) (hl0 : lv 0 = some (.inr r)) (hl2 : lv 2 = some (.inl l2)) (h : fX6_isAlternating_51 T k4 l2 = some res) : ga_G X 0 0 K 51 lv [] σ := by
  unfold fX6_isAlternating_51 at h
  refine ga_iconst C dX6_isAlternating_51 ⟨by decide, by decide⟩ ?_
  exact gX6_isAlternating_52 C hRet hr0 hk4 hW hl0 hl2 h
set_option maxHeartbeats 4000000 in
theorem gX6_isAlternating_47 {X : ga_X} {D : va_G} {cI cZ : ClassId} {K : Nat} {r : Nat} {res : Int} {T : gt_T} {σ : ga_S} {k4 : Int × Int → Option (Int)} (C : ga_C X cX6_isAlternating yX6_isAlternating wsX6_isAlternating [] (gt_rm 2 46) (D, vwCl, cI, cZ) 3) (hRet : ∀ (pc : Nat) (lv : Nat → Option ga_V) (σ' : ga_S) (z : Int), decode cX6_isAlternating pc = .ok (.ireturn, 1) → (z = 0 ∨ z = 1) → z = res → (σ' = σ) → ga_G X 0 0 K pc lv [.inl z] σ') (hr0 : r ≠ 0) (hk4 : ∀ (a : Int × Int) (lv : Nat → Option ga_V), gt_O SX6 6 r T σ → lv 0 = some (.inr r) → lv 1 = some (.inl a.1) → lv 2 = some (.inl a.2) → k4 a = some res → ga_G X 0 0 K 4 lv [] σ) {l2 : Int} {lv : Nat → Option ga_V} (hW : gt_O SX6 6 r T σ) (hl0 : lv 0 = some (.inr r)) (hl2 : lv 2 = some (.inl l2)) (h : fX6_isAlternating_47 T k4 l2 = some res) : ga_G X 0 0 K 47 lv [] σ := by
  unfold fX6_isAlternating_47 at h
  refine ga_iconst C dX6_isAlternating_47 ⟨by decide, by decide⟩ ?_
  refine ga_goto (tgt := 52) C dX6_isAlternating_48 (by decide) ?_
  exact gX6_isAlternating_52 C hRet hr0 hk4 hW hl0 hl2 h
set_option maxHeartbeats 4000000 in
theorem gX6_isAlternating_4 {X : ga_X} {D : va_G} {cI cZ : ClassId} {K : Nat} {r : Nat} {res : Int} {T : gt_T} {σ : ga_S} (C : ga_C X cX6_isAlternating yX6_isAlternating wsX6_isAlternating [] (gt_rm 2 46) (D, vwCl, cI, cZ) 3) (hRet : ∀ (pc : Nat) (lv : Nat → Option ga_V) (σ' : ga_S) (z : Int), decode cX6_isAlternating pc = .ok (.ireturn, 1) → (z = 0 ∨ z = 1) → z = res → (σ' = σ) → ga_G X 0 0 K pc lv [.inl z] σ') (hr0 : r ≠ 0) : ∀ (n : Nat) (a : Int × Int) (lv : Nat → Option ga_V), gt_O SX6 6 r T σ → lv 0 = some (.inr r) → lv 1 = some (.inl a.1) → lv 2 = some (.inl a.2) → gt_loop (fX6_isAlternating_4 T) n a = some res → ga_G X 0 0 K 4 lv [] σ := by
  intro n
  induction n with
  | zero =>
    intro a lv _ _ _ _ h
    exact absurd (show (none : Option _) = some _ from h) (fun q => by cases q)
  | succ n hk4 =>
    intro a lv hW hl0 hl1 hl2 h
    have h : fX6_isAlternating_4 T (gt_loop (fX6_isAlternating_4 T) n) a = some res := h
    revert hk4 h
    generalize gt_loop (fX6_isAlternating_4 T) n = k4
    intro hk4 h
    unfold fX6_isAlternating_4 at h
    obtain ⟨hg, h⟩ := gt_gd h
    have g10_0 := hg
    refine ga_iload_n C dX6_isAlternating_4 rfl hl2 ?_
    refine ga_iconst C dX6_isAlternating_5 ⟨by decide, by decide⟩ ?_
    refine ga_aload_n C dX6_isAlternating_6 rfl hl0 hr0 ?_
    refine gt_geti C (iX6_isAlternating_X6) hW 5 rfl rfl (by decide) kX6_isAlternating_57 dX6_isAlternating_7 ?_
    refine ga_imul C dX6_isAlternating_10 g10_0 ?_
    refine ga_icmp_ge (tgt := 59) C dX6_isAlternating_11 (by decide) (fun c1 => ?_) (fun c1 => ?_)
    · have h := gt_ip h c1
      obtain ⟨hg, h⟩ := gt_gd h
      have g60_0 := hg
      refine ga_iload_n C dX6_isAlternating_59 rfl hl1 ?_
      cases h
      exact hRet _ _ _ _ dX6_isAlternating_60 g60_0 rfl rfl
    · have h := gt_in h c1
      refine ga_iload_n C dX6_isAlternating_14 rfl hl1 ?_
      refine ga_if_eq (tgt := 51) C dX6_isAlternating_15 (by decide) (fun c1 => ?_) (fun c1 => ?_)
      · have h := gt_ip h c1
        exact gX6_isAlternating_51 C hRet hr0 hk4 hW hl0 hl2 h
      · have h := gt_in h c1
        refine ga_aload_n C dX6_isAlternating_18 rfl hl0 hr0 ?_
        refine ga_iload_n C dX6_isAlternating_19 rfl hl2 ?_
        obtain ⟨q20, hq, h⟩ := Option.bind_eq_some_iff.mp h
        refine gt_cVi (n := 1) (st := []) C (eX6_isOut X.2.1 D cI cZ K hr0 hW hq) gX6_isAlternating_X6_isOut rfl (by decide +kernel) rfl ⟨Nat.le_of_ble_eq_true rfl, Nat.le_of_ble_eq_true rfl⟩ hW.1 rfl rfl (Nat.le_of_ble_eq_true rfl) rfl dX6_isAlternating_20 (fun σ' hp => ?_)
        subst hp
        refine ga_if_eq (tgt := 47) C dX6_isAlternating_23 (by decide) (fun c1 => ?_) (fun c1 => ?_)
        · have h := gt_ip h c1
          exact gX6_isAlternating_47 C hRet hr0 hk4 hW hl0 hl2 h
        · have h := gt_in h c1
          refine ga_iload_n C dX6_isAlternating_26 rfl hl2 ?_
          obtain ⟨q27, hq, h⟩ := Option.bind_eq_some_iff.mp h
          refine gt_cSi (n := 1) (st := []) C (eX6_isUpper X.2.1 D cI cZ K hq) gX6_isAlternating_X6_isUpper rfl (by decide +kernel) rfl ⟨Nat.le_of_ble_eq_true rfl, Nat.le_of_ble_eq_true rfl⟩ (Nat.le_of_ble_eq_true rfl) rfl dX6_isAlternating_27 (fun σ' hp => ?_)
          subst hp
          obtain ⟨hg, h⟩ := gt_gd h
          have g36_0 := hg
          refine ga_aload_n C dX6_isAlternating_30 rfl hl0 hr0 ?_
          refine ga_aload_n C dX6_isAlternating_31 rfl hl0 hr0 ?_
          refine gt_geta C (iX6_isAlternating_X6) hW 10 rfl rfl (by decide) kX6_isAlternating_23 dX6_isAlternating_32 ?_
          refine ga_iload_n C dX6_isAlternating_35 rfl hl2 ?_
          refine gt_iald C hW 10 rfl g36_0.1 g36_0.2 dX6_isAlternating_36 ?_
          refine ga_iconst C dX6_isAlternating_37 ⟨by decide, by decide⟩ ?_
          obtain ⟨q38, hq, h⟩ := Option.bind_eq_some_iff.mp h
          refine gt_cVi (n := 2) (st := [.inl q27]) C (eX6_placeOf X.2.1 D cI cZ K hr0 hW hq) gX6_isAlternating_X6_placeOf rfl (by decide +kernel) rfl ⟨Nat.le_of_ble_eq_true rfl, Nat.le_of_ble_eq_true rfl⟩ hW.1 rfl rfl (Nat.le_of_ble_eq_true rfl) rfl dX6_isAlternating_38 (fun σ' hp => ?_)
          subst hp
          obtain ⟨q41, hq, h⟩ := Option.bind_eq_some_iff.mp h
          refine gt_cSi (n := 1) (st := [.inl q27]) C (eX6_isUpper X.2.1 D cI cZ K hq) gX6_isAlternating_X6_isUpper rfl (by decide +kernel) rfl ⟨Nat.le_of_ble_eq_true rfl, Nat.le_of_ble_eq_true rfl⟩ (Nat.le_of_ble_eq_true rfl) rfl dX6_isAlternating_41 (fun σ' hp => ?_)
          subst hp
          refine ga_icmp_eq (tgt := 51) C dX6_isAlternating_44 (by decide) (fun c1 => ?_) (fun c1 => ?_)
          · have h := gt_ip h c1
            exact gX6_isAlternating_51 C hRet hr0 hk4 hW hl0 hl2 h
          · have h := gt_in h c1
            exact gX6_isAlternating_47 C hRet hr0 hk4 hW hl0 hl2 h
set_option maxHeartbeats 4000000 in
theorem gX6_isAlternating_0 {X : ga_X} {D : va_G} {cI cZ : ClassId} {K : Nat} {r : Nat} {res : Int} {T : gt_T} {σ : ga_S} (C : ga_C X cX6_isAlternating yX6_isAlternating wsX6_isAlternating [] (gt_rm 2 46) (D, vwCl, cI, cZ) 3) (hRet : ∀ (pc : Nat) (lv : Nat → Option ga_V) (σ' : ga_S) (z : Int), decode cX6_isAlternating pc = .ok (.ireturn, 1) → (z = 0 ∨ z = 1) → z = res → (σ' = σ) → ga_G X 0 0 K pc lv [.inl z] σ') (hr0 : r ≠ 0) {lv : Nat → Option ga_V} (hW : gt_O SX6 6 r T σ) (hl0 : lv 0 = some (.inr r)) (h : fX6_isAlternating T = some res) : ga_G X 0 0 K 0 lv [] σ := by
  unfold fX6_isAlternating at h
  refine ga_iconst C dX6_isAlternating_0 ⟨by decide, by decide⟩ ?_
  refine ga_istore_n C dX6_isAlternating_1 rfl (by decide) ?_
  refine ga_iconst C dX6_isAlternating_2 ⟨by decide, by decide⟩ ?_
  refine ga_istore_n C dX6_isAlternating_3 rfl (by decide) ?_
  exact gX6_isAlternating_4 C hRet hr0 gt_fuel ((1 : Int), (0 : Int)) _ hW (gt_un (by decide) (gt_un (by decide) hl0)) (gt_un (by decide) gt_us) gt_us h
set_option maxHeartbeats 4000000 in
theorem eX6_isAlternating (l : Launch) (D : va_G) (cI cZ : ClassId) (K : Nat) {r : Nat} (hr0 : r ≠ 0) {σ : ga_S} {T : gt_T} (hW : gt_O SX6 6 r T σ) {res : Int} (h : fX6_isAlternating T = some res) : ga_Ev l (D, vwCl, cI, cZ) yX6_isAlternating wsX6_isAlternating (gt_rm 2 46) [] 0 0 K [.inr r] σ (fun σ' rv => (σ' = σ) ∧ rv = some (.inl res)) := by
  refine ga_ofZ (by decide +kernel) rfl gt_hcl (Nat.le_of_ble_eq_true rfl) (fun X hX C hret => ?_)
  exact gX6_isAlternating_0 C (fun pc lv σ' z d h01 hz hp => hret pc lv σ' z d h01 ⟨hp, by rw [hz]⟩) hr0 hW rfl h
-- X6_allComponents: allComponents()I
def fX6_allComponents (T : gt_T) : Option (gt_T × Int) :=
  (fX6_components T).bind (fun (q1 : gt_T) => (if (-2147483648 ≤ (q1.1 19) + (q1.1 6) ∧ (q1.1 19) + (q1.1 6) < 2147483648) then some (q1, (q1.1 19) + (q1.1 6)) else none))
theorem iX6_allComponents_X6 : ∀ w ∈ u_ws RX6 TX6 23, w ∈ wsX6_allComponents := by decide +kernel
theorem kX6_allComponents_75 : Cond.fieldLink yX6_allComponents.cls 75 (TX6 19).1 (TX6 19).2.1 (TX6 19).2.2.1 ∈ wsX6_allComponents := by decide +kernel
theorem kX6_allComponents_105 : Cond.fieldLink yX6_allComponents.cls 105 (TX6 6).1 (TX6 6).2.1 (TX6 6).2.2.1 ∈ wsX6_allComponents := by decide +kernel
set_option maxHeartbeats 4000000 in
theorem gX6_allComponents_0 {X : ga_X} {D : va_G} {cI cZ : ClassId} {K : Nat} {r : Nat} {σ0 : ga_S} {res : gt_T × Int} (C : ga_C X cX6_allComponents yX6_allComponents wsX6_allComponents [] (gt_rm 4 90) (D, vwCl, cI, cZ) 1) (hRet : ∀ (pc : Nat) (lv : Nat → Option ga_V) (σ' : ga_S) (z : Int), decode cX6_allComponents pc = .ok (.ireturn, 1) → z = res.2 → (gt_O SX6 6 r res.1 σ' ∧ gt_F r (r + 14) σ0 σ') → ga_G X 0 0 K pc lv [.inl z] σ') (hr0 : r ≠ 0) {T : gt_T} {σ : ga_S} {lv : Nat → Option ga_V} (hW : gt_O SX6 6 r T σ) (hF : gt_F r (r + 14) σ0 σ) (hl0 : lv 0 = some (.inr r)) (h : fX6_allComponents T = some res) : ga_G X 0 0 K 0 lv [] σ := by
  unfold fX6_allComponents at h
  refine ga_aload_n C dX6_allComponents_0 rfl hl0 hr0 ?_
  obtain ⟨q1, hq, h⟩ := Option.bind_eq_some_iff.mp h
  refine gt_cVv (n := 0) (st := []) C (eX6_components X.2.1 D cI cZ K hr0 hW hq) gX6_allComponents_X6_components rfl (by decide +kernel) rfl ⟨Nat.le_of_ble_eq_true rfl, Nat.le_of_ble_eq_true rfl⟩ hW.1 rfl rfl (Nat.le_of_ble_eq_true rfl) rfl dX6_allComponents_1 (fun σ' hp => ?_)
  obtain ⟨hw, hf⟩ := hp
  have hF := hF.tr hf (Nat.le_refl _) (Nat.le_refl _)
  have hW := hw
  clear hf
  obtain ⟨hg, h⟩ := gt_gd h
  have g12_0 := hg
  refine ga_aload_n C dX6_allComponents_4 rfl hl0 hr0 ?_
  refine gt_geti C (iX6_allComponents_X6) hW 19 rfl rfl (by decide) kX6_allComponents_75 dX6_allComponents_5 ?_
  refine ga_aload_n C dX6_allComponents_8 rfl hl0 hr0 ?_
  refine gt_geti C (iX6_allComponents_X6) hW 6 rfl rfl (by decide) kX6_allComponents_105 dX6_allComponents_9 ?_
  refine ga_iadd C dX6_allComponents_12 g12_0 ?_
  cases h
  exact hRet _ _ _ _ dX6_allComponents_13 rfl ⟨hW, hF⟩
set_option maxHeartbeats 4000000 in
theorem eX6_allComponents (l : Launch) (D : va_G) (cI cZ : ClassId) (K : Nat) {r : Nat} (hr0 : r ≠ 0) {σ : ga_S} {T : gt_T} (hW : gt_O SX6 6 r T σ) {res : gt_T × Int} (h : fX6_allComponents T = some res) : ga_Ev l (D, vwCl, cI, cZ) yX6_allComponents wsX6_allComponents (gt_rm 4 90) [] 0 0 K [.inr r] σ (fun σ' rv => (gt_O SX6 6 r res.1 σ' ∧ gt_F r (r + 14) σ σ') ∧ rv = some (.inl res.2)) := by
  refine ga_ofI (by decide +kernel) rfl gt_hcl (Nat.le_of_ble_eq_true rfl) (fun X hX C hret => ?_)
  exact gX6_allComponents_0 C (fun pc lv σ' z d hz hp => hret pc lv σ' z d ⟨hp, by rw [hz]⟩) hr0 hW gt_F.rf rfl h
-- X6_allFaces: allFaces()I
def fX6_allFaces (T : gt_T) : Option (gt_T × Int) :=
  (fX6_findFaces T).bind (fun (q1 : gt_T) => some (q1, q1.1 20))
theorem iX6_allFaces_X6 : ∀ w ∈ u_ws RX6 TX6 23, w ∈ wsX6_allFaces := by decide +kernel
theorem kX6_allFaces_90 : Cond.fieldLink yX6_allFaces.cls 90 (TX6 20).1 (TX6 20).2.1 (TX6 20).2.2.1 ∈ wsX6_allFaces := by decide +kernel
set_option maxHeartbeats 4000000 in
theorem gX6_allFaces_0 {X : ga_X} {D : va_G} {cI cZ : ClassId} {K : Nat} {r : Nat} {σ0 : ga_S} {res : gt_T × Int} (C : ga_C X cX6_allFaces yX6_allFaces wsX6_allFaces [] (gt_rm 4 92) (D, vwCl, cI, cZ) 1) (hRet : ∀ (pc : Nat) (lv : Nat → Option ga_V) (σ' : ga_S) (z : Int), decode cX6_allFaces pc = .ok (.ireturn, 1) → z = res.2 → (gt_O SX6 6 r res.1 σ' ∧ gt_F r (r + 14) σ0 σ') → ga_G X 0 0 K pc lv [.inl z] σ') (hr0 : r ≠ 0) {T : gt_T} {σ : ga_S} {lv : Nat → Option ga_V} (hW : gt_O SX6 6 r T σ) (hF : gt_F r (r + 14) σ0 σ) (hl0 : lv 0 = some (.inr r)) (h : fX6_allFaces T = some res) : ga_G X 0 0 K 0 lv [] σ := by
  unfold fX6_allFaces at h
  refine ga_aload_n C dX6_allFaces_0 rfl hl0 hr0 ?_
  obtain ⟨q1, hq, h⟩ := Option.bind_eq_some_iff.mp h
  refine gt_cVv (n := 0) (st := []) C (eX6_findFaces X.2.1 D cI cZ K hr0 hW hq) gX6_allFaces_X6_findFaces rfl (by decide +kernel) rfl ⟨Nat.le_of_ble_eq_true rfl, Nat.le_of_ble_eq_true rfl⟩ hW.1 rfl rfl (Nat.le_of_ble_eq_true rfl) rfl dX6_allFaces_1 (fun σ' hp => ?_)
  obtain ⟨hw, hf⟩ := hp
  have hF := hF.tr hf (Nat.le_refl _) (Nat.le_refl _)
  have hW := hw
  clear hf
  refine ga_aload_n C dX6_allFaces_4 rfl hl0 hr0 ?_
  refine gt_geti C (iX6_allFaces_X6) hW 20 rfl rfl (by decide) kX6_allFaces_90 dX6_allFaces_5 ?_
  cases h
  exact hRet _ _ _ _ dX6_allFaces_8 rfl ⟨hW, hF⟩
set_option maxHeartbeats 4000000 in
theorem eX6_allFaces (l : Launch) (D : va_G) (cI cZ : ClassId) (K : Nat) {r : Nat} (hr0 : r ≠ 0) {σ : ga_S} {T : gt_T} (hW : gt_O SX6 6 r T σ) {res : gt_T × Int} (h : fX6_allFaces T = some res) : ga_Ev l (D, vwCl, cI, cZ) yX6_allFaces wsX6_allFaces (gt_rm 4 92) [] 0 0 K [.inr r] σ (fun σ' rv => (gt_O SX6 6 r res.1 σ' ∧ gt_F r (r + 14) σ σ') ∧ rv = some (.inl res.2)) := by
  refine ga_ofI (by decide +kernel) rfl gt_hcl (Nat.le_of_ble_eq_true rfl) (fun X hX C hret => ?_)
  exact gX6_allFaces_0 C (fun pc lv σ' z d hz hp => hret pc lv σ' z d ⟨hp, by rw [hz]⟩) hr0 hW gt_F.rf rfl h
-- X6_many: many(I)I
def fX6_many_124 (T : gt_T) (s0 : Int) : Option (gt_T × Int) :=
  some (T, s0)
def fX6_many (T : gt_T) (l1 : Int) : Option (gt_T × Int) :=
  (if l1 = 0 then some (T, T.1 5) else (if l1 = 1 then (if (-2147483648 ≤ (2 : Int) * (T.1 5) ∧ (2 : Int) * (T.1 5) < 2147483648) then some (T, (2 : Int) * (T.1 5)) else none) else (if l1 = 2 then (fX6_allComponents T).bind (fun (q73 : gt_T × Int) => some (q73.1, q73.2)) else (if l1 = 3 then (fX6_pieces T).bind (fun (q78 : gt_T × Int) => (if (-2147483648 ≤ q78.2 + (q78.1.1 6) ∧ q78.2 + (q78.1.1 6) < 2147483648) then some (q78.1, q78.2 + (q78.1.1 6)) else none)) else (if l1 = 4 then some (T, T.1 6) else (if l1 = 5 then (fX6_signs T).bind (fun (q93 : Int) => some (T, q93)) else (if l1 = 6 then (fX6_allFaces T).bind (fun (q98 : gt_T × Int) => some (q98.1, q98.2)) else (if l1 = 7 then (fX6_arcs T).bind (fun (q103 : gt_T × Int) => some (q103.1, q103.2)) else (if l1 = 8 then (fX6_seifert T).bind (fun (q108 : gt_T × Int) => some (q108.1, q108.2)) else (if l1 = 9 then (fX6_isAlternating T).bind (fun (q113 : Int) => (if q113 = 0 then fX6_many_124 T (0 : Int) else fX6_many_124 T (1 : Int))) else (if l1 = 10 then some (T, T.1 1) else some (T, (-1000 : Int)))))))))))))
theorem iX6_many_X6 : ∀ w ∈ u_ws RX6 TX6 23, w ∈ wsX6_many := by decide +kernel
theorem kX6_many_57 : Cond.fieldLink yX6_many.cls 57 (TX6 5).1 (TX6 5).2.1 (TX6 5).2.2.1 ∈ wsX6_many := by decide +kernel
theorem kX6_many_99 : Cond.fieldLink yX6_many.cls 99 (TX6 1).1 (TX6 1).2.1 (TX6 1).2.2.1 ∈ wsX6_many := by decide +kernel
theorem kX6_many_105 : Cond.fieldLink yX6_many.cls 105 (TX6 6).1 (TX6 6).2.1 (TX6 6).2.2.1 ∈ wsX6_many := by decide +kernel
set_option maxHeartbeats 4000000 in
theorem gX6_many_124 {X : ga_X} {D : va_G} {cI cZ : ClassId} {K : Nat} {r : Nat} {σ0 : ga_S} {res : gt_T × Int} (C : ga_C X cX6_many yX6_many wsX6_many [] (gt_rm 5 114) (D, vwCl, cI, cZ) 2) (hRet : ∀ (pc : Nat) (lv : Nat → Option ga_V) (σ' : ga_S) (z : Int), decode cX6_many pc = .ok (.ireturn, 1) → z = res.2 → (gt_O SX6 6 r res.1 σ' ∧ gt_F r (r + 14) σ0 σ') → ga_G X 0 0 K pc lv [.inl z] σ') (hr0 : r ≠ 0) {T : gt_T} {σ : ga_S} {s0 : Int} {lv : Nat → Option ga_V} (hW : gt_O SX6 6 r T σ) (hF : gt_F r (r + 14) σ0 σ) (h : fX6_many_124 T s0 = some res) : ga_G X 0 0 K 124 lv [.inl s0] σ := by
  unfold fX6_many_124 at h
  cases h
  exact hRet _ _ _ _ dX6_many_124 rfl ⟨hW, hF⟩
set_option maxHeartbeats 4000000 in
theorem gX6_many_0 {X : ga_X} {D : va_G} {cI cZ : ClassId} {K : Nat} {r : Nat} {σ0 : ga_S} {res : gt_T × Int} (C : ga_C X cX6_many yX6_many wsX6_many [] (gt_rm 5 114) (D, vwCl, cI, cZ) 2) (hRet : ∀ (pc : Nat) (lv : Nat → Option ga_V) (σ' : ga_S) (z : Int), decode cX6_many pc = .ok (.ireturn, 1) → z = res.2 → (gt_O SX6 6 r res.1 σ' ∧ gt_F r (r + 14) σ0 σ') → ga_G X 0 0 K pc lv [.inl z] σ') (hr0 : r ≠ 0) {T : gt_T} {σ : ga_S} {l1 : Int} {lv : Nat → Option ga_V} (hW : gt_O SX6 6 r T σ) (hF : gt_F r (r + 14) σ0 σ) (hl0 : lv 0 = some (.inr r)) (hl1 : lv 1 = some (.inl l1)) (h : fX6_many T l1 = some res) : ga_G X 0 0 K 0 lv [] σ := by
  unfold fX6_many at h
  refine ga_iload_n C dX6_many_0 rfl hl1 ?_
  by_cases c1 : l1 = 0
  · have h := gt_ip h c1
    refine ga_tabIn (tgt := 60) C dX6_many_1 (by rw [c1]; decide) (by rw [c1]; decide) (by rw [c1]; rfl) (by decide) ?_
    refine ga_aload_n C dX6_many_60 rfl hl0 hr0 ?_
    refine gt_geti C (iX6_many_X6) hW 5 rfl rfl (by decide) kX6_many_57 dX6_many_61 ?_
    cases h
    exact hRet _ _ _ _ dX6_many_64 rfl ⟨hW, hF⟩
  · have h := gt_in h c1
    have c100 := c1
    by_cases c1 : l1 = 1
    · have h := gt_ip h c1
      refine ga_tabIn (tgt := 65) C dX6_many_1 (by rw [c1]; decide) (by rw [c1]; decide) (by rw [c1]; rfl) (by decide) ?_
      obtain ⟨hg, h⟩ := gt_gd h
      have g70_0 := hg
      refine ga_iconst C dX6_many_65 ⟨by decide, by decide⟩ ?_
      refine ga_aload_n C dX6_many_66 rfl hl0 hr0 ?_
      refine gt_geti C (iX6_many_X6) hW 5 rfl rfl (by decide) kX6_many_57 dX6_many_67 ?_
      refine ga_imul C dX6_many_70 g70_0 ?_
      cases h
      exact hRet _ _ _ _ dX6_many_71 rfl ⟨hW, hF⟩
    · have h := gt_in h c1
      have c101 := c1
      by_cases c1 : l1 = 2
      · have h := gt_ip h c1
        refine ga_tabIn (tgt := 72) C dX6_many_1 (by rw [c1]; decide) (by rw [c1]; decide) (by rw [c1]; rfl) (by decide) ?_
        refine ga_aload_n C dX6_many_72 rfl hl0 hr0 ?_
        obtain ⟨q73, hq, h⟩ := Option.bind_eq_some_iff.mp h
        refine gt_cVi (n := 0) (st := []) C (eX6_allComponents X.2.1 D cI cZ K hr0 hW hq) gX6_many_X6_allComponents rfl (by decide +kernel) rfl ⟨Nat.le_of_ble_eq_true rfl, Nat.le_of_ble_eq_true rfl⟩ hW.1 rfl rfl (Nat.le_of_ble_eq_true rfl) rfl dX6_many_73 (fun σ' hp => ?_)
        obtain ⟨hw, hf⟩ := hp
        have hF := hF.tr hf (Nat.le_refl _) (Nat.le_refl _)
        have hW := hw
        clear hf
        cases h
        exact hRet _ _ _ _ dX6_many_76 rfl ⟨hW, hF⟩
      · have h := gt_in h c1
        have c102 := c1
        by_cases c1 : l1 = 3
        · have h := gt_ip h c1
          refine ga_tabIn (tgt := 77) C dX6_many_1 (by rw [c1]; decide) (by rw [c1]; decide) (by rw [c1]; rfl) (by decide) ?_
          refine ga_aload_n C dX6_many_77 rfl hl0 hr0 ?_
          obtain ⟨q78, hq, h⟩ := Option.bind_eq_some_iff.mp h
          refine gt_cVi (n := 0) (st := []) C (eX6_pieces X.2.1 D cI cZ K hr0 hW hq) gX6_many_X6_pieces rfl (by decide +kernel) rfl ⟨Nat.le_of_ble_eq_true rfl, Nat.le_of_ble_eq_true rfl⟩ hW.1 rfl rfl (Nat.le_of_ble_eq_true rfl) rfl dX6_many_78 (fun σ' hp => ?_)
          obtain ⟨hw, hf⟩ := hp
          have hF := hF.tr hf (Nat.le_refl _) (Nat.le_refl _)
          have hW := hw
          clear hf
          obtain ⟨hg, h⟩ := gt_gd h
          have g85_0 := hg
          refine ga_aload_n C dX6_many_81 rfl hl0 hr0 ?_
          refine gt_geti C (iX6_many_X6) hW 6 rfl rfl (by decide) kX6_many_105 dX6_many_82 ?_
          refine ga_iadd C dX6_many_85 g85_0 ?_
          cases h
          exact hRet _ _ _ _ dX6_many_86 rfl ⟨hW, hF⟩
        · have h := gt_in h c1
          have c103 := c1
          by_cases c1 : l1 = 4
          · have h := gt_ip h c1
            refine ga_tabIn (tgt := 87) C dX6_many_1 (by rw [c1]; decide) (by rw [c1]; decide) (by rw [c1]; rfl) (by decide) ?_
            refine ga_aload_n C dX6_many_87 rfl hl0 hr0 ?_
            refine gt_geti C (iX6_many_X6) hW 6 rfl rfl (by decide) kX6_many_105 dX6_many_88 ?_
            cases h
            exact hRet _ _ _ _ dX6_many_91 rfl ⟨hW, hF⟩
          · have h := gt_in h c1
            have c104 := c1
            by_cases c1 : l1 = 5
            · have h := gt_ip h c1
              refine ga_tabIn (tgt := 92) C dX6_many_1 (by rw [c1]; decide) (by rw [c1]; decide) (by rw [c1]; rfl) (by decide) ?_
              refine ga_aload_n C dX6_many_92 rfl hl0 hr0 ?_
              obtain ⟨q93, hq, h⟩ := Option.bind_eq_some_iff.mp h
              refine gt_cVi (n := 0) (st := []) C (eX6_signs X.2.1 D cI cZ K hr0 hW hq) gX6_many_X6_signs rfl (by decide +kernel) rfl ⟨Nat.le_of_ble_eq_true rfl, Nat.le_of_ble_eq_true rfl⟩ hW.1 rfl rfl (Nat.le_of_ble_eq_true rfl) rfl dX6_many_93 (fun σ' hp => ?_)
              subst hp
              cases h
              exact hRet _ _ _ _ dX6_many_96 rfl ⟨hW, hF⟩
            · have h := gt_in h c1
              have c105 := c1
              by_cases c1 : l1 = 6
              · have h := gt_ip h c1
                refine ga_tabIn (tgt := 97) C dX6_many_1 (by rw [c1]; decide) (by rw [c1]; decide) (by rw [c1]; rfl) (by decide) ?_
                refine ga_aload_n C dX6_many_97 rfl hl0 hr0 ?_
                obtain ⟨q98, hq, h⟩ := Option.bind_eq_some_iff.mp h
                refine gt_cVi (n := 0) (st := []) C (eX6_allFaces X.2.1 D cI cZ K hr0 hW hq) gX6_many_X6_allFaces rfl (by decide +kernel) rfl ⟨Nat.le_of_ble_eq_true rfl, Nat.le_of_ble_eq_true rfl⟩ hW.1 rfl rfl (Nat.le_of_ble_eq_true rfl) rfl dX6_many_98 (fun σ' hp => ?_)
                obtain ⟨hw, hf⟩ := hp
                have hF := hF.tr hf (Nat.le_refl _) (Nat.le_refl _)
                have hW := hw
                clear hf
                cases h
                exact hRet _ _ _ _ dX6_many_101 rfl ⟨hW, hF⟩
              · have h := gt_in h c1
                have c106 := c1
                by_cases c1 : l1 = 7
                · have h := gt_ip h c1
                  refine ga_tabIn (tgt := 102) C dX6_many_1 (by rw [c1]; decide) (by rw [c1]; decide) (by rw [c1]; rfl) (by decide) ?_
                  refine ga_aload_n C dX6_many_102 rfl hl0 hr0 ?_
                  obtain ⟨q103, hq, h⟩ := Option.bind_eq_some_iff.mp h
                  refine gt_cVi (n := 0) (st := []) C (eX6_arcs X.2.1 D cI cZ K hr0 hW hq) gX6_many_X6_arcs rfl (by decide +kernel) rfl ⟨Nat.le_of_ble_eq_true rfl, Nat.le_of_ble_eq_true rfl⟩ hW.1 rfl rfl (Nat.le_of_ble_eq_true rfl) rfl dX6_many_103 (fun σ' hp => ?_)
                  obtain ⟨hw, hf⟩ := hp
                  have hF := hF.tr hf (Nat.le_refl _) (Nat.le_refl _)
                  have hW := hw
                  clear hf
                  cases h
                  exact hRet _ _ _ _ dX6_many_106 rfl ⟨hW, hF⟩
                · have h := gt_in h c1
                  have c107 := c1
                  by_cases c1 : l1 = 8
                  · have h := gt_ip h c1
                    refine ga_tabIn (tgt := 107) C dX6_many_1 (by rw [c1]; decide) (by rw [c1]; decide) (by rw [c1]; rfl) (by decide) ?_
                    refine ga_aload_n C dX6_many_107 rfl hl0 hr0 ?_
                    obtain ⟨q108, hq, h⟩ := Option.bind_eq_some_iff.mp h
                    refine gt_cVi (n := 0) (st := []) C (eX6_seifert X.2.1 D cI cZ K hr0 hW hq) gX6_many_X6_seifert rfl (by decide +kernel) rfl ⟨Nat.le_of_ble_eq_true rfl, Nat.le_of_ble_eq_true rfl⟩ hW.1 rfl rfl (Nat.le_of_ble_eq_true rfl) rfl dX6_many_108 (fun σ' hp => ?_)
                    obtain ⟨hw, hf⟩ := hp
                    have hF := hF.tr hf (Nat.le_refl _) (Nat.le_refl _)
                    have hW := hw
                    clear hf
                    cases h
                    exact hRet _ _ _ _ dX6_many_111 rfl ⟨hW, hF⟩
                  · have h := gt_in h c1
                    have c108 := c1
                    by_cases c1 : l1 = 9
                    · have h := gt_ip h c1
                      refine ga_tabIn (tgt := 112) C dX6_many_1 (by rw [c1]; decide) (by rw [c1]; decide) (by rw [c1]; rfl) (by decide) ?_
                      refine ga_aload_n C dX6_many_112 rfl hl0 hr0 ?_
                      obtain ⟨q113, hq, h⟩ := Option.bind_eq_some_iff.mp h
                      refine gt_cVi (n := 0) (st := []) C (eX6_isAlternating X.2.1 D cI cZ K hr0 hW hq) gX6_many_X6_isAlternating rfl (by decide +kernel) rfl ⟨Nat.le_of_ble_eq_true rfl, Nat.le_of_ble_eq_true rfl⟩ hW.1 rfl rfl (Nat.le_of_ble_eq_true rfl) rfl dX6_many_113 (fun σ' hp => ?_)
                      subst hp
                      refine ga_if_eq (tgt := 123) C dX6_many_116 (by decide) (fun c1 => ?_) (fun c1 => ?_)
                      · have h := gt_ip h c1
                        refine ga_iconst C dX6_many_123 ⟨by decide, by decide⟩ ?_
                        exact gX6_many_124 C hRet hr0 hW hF h
                      · have h := gt_in h c1
                        refine ga_iconst C dX6_many_119 ⟨by decide, by decide⟩ ?_
                        refine ga_goto (tgt := 124) C dX6_many_120 (by decide) ?_
                        exact gX6_many_124 C hRet hr0 hW hF h
                    · have h := gt_in h c1
                      have c109 := c1
                      by_cases c1 : l1 = 10
                      · have h := gt_ip h c1
                        refine ga_tabIn (tgt := 125) C dX6_many_1 (by rw [c1]; decide) (by rw [c1]; decide) (by rw [c1]; rfl) (by decide) ?_
                        refine ga_aload_n C dX6_many_125 rfl hl0 hr0 ?_
                        refine gt_geti C (iX6_many_X6) hW 1 rfl rfl (by decide) kX6_many_99 dX6_many_126 ?_
                        cases h
                        exact hRet _ _ _ _ dX6_many_129 rfl ⟨hW, hF⟩
                      · have h := gt_in h c1
                        have c110 := c1
                        refine ga_tabOut (tgt := 130) C dX6_many_1 (by omega) (by decide) ?_
                        refine ga_sipush C dX6_many_130 ⟨by decide, by decide⟩ (by decide) ?_
                        cases h
                        exact hRet _ _ _ _ dX6_many_133 rfl ⟨hW, hF⟩
set_option maxHeartbeats 4000000 in
theorem eX6_many (l : Launch) (D : va_G) (cI cZ : ClassId) (K : Nat) {r : Nat} (hr0 : r ≠ 0) {σ : ga_S} {T : gt_T} (hW : gt_O SX6 6 r T σ) {l1 : Int} {res : gt_T × Int} (h : fX6_many T l1 = some res) : ga_Ev l (D, vwCl, cI, cZ) yX6_many wsX6_many (gt_rm 5 114) [] 0 0 K [.inr r, .inl l1] σ (fun σ' rv => (gt_O SX6 6 r res.1 σ' ∧ gt_F r (r + 14) σ σ') ∧ rv = some (.inl res.2)) := by
  refine ga_ofI (by decide +kernel) rfl gt_hcl (Nat.le_of_ble_eq_true rfl) (fun X hX C hret => ?_)
  exact gX6_many_0 C (fun pc lv σ' z d hz hp => hret pc lv σ' z d ⟨hp, by rw [hz]⟩) hr0 hW gt_F.rf rfl rfl h
