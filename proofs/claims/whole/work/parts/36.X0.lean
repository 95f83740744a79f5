-- X0_turnComponent: turnComponent(I)V
def fX0_turnComponent_46 (k2 : gx_Ch × Int × Int → Option (gx_Ch)) (T : gx_Ch) (l1 l2 s0 s1 s2 : Int) : Option (gx_Ch) :=
  (fX4_turnStrands T.1 s0 s1 s2).bind (fun (q46 : gt_T) => (if (-2147483648 ≤ l2 + (1 : Int) ∧ l2 + (1 : Int) < 2147483648) then k2 ((q46, T.2.1, T.2.2.1, T.2.2.2.1, T.2.2.2.2.1, T.2.2.2.2.2.1, T.2.2.2.2.2.2.1, T.2.2.2.2.2.2.2), l1, l2 + (1 : Int)) else none))
def fX0_turnComponent_32 (k2 : gx_Ch × Int × Int → Option (gx_Ch)) (T : gx_Ch) (l1 l2 s0 s1 : Int) : Option (gx_Ch) :=
  (fX0_upperComponent (T.1, T.2.1, T.2.2.1, T.2.2.2.1, T.2.2.2.2.1, T.2.2.2.2.2.1, T.2.2.2.2.2.2.1, T.2.2.2.2.2.2.2) l2).bind (fun (q34 : Int) => (if q34 = l1 then fX0_turnComponent_46 k2 (T.1, T.2.1, T.2.2.1, T.2.2.2.1, T.2.2.2.2.1, T.2.2.2.2.2.1, T.2.2.2.2.2.2.1, T.2.2.2.2.2.2.2) l1 l2 s0 s1 (1 : Int) else fX0_turnComponent_46 k2 (T.1, T.2.1, T.2.2.1, T.2.2.2.1, T.2.2.2.2.1, T.2.2.2.2.2.1, T.2.2.2.2.2.2.1, T.2.2.2.2.2.2.2) l1 l2 s0 s1 (0 : Int)))
def fX0_turnComponent_2 (k2 : gx_Ch × Int × Int → Option (gx_Ch)) (a : gx_Ch × Int × Int) : Option (gx_Ch) :=
  (fX4_crossings a.1.1).bind (fun (q7 : Int) => (if q7 ≤ a.2.2 then some (a.1.1, a.1.2.1, a.1.2.2.1, a.1.2.2.2.1, a.1.2.2.2.2.1, a.1.2.2.2.2.2.1, a.1.2.2.2.2.2.2.1, a.1.2.2.2.2.2.2.2) else (fX0_lowerComponent (a.1.1, a.1.2.1, a.1.2.2.1, a.1.2.2.2.1, a.1.2.2.2.2.1, a.1.2.2.2.2.2.1, a.1.2.2.2.2.2.2.1, a.1.2.2.2.2.2.2.2) a.2.2).bind (fun (q20 : Int) => (if q20 = a.2.1 then fX0_turnComponent_32 k2 (a.1.1, a.1.2.1, a.1.2.2.1, a.1.2.2.2.1, a.1.2.2.2.2.1, a.1.2.2.2.2.2.1, a.1.2.2.2.2.2.2.1, a.1.2.2.2.2.2.2.2) a.2.1 a.2.2 a.2.2 (1 : Int) else fX0_turnComponent_32 k2 (a.1.1, a.1.2.1, a.1.2.2.1, a.1.2.2.2.1, a.1.2.2.2.2.1, a.1.2.2.2.2.2.1, a.1.2.2.2.2.2.2.1, a.1.2.2.2.2.2.2.2) a.2.1 a.2.2 a.2.2 (0 : Int)))))
def fX0_turnComponent (T : gx_Ch) (l1 : Int) : Option (gx_Ch) :=
  gt_loop (fX0_turnComponent_2) gt_fuel ((T.1, T.2.1, T.2.2.1, T.2.2.2.1, T.2.2.2.2.1, T.2.2.2.2.2.1, T.2.2.2.2.2.2.1, T.2.2.2.2.2.2.2), l1, (0 : Int))
theorem iX0_turnComponent_X0 : ∀ w ∈ u_ws RX0 TX0 9, w ∈ wsX0_turnComponent := by decide +kernel
theorem kX0_turnComponent_12 : Cond.fieldLink yX0_turnComponent.cls 12 (TX0 0).1 (TX0 0).2.1 (TX0 0).2.2.1 ∈ wsX0_turnComponent := by decide +kernel
set_option maxHeartbeats 4000000 in
theorem gX0_turnComponent_46 {X : ga_X} {D : va_G} {cI cZ : ClassId} {K : Nat} {r : Nat} {σ0 : ga_S} {res : gx_Ch} {k2 : gx_Ch × Int × Int → Option (gx_Ch)} (C : ga_C X cX0_turnComponent yX0_turnComponent wsX0_turnComponent [] (gt_rm 4 84) (D, vwCl, cI, cZ) 3) (hRet : ∀ (pc : Nat) (lv : Nat → Option ga_V) (σ' : ga_S), decode cX0_turnComponent pc = .ok (.return_, 1) → (gx_W r res σ' ∧ gt_F r (r + 32) σ0 σ') → ga_G X 0 0 K pc lv [] σ') (hr0 : r ≠ 0) (hk2 : ∀ (a : gx_Ch × Int × Int) (σ : ga_S) (lv : Nat → Option ga_V), gx_W r a.1 σ → gt_F r (r + 32) σ0 σ → lv 0 = some (.inr r) → lv 1 = some (.inl a.2.1) → lv 2 = some (.inl a.2.2) → k2 a = some res → ga_G X 0 0 K 2 lv [] σ) {T : gx_Ch} {σ : ga_S} {l1 l2 s0 s1 s2 : Int} {lv : Nat → Option ga_V} (hW : gx_W r T σ) (hF : gt_F r (r + 32) σ0 σ) (hl0 : lv 0 = some (.inr r)) (hl1 : lv 1 = some (.inl l1)) (hl2 : lv 2 = some (.inl l2)) (h : fX0_turnComponent_46 k2 T l1 l2 s0 s1 s2 = some res) : ga_G X 0 0 K 46 lv [.inl s2, .inl s1, .inl s0, .inr (r + 1)] σ := by
  unfold fX0_turnComponent_46 at h
  obtain ⟨q46, hq, h⟩ := Option.bind_eq_some_iff.mp h
  refine gt_cVv (n := 3) (st := []) C (eX4_turnStrands X.2.1 D cI cZ K (Nat.succ_ne_zero _) hW.1 hq) gX0_turnComponent_X4_turnStrands rfl (by decide +kernel) rfl ⟨Nat.le_of_ble_eq_true rfl, Nat.le_of_ble_eq_true rfl⟩ hW.1.1 rfl rfl (Nat.le_of_ble_eq_true rfl) rfl dX0_turnComponent_46 (fun σ' hp => ?_)
  obtain ⟨hw, hf⟩ := hp
  have hW := gx_W0 hW hw hf
  have hF := hF.tr hf (by omega) (by omega)
  clear hf
  obtain ⟨hg, h⟩ := gt_gd h
  have g49_0 := hg
  refine ga_iinc C dX0_turnComponent_49 hl2 g49_0 ?_
  refine ga_goto (tgt := 2) C dX0_turnComponent_52 (by decide) ?_
  exact hk2 ((q46, T.2.1, T.2.2.1, T.2.2.2.1, T.2.2.2.2.1, T.2.2.2.2.2.1, T.2.2.2.2.2.2.1, T.2.2.2.2.2.2.2), l1, l2 + (1 : Int)) _ _ hW hF (gt_un (by decide) hl0) (gt_un (by decide) hl1) gt_us h
set_option maxHeartbeats 4000000 in
theorem gX0_turnComponent_32 {X : ga_X} {D : va_G} {cI cZ : ClassId} {K : Nat} {r : Nat} {σ0 : ga_S} {res : gx_Ch} {k2 : gx_Ch × Int × Int → Option (gx_Ch)} (C : ga_C X cX0_turnComponent yX0_turnComponent wsX0_turnComponent [] (gt_rm 4 84) (D, vwCl, cI, cZ) 3) (hRet : ∀ (pc : Nat) (lv : Nat → Option ga_V) (σ' : ga_S), decode cX0_turnComponent pc = .ok (.return_, 1) → (gx_W r res σ' ∧ gt_F r (r + 32) σ0 σ') → ga_G X 0 0 K pc lv [] σ') (hr0 : r ≠ 0) (hk2 : ∀ (a : gx_Ch × Int × Int) (σ : ga_S) (lv : Nat → Option ga_V), gx_W r a.1 σ → gt_F r (r + 32) σ0 σ → lv 0 = some (.inr r) → lv 1 = some (.inl a.2.1) → lv 2 = some (.inl a.2.2) → k2 a = some res → ga_G X 0 0 K 2 lv [] σ) {T : gx_Ch} {σ : ga_S} {l1 l2 s0 s1 : Int} {lv : Nat → Option ga_V} (hW : gx_W r T σ) (hF : gt_F r (r + 32) σ0 σ) (hl0 : lv 0 = some (.inr r)) (hl1 : lv 1 = some (.inl l1)) (hl2 : lv 2 = some (.inl l2)) (h : fX0_turnComponent_32 k2 T l1 l2 s0 s1 = some res) : ga_G X 0 0 K 32 lv [.inl s1, .inl s0, .inr (r + 1)] σ := by
  unfold fX0_turnComponent_32 at h
  refine ga_aload_n C dX0_turnComponent_32 rfl hl0 hr0 ?_
  refine ga_iload_n C dX0_turnComponent_33 rfl hl2 ?_
  obtain ⟨q34, hq, h⟩ := Option.bind_eq_some_iff.mp h
  refine gt_cVi (n := 1) (st := [.inl s1, .inl s0, .inr (r + 1)]) C (eX0_upperComponent X.2.1 D cI cZ K hr0 hW hq) gX0_turnComponent_X0_upperComponent rfl (by decide +kernel) rfl ⟨Nat.le_of_ble_eq_true rfl, Nat.le_of_ble_eq_true rfl⟩ hW.2.2.2.2.2.2.2.1 rfl rfl (Nat.le_of_ble_eq_true rfl) rfl dX0_turnComponent_34 (fun σ' hp => ?_)
  subst hp
  refine ga_iload_n C dX0_turnComponent_37 rfl hl1 ?_
  refine ga_icmp_ne (tgt := 45) C dX0_turnComponent_38 (by decide) (fun c1 => ?_) (fun c1 => ?_)
  · have h := gt_in h c1
    refine ga_iconst C dX0_turnComponent_45 ⟨by decide, by decide⟩ ?_
    exact gX0_turnComponent_46 C hRet hr0 hk2 hW hF hl0 hl1 hl2 h
  · have h := gt_ip h c1
    refine ga_iconst C dX0_turnComponent_41 ⟨by decide, by decide⟩ ?_
    refine ga_goto (tgt := 46) C dX0_turnComponent_42 (by decide) ?_
    exact gX0_turnComponent_46 C hRet hr0 hk2 hW hF hl0 hl1 hl2 h
set_option maxHeartbeats 4000000 in
theorem gX0_turnComponent_2 {X : ga_X} {D : va_G} {cI cZ : ClassId} {K : Nat} {r : Nat} {σ0 : ga_S} {res : gx_Ch} (C : ga_C X cX0_turnComponent yX0_turnComponent wsX0_turnComponent [] (gt_rm 4 84) (D, vwCl, cI, cZ) 3) (hRet : ∀ (pc : Nat) (lv : Nat → Option ga_V) (σ' : ga_S), decode cX0_turnComponent pc = .ok (.return_, 1) → (gx_W r res σ' ∧ gt_F r (r + 32) σ0 σ') → ga_G X 0 0 K pc lv [] σ') (hr0 : r ≠ 0) : ∀ (n : Nat) (a : gx_Ch × Int × Int) (σ : ga_S) (lv : Nat → Option ga_V), gx_W r a.1 σ → gt_F r (r + 32) σ0 σ → lv 0 = some (.inr r) → lv 1 = some (.inl a.2.1) → lv 2 = some (.inl a.2.2) → gt_loop (fX0_turnComponent_2) n a = some res → ga_G X 0 0 K 2 lv [] σ := by
  intro n
  induction n with
  | zero =>
    intro a _ lv _ _ _ _ _ h
    exact absurd (show (none : Option _) = some _ from h) (fun q => by cases q)
  | succ n hk2 =>
    intro a σ lv hW hF hl0 hl1 hl2 h
    have h : fX0_turnComponent_2 (gt_loop (fX0_turnComponent_2) n) a = some res := h
    revert hk2 h
    generalize gt_loop (fX0_turnComponent_2) n = k2
    intro hk2 h
    unfold fX0_turnComponent_2 at h
    refine ga_iload_n C dX0_turnComponent_2 rfl hl2 ?_
    refine ga_aload_n C dX0_turnComponent_3 rfl hl0 hr0 ?_
    refine gt_geta C (iX0_turnComponent_X0) hW.2.2.2.2.2.2.2 0 rfl rfl (by decide) kX0_turnComponent_12 dX0_turnComponent_4 ?_
    obtain ⟨q7, hq, h⟩ := Option.bind_eq_some_iff.mp h
    refine gt_cVi (n := 0) (st := [.inl a.2.2]) C (eX4_crossings X.2.1 D cI cZ K (Nat.succ_ne_zero _) hW.1 hq) gX0_turnComponent_X4_crossings rfl (by decide +kernel) rfl ⟨Nat.le_of_ble_eq_true rfl, Nat.le_of_ble_eq_true rfl⟩ hW.1.1 rfl rfl (Nat.le_of_ble_eq_true rfl) rfl dX0_turnComponent_7 (fun σ' hp => ?_)
    subst hp
    refine ga_icmp_ge (tgt := 55) C dX0_turnComponent_10 (by decide) (fun c1 => ?_) (fun c1 => ?_)
    · have h := gt_ip h c1
      cases h
      exact hRet _ _ _ dX0_turnComponent_55 ⟨hW, hF⟩
    · have h := gt_in h c1
      refine ga_aload_n C dX0_turnComponent_13 rfl hl0 hr0 ?_
      refine gt_geta C (iX0_turnComponent_X0) hW.2.2.2.2.2.2.2 0 rfl rfl (by decide) kX0_turnComponent_12 dX0_turnComponent_14 ?_
      refine ga_iload_n C dX0_turnComponent_17 rfl hl2 ?_
      refine ga_aload_n C dX0_turnComponent_18 rfl hl0 hr0 ?_
      refine ga_iload_n C dX0_turnComponent_19 rfl hl2 ?_
      obtain ⟨q20, hq, h⟩ := Option.bind_eq_some_iff.mp h
      refine gt_cVi (n := 1) (st := [.inl a.2.2, .inr (r + 1)]) C (eX0_lowerComponent X.2.1 D cI cZ K hr0 hW hq) gX0_turnComponent_X0_lowerComponent rfl (by decide +kernel) rfl ⟨Nat.le_of_ble_eq_true rfl, Nat.le_of_ble_eq_true rfl⟩ hW.2.2.2.2.2.2.2.1 rfl rfl (Nat.le_of_ble_eq_true rfl) rfl dX0_turnComponent_20 (fun σ' hp => ?_)
      subst hp
      refine ga_iload_n C dX0_turnComponent_23 rfl hl1 ?_
      refine ga_icmp_ne (tgt := 31) C dX0_turnComponent_24 (by decide) (fun c1 => ?_) (fun c1 => ?_)
      · have h := gt_in h c1
        refine ga_iconst C dX0_turnComponent_31 ⟨by decide, by decide⟩ ?_
        exact gX0_turnComponent_32 C hRet hr0 hk2 hW hF hl0 hl1 hl2 h
      · have h := gt_ip h c1
        refine ga_iconst C dX0_turnComponent_27 ⟨by decide, by decide⟩ ?_
        refine ga_goto (tgt := 32) C dX0_turnComponent_28 (by decide) ?_
        exact gX0_turnComponent_32 C hRet hr0 hk2 hW hF hl0 hl1 hl2 h
set_option maxHeartbeats 4000000 in
theorem gX0_turnComponent_0 {X : ga_X} {D : va_G} {cI cZ : ClassId} {K : Nat} {r : Nat} {σ0 : ga_S} {res : gx_Ch} (C : ga_C X cX0_turnComponent yX0_turnComponent wsX0_turnComponent [] (gt_rm 4 84) (D, vwCl, cI, cZ) 3) (hRet : ∀ (pc : Nat) (lv : Nat → Option ga_V) (σ' : ga_S), decode cX0_turnComponent pc = .ok (.return_, 1) → (gx_W r res σ' ∧ gt_F r (r + 32) σ0 σ') → ga_G X 0 0 K pc lv [] σ') (hr0 : r ≠ 0) {T : gx_Ch} {σ : ga_S} {l1 : Int} {lv : Nat → Option ga_V} (hW : gx_W r T σ) (hF : gt_F r (r + 32) σ0 σ) (hl0 : lv 0 = some (.inr r)) (hl1 : lv 1 = some (.inl l1)) (h : fX0_turnComponent T l1 = some res) : ga_G X 0 0 K 0 lv [] σ := by
  unfold fX0_turnComponent at h
  refine ga_iconst C dX0_turnComponent_0 ⟨by decide, by decide⟩ ?_
  refine ga_istore_n C dX0_turnComponent_1 rfl (by decide) ?_
  exact gX0_turnComponent_2 C hRet hr0 gt_fuel ((T.1, T.2.1, T.2.2.1, T.2.2.2.1, T.2.2.2.2.1, T.2.2.2.2.2.1, T.2.2.2.2.2.2.1, T.2.2.2.2.2.2.2), l1, (0 : Int)) _ _ hW hF (gt_un (by decide) hl0) (gt_un (by decide) hl1) gt_us h
set_option maxHeartbeats 4000000 in
theorem eX0_turnComponent (l : Launch) (D : va_G) (cI cZ : ClassId) (K : Nat) {r : Nat} (hr0 : r ≠ 0) {σ : ga_S} {T : gx_Ch} (hW : gx_W r T σ) {l1 : Int} {res : gx_Ch} (h : fX0_turnComponent T l1 = some res) : ga_Ev l (D, vwCl, cI, cZ) yX0_turnComponent wsX0_turnComponent (gt_rm 4 84) [] 0 0 K [.inr r, .inl l1] σ (fun σ' rv => (gx_W r res σ' ∧ gt_F r (r + 32) σ σ') ∧ rv = none) := by
  refine ga_ofV (by decide +kernel) rfl gt_hcl (Nat.le_of_ble_eq_true rfl) (fun X hX C hret => ?_)
  exact gX0_turnComponent_0 C (fun pc lv σ' d hp => hret pc lv σ' d ⟨hp, rfl⟩) hr0 hW gt_F.rf rfl rfl h
-- X0_chooseNewLabels: chooseNewLabels()V
def fX0_chooseNewLabels_57 (k4 : gx_Ch × Int × Int → Option (gx_Ch)) (k27 : gx_Ch × Int × Int × Int × Int → Option (gx_Ch)) (T : gx_Ch) (l1 l2 l3 l4 : Int) : Option (gx_Ch) :=
  (if (-2147483648 ≤ l1 + (1 : Int) ∧ l1 + (1 : Int) < 2147483648) then (fX3_next T.2.2.2.2.1 l3).bind (fun (q65 : Int) => (if (-2147483648 ≤ l4 + (1 : Int) ∧ l4 + (1 : Int) < 2147483648) then k27 ((T.1, T.2.1, T.2.2.1, T.2.2.2.1, T.2.2.2.2.1, T.2.2.2.2.2.1, T.2.2.2.2.2.2.1, T.2.2.2.2.2.2.2), l1 + (1 : Int), l2, q65, l4 + (1 : Int)) else none)) else none)
def fX0_chooseNewLabels_27 (k4 : gx_Ch × Int × Int → Option (gx_Ch)) (k27 : gx_Ch × Int × Int × Int × Int → Option (gx_Ch)) (a : gx_Ch × Int × Int × Int × Int) : Option (gx_Ch) :=
  (fX3_size a.1.2.2.2.2.1 a.2.2.1).bind (fun (q34 : Int) => (if q34 ≤ a.2.2.2.2 then (if (-2147483648 ≤ a.2.2.1 + (1 : Int) ∧ a.2.2.1 + (1 : Int) < 2147483648) then k4 ((a.1.1, a.1.2.1, a.1.2.2.1, a.1.2.2.2.1, a.1.2.2.2.2.1, a.1.2.2.2.2.2.1, a.1.2.2.2.2.2.2.1, a.1.2.2.2.2.2.2.2), a.2.1, a.2.2.1 + (1 : Int)) else none) else (if a.2.2.2.1 < 0 then fX0_chooseNewLabels_57 k4 k27 (a.1.1, a.1.2.1, a.1.2.2.1, a.1.2.2.2.1, a.1.2.2.2.2.1, a.1.2.2.2.2.2.1, a.1.2.2.2.2.2.2.1, a.1.2.2.2.2.2.2.2) a.2.1 a.2.2.1 a.2.2.2.1 a.2.2.2.2 else (if (40 : Int) ≤ a.2.2.2.1 then fX0_chooseNewLabels_57 k4 k27 (a.1.1, a.1.2.1, a.1.2.2.1, a.1.2.2.2.1, a.1.2.2.2.2.1, a.1.2.2.2.2.2.1, a.1.2.2.2.2.2.2.1, a.1.2.2.2.2.2.2.2) a.2.1 a.2.2.1 a.2.2.2.1 a.2.2.2.2 else (if (0 ≤ a.2.2.2.1 ∧ a.2.2.2.1 < 40) then fX0_chooseNewLabels_57 k4 k27 (a.1.1, a.1.2.1, a.1.2.2.1, a.1.2.2.2.1, a.1.2.2.2.2.1, a.1.2.2.2.2.2.1, a.1.2.2.2.2.2.2.1, (a.1.2.2.2.2.2.2.2.1, (va_up a.1.2.2.2.2.2.2.2.2 7 (va_up (a.1.2.2.2.2.2.2.2.2 7) a.2.2.2.1.toNat a.2.1)))) a.2.1 a.2.2.1 a.2.2.2.1 a.2.2.2.2 else none)))))
def fX0_chooseNewLabels_4 (k4 : gx_Ch × Int × Int → Option (gx_Ch)) (a : gx_Ch × Int × Int) : Option (gx_Ch) :=
  (fX3_count a.1.2.2.2.2.1).bind (fun (q9 : Int) => (if q9 ≤ a.2.2 then some (a.1.1, a.1.2.1, a.1.2.2.1, a.1.2.2.2.1, a.1.2.2.2.2.1, a.1.2.2.2.2.2.1, a.1.2.2.2.2.2.2.1, a.1.2.2.2.2.2.2.2) else (fX3_first a.1.2.2.2.2.1 a.2.2).bind (fun (q20 : Int) => gt_loop (fX0_chooseNewLabels_27 k4) gt_fuel ((a.1.1, a.1.2.1, a.1.2.2.1, a.1.2.2.2.1, a.1.2.2.2.2.1, a.1.2.2.2.2.2.1, a.1.2.2.2.2.2.2.1, a.1.2.2.2.2.2.2.2), a.2.1, a.2.2, q20, (0 : Int)))))
def fX0_chooseNewLabels (T : gx_Ch) : Option (gx_Ch) :=
  gt_loop (fX0_chooseNewLabels_4) gt_fuel ((T.1, T.2.1, T.2.2.1, T.2.2.2.1, T.2.2.2.2.1, T.2.2.2.2.2.1, T.2.2.2.2.2.2.1, T.2.2.2.2.2.2.2), (1 : Int), (0 : Int))
theorem iX0_chooseNewLabels_X0 : ∀ w ∈ u_ws RX0 TX0 9, w ∈ wsX0_chooseNewLabels := by decide +kernel
theorem kX0_chooseNewLabels_38 : Cond.fieldLink yX0_chooseNewLabels.cls 38 (TX0 4).1 (TX0 4).2.1 (TX0 4).2.2.1 ∈ wsX0_chooseNewLabels := by decide +kernel
theorem kX0_chooseNewLabels_48 : Cond.fieldLink yX0_chooseNewLabels.cls 48 (TX0 7).1 (TX0 7).2.1 (TX0 7).2.2.1 ∈ wsX0_chooseNewLabels := by decide +kernel
set_option maxHeartbeats 4000000 in
theorem gX0_chooseNewLabels_57 {X : ga_X} {D : va_G} {cI cZ : ClassId} {K : Nat} {r : Nat} {σ0 : ga_S} {res : gx_Ch} {k4 : gx_Ch × Int × Int → Option (gx_Ch)} {k27 : gx_Ch × Int × Int × Int × Int → Option (gx_Ch)} (C : ga_C X cX0_chooseNewLabels yX0_chooseNewLabels wsX0_chooseNewLabels [] (gt_rm 2 42) (D, vwCl, cI, cZ) 5) (hRet : ∀ (pc : Nat) (lv : Nat → Option ga_V) (σ' : ga_S), decode cX0_chooseNewLabels pc = .ok (.return_, 1) → (gx_W r res σ' ∧ gt_F r (r + 32) σ0 σ') → ga_G X 0 0 K pc lv [] σ') (hr0 : r ≠ 0) (hk4 : ∀ (a : gx_Ch × Int × Int) (σ : ga_S) (lv : Nat → Option ga_V), gx_W r a.1 σ → gt_F r (r + 32) σ0 σ → lv 0 = some (.inr r) → lv 1 = some (.inl a.2.1) → lv 2 = some (.inl a.2.2) → k4 a = some res → ga_G X 0 0 K 4 lv [] σ) (hk27 : ∀ (a : gx_Ch × Int × Int × Int × Int) (σ : ga_S) (lv : Nat → Option ga_V), gx_W r a.1 σ → gt_F r (r + 32) σ0 σ → lv 0 = some (.inr r) → lv 1 = some (.inl a.2.1) → lv 2 = some (.inl a.2.2.1) → lv 3 = some (.inl a.2.2.2.1) → lv 4 = some (.inl a.2.2.2.2) → k27 a = some res → ga_G X 0 0 K 27 lv [] σ) {T : gx_Ch} {σ : ga_S} {l1 l2 l3 l4 : Int} {lv : Nat → Option ga_V} (hW : gx_W r T σ) (hF : gt_F r (r + 32) σ0 σ) (hl0 : lv 0 = some (.inr r)) (hl1 : lv 1 = some (.inl l1)) (hl2 : lv 2 = some (.inl l2)) (hl3 : lv 3 = some (.inl l3)) (hl4 : lv 4 = some (.inl l4)) (h : fX0_chooseNewLabels_57 k4 k27 T l1 l2 l3 l4 = some res) : ga_G X 0 0 K 57 lv [] σ := by
  unfold fX0_chooseNewLabels_57 at h
  obtain ⟨hg, h⟩ := gt_gd h
  have g57_0 := hg
  refine ga_iinc C dX0_chooseNewLabels_57 hl1 g57_0 ?_
  refine ga_aload_n C dX0_chooseNewLabels_60 rfl (gt_un (by decide) hl0) hr0 ?_
  refine gt_geta C (iX0_chooseNewLabels_X0) hW.2.2.2.2.2.2.2 4 rfl rfl (by decide) kX0_chooseNewLabels_38 dX0_chooseNewLabels_61 ?_
  refine ga_iload_n C dX0_chooseNewLabels_64 rfl (gt_un (by decide) hl3) ?_
  obtain ⟨q65, hq, h⟩ := Option.bind_eq_some_iff.mp h
  refine gt_cVi (n := 1) (st := []) C (eX3_next X.2.1 D cI cZ K (Nat.succ_ne_zero _) hW.2.2.2.2.1 hq) gX0_chooseNewLabels_X3_next rfl (by decide +kernel) rfl ⟨Nat.le_of_ble_eq_true rfl, Nat.le_of_ble_eq_true rfl⟩ hW.2.2.2.2.1.1 rfl rfl (Nat.le_of_ble_eq_true rfl) rfl dX0_chooseNewLabels_65 (fun σ' hp => ?_)
  subst hp
  obtain ⟨hg, h⟩ := gt_gd h
  have g69_0 := hg
  refine ga_istore_n C dX0_chooseNewLabels_68 rfl (by decide) ?_
  refine ga_iinc C dX0_chooseNewLabels_69 (gt_un (by decide) (gt_un (by decide) hl4)) g69_0 ?_
  refine ga_goto (tgt := 27) C dX0_chooseNewLabels_72 (by decide) ?_
  exact hk27 ((T.1, T.2.1, T.2.2.1, T.2.2.2.1, T.2.2.2.2.1, T.2.2.2.2.2.1, T.2.2.2.2.2.2.1, T.2.2.2.2.2.2.2), l1 + (1 : Int), l2, q65, l4 + (1 : Int)) _ _ hW hF (gt_un (by decide) (gt_un (by decide) (gt_un (by decide) hl0))) (gt_un (by decide) (gt_un (by decide) gt_us)) (gt_un (by decide) (gt_un (by decide) (gt_un (by decide) hl2))) (gt_un (by decide) gt_us) gt_us h
set_option maxHeartbeats 4000000 in
theorem gX0_chooseNewLabels_27 {X : ga_X} {D : va_G} {cI cZ : ClassId} {K : Nat} {r : Nat} {σ0 : ga_S} {res : gx_Ch} {k4 : gx_Ch × Int × Int → Option (gx_Ch)} (C : ga_C X cX0_chooseNewLabels yX0_chooseNewLabels wsX0_chooseNewLabels [] (gt_rm 2 42) (D, vwCl, cI, cZ) 5) (hRet : ∀ (pc : Nat) (lv : Nat → Option ga_V) (σ' : ga_S), decode cX0_chooseNewLabels pc = .ok (.return_, 1) → (gx_W r res σ' ∧ gt_F r (r + 32) σ0 σ') → ga_G X 0 0 K pc lv [] σ') (hr0 : r ≠ 0) (hk4 : ∀ (a : gx_Ch × Int × Int) (σ : ga_S) (lv : Nat → Option ga_V), gx_W r a.1 σ → gt_F r (r + 32) σ0 σ → lv 0 = some (.inr r) → lv 1 = some (.inl a.2.1) → lv 2 = some (.inl a.2.2) → k4 a = some res → ga_G X 0 0 K 4 lv [] σ) : ∀ (n : Nat) (a : gx_Ch × Int × Int × Int × Int) (σ : ga_S) (lv : Nat → Option ga_V), gx_W r a.1 σ → gt_F r (r + 32) σ0 σ → lv 0 = some (.inr r) → lv 1 = some (.inl a.2.1) → lv 2 = some (.inl a.2.2.1) → lv 3 = some (.inl a.2.2.2.1) → lv 4 = some (.inl a.2.2.2.2) → gt_loop (fX0_chooseNewLabels_27 k4) n a = some res → ga_G X 0 0 K 27 lv [] σ := by
  intro n
  induction n with
  | zero =>
    intro a _ lv _ _ _ _ _ _ _ h
    exact absurd (show (none : Option _) = some _ from h) (fun q => by cases q)
  | succ n hk27 =>
    intro a σ lv hW hF hl0 hl1 hl2 hl3 hl4 h
    have h : fX0_chooseNewLabels_27 k4 (gt_loop (fX0_chooseNewLabels_27 k4) n) a = some res := h
    revert hk27 h
    generalize gt_loop (fX0_chooseNewLabels_27 k4) n = k27
    intro hk27 h
    unfold fX0_chooseNewLabels_27 at h
    refine ga_iload C dX0_chooseNewLabels_27 hl4 ?_
    refine ga_aload_n C dX0_chooseNewLabels_29 rfl hl0 hr0 ?_
    refine gt_geta C (iX0_chooseNewLabels_X0) hW.2.2.2.2.2.2.2 4 rfl rfl (by decide) kX0_chooseNewLabels_38 dX0_chooseNewLabels_30 ?_
    refine ga_iload_n C dX0_chooseNewLabels_33 rfl hl2 ?_
    obtain ⟨q34, hq, h⟩ := Option.bind_eq_some_iff.mp h
    refine gt_cVi (n := 1) (st := [.inl a.2.2.2.2]) C (eX3_size X.2.1 D cI cZ K (Nat.succ_ne_zero _) hW.2.2.2.2.1 hq) gX0_chooseNewLabels_X3_size rfl (by decide +kernel) rfl ⟨Nat.le_of_ble_eq_true rfl, Nat.le_of_ble_eq_true rfl⟩ hW.2.2.2.2.1.1 rfl rfl (Nat.le_of_ble_eq_true rfl) rfl dX0_chooseNewLabels_34 (fun σ' hp => ?_)
    subst hp
    refine ga_icmp_ge (tgt := 75) C dX0_chooseNewLabels_37 (by decide) (fun c1 => ?_) (fun c1 => ?_)
    · have h := gt_ip h c1
      obtain ⟨hg, h⟩ := gt_gd h
      have g75_0 := hg
      refine ga_iinc C dX0_chooseNewLabels_75 hl2 g75_0 ?_
      refine ga_goto (tgt := 4) C dX0_chooseNewLabels_78 (by decide) ?_
      exact hk4 ((a.1.1, a.1.2.1, a.1.2.2.1, a.1.2.2.2.1, a.1.2.2.2.2.1, a.1.2.2.2.2.2.1, a.1.2.2.2.2.2.2.1, a.1.2.2.2.2.2.2.2), a.2.1, a.2.2.1 + (1 : Int)) _ _ hW hF (gt_un (by decide) hl0) (gt_un (by decide) hl1) gt_us h
    · have h := gt_in h c1
      refine ga_iload_n C dX0_chooseNewLabels_40 rfl hl3 ?_
      refine ga_if_lt (tgt := 57) C dX0_chooseNewLabels_41 (by decide) (fun c1 => ?_) (fun c1 => ?_)
      · have h := gt_ip h c1
        exact gX0_chooseNewLabels_57 C hRet hr0 hk4 hk27 hW hF hl0 hl1 hl2 hl3 hl4 h
      · have h := gt_in h c1
        refine ga_iload_n C dX0_chooseNewLabels_44 rfl hl3 ?_
        refine ga_bipush C dX0_chooseNewLabels_45 ⟨by decide, by decide⟩ (by decide) ?_
        refine ga_icmp_ge (tgt := 57) C dX0_chooseNewLabels_47 (by decide) (fun c1 => ?_) (fun c1 => ?_)
        · have h := gt_ip h c1
          exact gX0_chooseNewLabels_57 C hRet hr0 hk4 hk27 hW hF hl0 hl1 hl2 hl3 hl4 h
        · have h := gt_in h c1
          obtain ⟨hg, h⟩ := gt_gd h
          have g56_0 := hg
          refine ga_aload_n C dX0_chooseNewLabels_50 rfl hl0 hr0 ?_
          refine gt_geta C (iX0_chooseNewLabels_X0) hW.2.2.2.2.2.2.2 7 rfl rfl (by decide) kX0_chooseNewLabels_48 dX0_chooseNewLabels_51 ?_
          refine ga_iload_n C dX0_chooseNewLabels_54 rfl hl3 ?_
          refine ga_iload_n C dX0_chooseNewLabels_55 rfl hl1 ?_
          refine gx_astw C hW hF g56_0.1 g56_0.2 dX0_chooseNewLabels_56 (fun σ hW hF => ?_)
          exact gX0_chooseNewLabels_57 C hRet hr0 hk4 hk27 hW hF hl0 hl1 hl2 hl3 hl4 h
set_option maxHeartbeats 4000000 in
theorem gX0_chooseNewLabels_4 {X : ga_X} {D : va_G} {cI cZ : ClassId} {K : Nat} {r : Nat} {σ0 : ga_S} {res : gx_Ch} (C : ga_C X cX0_chooseNewLabels yX0_chooseNewLabels wsX0_chooseNewLabels [] (gt_rm 2 42) (D, vwCl, cI, cZ) 5) (hRet : ∀ (pc : Nat) (lv : Nat → Option ga_V) (σ' : ga_S), decode cX0_chooseNewLabels pc = .ok (.return_, 1) → (gx_W r res σ' ∧ gt_F r (r + 32) σ0 σ') → ga_G X 0 0 K pc lv [] σ') (hr0 : r ≠ 0) : ∀ (n : Nat) (a : gx_Ch × Int × Int) (σ : ga_S) (lv : Nat → Option ga_V), gx_W r a.1 σ → gt_F r (r + 32) σ0 σ → lv 0 = some (.inr r) → lv 1 = some (.inl a.2.1) → lv 2 = some (.inl a.2.2) → gt_loop (fX0_chooseNewLabels_4) n a = some res → ga_G X 0 0 K 4 lv [] σ := by
  intro n
  induction n with
  | zero =>
    intro a _ lv _ _ _ _ _ h
    exact absurd (show (none : Option _) = some _ from h) (fun q => by cases q)
  | succ n hk4 =>
    intro a σ lv hW hF hl0 hl1 hl2 h
    have h : fX0_chooseNewLabels_4 (gt_loop (fX0_chooseNewLabels_4) n) a = some res := h
    revert hk4 h
    generalize gt_loop (fX0_chooseNewLabels_4) n = k4
    intro hk4 h
    unfold fX0_chooseNewLabels_4 at h
    refine ga_iload_n C dX0_chooseNewLabels_4 rfl hl2 ?_
    refine ga_aload_n C dX0_chooseNewLabels_5 rfl hl0 hr0 ?_
    refine gt_geta C (iX0_chooseNewLabels_X0) hW.2.2.2.2.2.2.2 4 rfl rfl (by decide) kX0_chooseNewLabels_38 dX0_chooseNewLabels_6 ?_
    obtain ⟨q9, hq, h⟩ := Option.bind_eq_some_iff.mp h
    refine gt_cVi (n := 0) (st := [.inl a.2.2]) C (eX3_count X.2.1 D cI cZ K (Nat.succ_ne_zero _) hW.2.2.2.2.1 hq) gX0_chooseNewLabels_X3_count rfl (by decide +kernel) rfl ⟨Nat.le_of_ble_eq_true rfl, Nat.le_of_ble_eq_true rfl⟩ hW.2.2.2.2.1.1 rfl rfl (Nat.le_of_ble_eq_true rfl) rfl dX0_chooseNewLabels_9 (fun σ' hp => ?_)
    subst hp
    refine ga_icmp_ge (tgt := 81) C dX0_chooseNewLabels_12 (by decide) (fun c1 => ?_) (fun c1 => ?_)
    · have h := gt_ip h c1
      cases h
      exact hRet _ _ _ dX0_chooseNewLabels_81 ⟨hW, hF⟩
    · have h := gt_in h c1
      refine ga_aload_n C dX0_chooseNewLabels_15 rfl hl0 hr0 ?_
      refine gt_geta C (iX0_chooseNewLabels_X0) hW.2.2.2.2.2.2.2 4 rfl rfl (by decide) kX0_chooseNewLabels_38 dX0_chooseNewLabels_16 ?_
      refine ga_iload_n C dX0_chooseNewLabels_19 rfl hl2 ?_
      obtain ⟨q20, hq, h⟩ := Option.bind_eq_some_iff.mp h
      refine gt_cVi (n := 1) (st := []) C (eX3_first X.2.1 D cI cZ K (Nat.succ_ne_zero _) hW.2.2.2.2.1 hq) gX0_chooseNewLabels_X3_first rfl (by decide +kernel) rfl ⟨Nat.le_of_ble_eq_true rfl, Nat.le_of_ble_eq_true rfl⟩ hW.2.2.2.2.1.1 rfl rfl (Nat.le_of_ble_eq_true rfl) rfl dX0_chooseNewLabels_20 (fun σ' hp => ?_)
      subst hp
      refine ga_istore_n C dX0_chooseNewLabels_23 rfl (by decide) ?_
      refine ga_iconst C dX0_chooseNewLabels_24 ⟨by decide, by decide⟩ ?_
      refine ga_istore C dX0_chooseNewLabels_25 (by decide) ?_
      exact gX0_chooseNewLabels_27 C hRet hr0 hk4 gt_fuel ((a.1.1, a.1.2.1, a.1.2.2.1, a.1.2.2.2.1, a.1.2.2.2.2.1, a.1.2.2.2.2.2.1, a.1.2.2.2.2.2.2.1, a.1.2.2.2.2.2.2.2), a.2.1, a.2.2, q20, (0 : Int)) _ _ hW hF (gt_un (by decide) (gt_un (by decide) hl0)) (gt_un (by decide) (gt_un (by decide) hl1)) (gt_un (by decide) (gt_un (by decide) hl2)) (gt_un (by decide) gt_us) gt_us h
set_option maxHeartbeats 4000000 in
theorem gX0_chooseNewLabels_0 {X : ga_X} {D : va_G} {cI cZ : ClassId} {K : Nat} {r : Nat} {σ0 : ga_S} {res : gx_Ch} (C : ga_C X cX0_chooseNewLabels yX0_chooseNewLabels wsX0_chooseNewLabels [] (gt_rm 2 42) (D, vwCl, cI, cZ) 5) (hRet : ∀ (pc : Nat) (lv : Nat → Option ga_V) (σ' : ga_S), decode cX0_chooseNewLabels pc = .ok (.return_, 1) → (gx_W r res σ' ∧ gt_F r (r + 32) σ0 σ') → ga_G X 0 0 K pc lv [] σ') (hr0 : r ≠ 0) {T : gx_Ch} {σ : ga_S} {lv : Nat → Option ga_V} (hW : gx_W r T σ) (hF : gt_F r (r + 32) σ0 σ) (hl0 : lv 0 = some (.inr r)) (h : fX0_chooseNewLabels T = some res) : ga_G X 0 0 K 0 lv [] σ := by
  unfold fX0_chooseNewLabels at h
  refine ga_iconst C dX0_chooseNewLabels_0 ⟨by decide, by decide⟩ ?_
  refine ga_istore_n C dX0_chooseNewLabels_1 rfl (by decide) ?_
  refine ga_iconst C dX0_chooseNewLabels_2 ⟨by decide, by decide⟩ ?_
  refine ga_istore_n C dX0_chooseNewLabels_3 rfl (by decide) ?_
  exact gX0_chooseNewLabels_4 C hRet hr0 gt_fuel ((T.1, T.2.1, T.2.2.1, T.2.2.2.1, T.2.2.2.2.1, T.2.2.2.2.2.1, T.2.2.2.2.2.2.1, T.2.2.2.2.2.2.2), (1 : Int), (0 : Int)) _ _ hW hF (gt_un (by decide) (gt_un (by decide) hl0)) (gt_un (by decide) gt_us) gt_us h
set_option maxHeartbeats 4000000 in
theorem eX0_chooseNewLabels (l : Launch) (D : va_G) (cI cZ : ClassId) (K : Nat) {r : Nat} (hr0 : r ≠ 0) {σ : ga_S} {T : gx_Ch} (hW : gx_W r T σ) {res : gx_Ch} (h : fX0_chooseNewLabels T = some res) : ga_Ev l (D, vwCl, cI, cZ) yX0_chooseNewLabels wsX0_chooseNewLabels (gt_rm 2 42) [] 0 0 K [.inr r] σ (fun σ' rv => (gx_W r res σ' ∧ gt_F r (r + 32) σ σ') ∧ rv = none) := by
  refine ga_ofV (by decide +kernel) rfl gt_hcl (Nat.le_of_ble_eq_true rfl) (fun X hX C hret => ?_)
  exact gX0_chooseNewLabels_0 C (fun pc lv σ' d hp => hret pc lv σ' d ⟨hp, rfl⟩) hr0 hW gt_F.rf rfl h
-- X0_labelAnew: labelAnew()V
def fX0_labelAnew_50 (k6 : gx_Ch × Int → Option (gx_Ch)) (T : gx_Ch) (l1 : Int) : Option (gx_Ch) :=
  (if (-2147483648 ≤ l1 + (1 : Int) ∧ l1 + (1 : Int) < 2147483648) then k6 ((T.1, T.2.1, T.2.2.1, T.2.2.2.1, T.2.2.2.2.1, T.2.2.2.2.2.1, T.2.2.2.2.2.2.1, T.2.2.2.2.2.2.2), l1 + (1 : Int)) else none)
def fX0_labelAnew_6 (k6 : gx_Ch × Int → Option (gx_Ch)) (a : gx_Ch × Int) : Option (gx_Ch) :=
  (fX4_spots a.1.1).bind (fun (q11 : Int) => (if q11 ≤ a.2 then some (a.1.1, a.1.2.1, a.1.2.2.1, a.1.2.2.2.1, a.1.2.2.2.2.1, a.1.2.2.2.2.2.1, a.1.2.2.2.2.2.2.1, a.1.2.2.2.2.2.2.2) else (fX1_at a.1.2.1 a.2).bind (fun (q22 : Int) => (if q22 < 0 then fX0_labelAnew_50 k6 (a.1.1, a.1.2.1, a.1.2.2.1, a.1.2.2.2.1, a.1.2.2.2.2.1, a.1.2.2.2.2.2.1, a.1.2.2.2.2.2.2.1, a.1.2.2.2.2.2.2.2) a.2 else (if (40 : Int) ≤ q22 then fX0_labelAnew_50 k6 (a.1.1, a.1.2.1, a.1.2.2.1, a.1.2.2.2.1, a.1.2.2.2.2.1, a.1.2.2.2.2.2.1, a.1.2.2.2.2.2.2.1, a.1.2.2.2.2.2.2.2) a.2 else (if (0 ≤ q22 ∧ q22 < 40) then (fX4_setLabel a.1.1 a.2 (a.1.2.2.2.2.2.2.2.2 7 q22.toNat)).bind (fun (q47 : gt_T) => fX0_labelAnew_50 k6 (q47, a.1.2.1, a.1.2.2.1, a.1.2.2.2.1, a.1.2.2.2.2.1, a.1.2.2.2.2.2.1, a.1.2.2.2.2.2.2.1, a.1.2.2.2.2.2.2.2) a.2) else none))))))
def fX0_labelAnew (T : gx_Ch) : Option (gx_Ch) :=
  (fX0_chooseNewLabels (T.1, T.2.1, T.2.2.1, T.2.2.2.1, T.2.2.2.2.1, T.2.2.2.2.2.1, T.2.2.2.2.2.2.1, T.2.2.2.2.2.2.2)).bind (fun (q1 : gx_Ch) => gt_loop (fX0_labelAnew_6) gt_fuel ((q1.1, q1.2.1, q1.2.2.1, q1.2.2.2.1, q1.2.2.2.2.1, q1.2.2.2.2.2.1, q1.2.2.2.2.2.2.1, q1.2.2.2.2.2.2.2), (0 : Int)))
theorem iX0_labelAnew_X0 : ∀ w ∈ u_ws RX0 TX0 9, w ∈ wsX0_labelAnew := by decide +kernel
theorem kX0_labelAnew_12 : Cond.fieldLink yX0_labelAnew.cls 12 (TX0 0).1 (TX0 0).2.1 (TX0 0).2.2.1 ∈ wsX0_labelAnew := by decide +kernel
theorem kX0_labelAnew_21 : Cond.fieldLink yX0_labelAnew.cls 21 (TX0 1).1 (TX0 1).2.1 (TX0 1).2.2.1 ∈ wsX0_labelAnew := by decide +kernel
theorem kX0_labelAnew_48 : Cond.fieldLink yX0_labelAnew.cls 48 (TX0 7).1 (TX0 7).2.1 (TX0 7).2.2.1 ∈ wsX0_labelAnew := by decide +kernel
set_option maxHeartbeats 4000000 in
theorem gX0_labelAnew_50 {X : ga_X} {D : va_G} {cI cZ : ClassId} {K : Nat} {r : Nat} {σ0 : ga_S} {res : gx_Ch} {k6 : gx_Ch × Int → Option (gx_Ch)} (C : ga_C X cX0_labelAnew yX0_labelAnew wsX0_labelAnew [] (gt_rm 3 66) (D, vwCl, cI, cZ) 3) (hRet : ∀ (pc : Nat) (lv : Nat → Option ga_V) (σ' : ga_S), decode cX0_labelAnew pc = .ok (.return_, 1) → (gx_W r res σ' ∧ gt_F r (r + 32) σ0 σ') → ga_G X 0 0 K pc lv [] σ') (hr0 : r ≠ 0) (hk6 : ∀ (a : gx_Ch × Int) (σ : ga_S) (lv : Nat → Option ga_V), gx_W r a.1 σ → gt_F r (r + 32) σ0 σ → lv 0 = some (.inr r) → lv 1 = some (.inl a.2) → k6 a = some res → ga_G X 0 0 K 6 lv [] σ) {T : gx_Ch} {σ : ga_S} {l1 : Int} {lv : Nat → Option ga_V} (hW : gx_W r T σ) (hF : gt_F r (r + 32) σ0 σ) (hl0 : lv 0 = some (.inr r)) (hl1 : lv 1 = some (.inl l1)) (h : fX0_labelAnew_50 k6 T l1 = some res) : ga_G X 0 0 K 50 lv [] σ := by
  unfold fX0_labelAnew_50 at h
  obtain ⟨hg, h⟩ := gt_gd h
  have g50_0 := hg
  refine ga_iinc C dX0_labelAnew_50 hl1 g50_0 ?_
  refine ga_goto (tgt := 6) C dX0_labelAnew_53 (by decide) ?_
  exact hk6 ((T.1, T.2.1, T.2.2.1, T.2.2.2.1, T.2.2.2.2.1, T.2.2.2.2.2.1, T.2.2.2.2.2.2.1, T.2.2.2.2.2.2.2), l1 + (1 : Int)) _ _ hW hF (gt_un (by decide) hl0) gt_us h
set_option maxHeartbeats 4000000 in
theorem gX0_labelAnew_6 {X : ga_X} {D : va_G} {cI cZ : ClassId} {K : Nat} {r : Nat} {σ0 : ga_S} {res : gx_Ch} (C : ga_C X cX0_labelAnew yX0_labelAnew wsX0_labelAnew [] (gt_rm 3 66) (D, vwCl, cI, cZ) 3) (hRet : ∀ (pc : Nat) (lv : Nat → Option ga_V) (σ' : ga_S), decode cX0_labelAnew pc = .ok (.return_, 1) → (gx_W r res σ' ∧ gt_F r (r + 32) σ0 σ') → ga_G X 0 0 K pc lv [] σ') (hr0 : r ≠ 0) : ∀ (n : Nat) (a : gx_Ch × Int) (σ : ga_S) (lv : Nat → Option ga_V), gx_W r a.1 σ → gt_F r (r + 32) σ0 σ → lv 0 = some (.inr r) → lv 1 = some (.inl a.2) → gt_loop (fX0_labelAnew_6) n a = some res → ga_G X 0 0 K 6 lv [] σ := by
  intro n
  induction n with
  | zero =>
    intro a _ lv _ _ _ _ h
    exact absurd (show (none : Option _) = some _ from h) (fun q => by cases q)
  | succ n hk6 =>
    intro a σ lv hW hF hl0 hl1 h
    have h : fX0_labelAnew_6 (gt_loop (fX0_labelAnew_6) n) a = some res := h
    revert hk6 h
    generalize gt_loop (fX0_labelAnew_6) n = k6
    intro hk6 h
    unfold fX0_labelAnew_6 at h
    refine ga_iload_n C dX0_labelAnew_6 rfl hl1 ?_
    refine ga_aload_n C dX0_labelAnew_7 rfl hl0 hr0 ?_
    refine gt_geta C (iX0_labelAnew_X0) hW.2.2.2.2.2.2.2 0 rfl rfl (by decide) kX0_labelAnew_12 dX0_labelAnew_8 ?_
    obtain ⟨q11, hq, h⟩ := Option.bind_eq_some_iff.mp h
    refine gt_cVi (n := 0) (st := [.inl a.2]) C (eX4_spots X.2.1 D cI cZ K (Nat.succ_ne_zero _) hW.1 hq) gX0_labelAnew_X4_spots rfl (by decide +kernel) rfl ⟨Nat.le_of_ble_eq_true rfl, Nat.le_of_ble_eq_true rfl⟩ hW.1.1 rfl rfl (Nat.le_of_ble_eq_true rfl) rfl dX0_labelAnew_11 (fun σ' hp => ?_)
    subst hp
    refine ga_icmp_ge (tgt := 56) C dX0_labelAnew_14 (by decide) (fun c1 => ?_) (fun c1 => ?_)
    · have h := gt_ip h c1
      cases h
      exact hRet _ _ _ dX0_labelAnew_56 ⟨hW, hF⟩
    · have h := gt_in h c1
      refine ga_aload_n C dX0_labelAnew_17 rfl hl0 hr0 ?_
      refine gt_geta C (iX0_labelAnew_X0) hW.2.2.2.2.2.2.2 1 rfl rfl (by decide) kX0_labelAnew_21 dX0_labelAnew_18 ?_
      refine ga_iload_n C dX0_labelAnew_21 rfl hl1 ?_
      obtain ⟨q22, hq, h⟩ := Option.bind_eq_some_iff.mp h
      refine gt_cVi (n := 1) (st := []) C (eX1_at X.2.1 D cI cZ K (Nat.succ_ne_zero _) hW.2.1 hq) gX0_labelAnew_X1_at rfl (by decide +kernel) rfl ⟨Nat.le_of_ble_eq_true rfl, Nat.le_of_ble_eq_true rfl⟩ hW.2.1.1 rfl rfl (Nat.le_of_ble_eq_true rfl) rfl dX0_labelAnew_22 (fun σ' hp => ?_)
      subst hp
      refine ga_istore_n C dX0_labelAnew_25 rfl (by decide) ?_
      refine ga_iload_n C dX0_labelAnew_26 rfl gt_us ?_
      refine ga_if_lt (tgt := 50) C dX0_labelAnew_27 (by decide) (fun c1 => ?_) (fun c1 => ?_)
      · have h := gt_ip h c1
        exact gX0_labelAnew_50 C hRet hr0 hk6 hW hF (gt_un (by decide) hl0) (gt_un (by decide) hl1) h
      · have h := gt_in h c1
        refine ga_iload_n C dX0_labelAnew_30 rfl gt_us ?_
        refine ga_bipush C dX0_labelAnew_31 ⟨by decide, by decide⟩ (by decide) ?_
        refine ga_icmp_ge (tgt := 50) C dX0_labelAnew_33 (by decide) (fun c1 => ?_) (fun c1 => ?_)
        · have h := gt_ip h c1
          exact gX0_labelAnew_50 C hRet hr0 hk6 hW hF (gt_un (by decide) hl0) (gt_un (by decide) hl1) h
        · have h := gt_in h c1
          obtain ⟨hg, h⟩ := gt_gd h
          have g46_0 := hg
          refine ga_aload_n C dX0_labelAnew_36 rfl (gt_un (by decide) hl0) hr0 ?_
          refine gt_geta C (iX0_labelAnew_X0) hW.2.2.2.2.2.2.2 0 rfl rfl (by decide) kX0_labelAnew_12 dX0_labelAnew_37 ?_
          refine ga_iload_n C dX0_labelAnew_40 rfl (gt_un (by decide) hl1) ?_
          refine ga_aload_n C dX0_labelAnew_41 rfl (gt_un (by decide) hl0) hr0 ?_
          refine gt_geta C (iX0_labelAnew_X0) hW.2.2.2.2.2.2.2 7 rfl rfl (by decide) kX0_labelAnew_48 dX0_labelAnew_42 ?_
          refine ga_iload_n C dX0_labelAnew_45 rfl gt_us ?_
          refine gt_iald C hW.2.2.2.2.2.2.2 7 rfl g46_0.1 g46_0.2 dX0_labelAnew_46 ?_
          obtain ⟨q47, hq, h⟩ := Option.bind_eq_some_iff.mp h
          refine gt_cVv (n := 2) (st := []) C (eX4_setLabel X.2.1 D cI cZ K (Nat.succ_ne_zero _) hW.1 hq) gX0_labelAnew_X4_setLabel rfl (by decide +kernel) rfl ⟨Nat.le_of_ble_eq_true rfl, Nat.le_of_ble_eq_true rfl⟩ hW.1.1 rfl rfl (Nat.le_of_ble_eq_true rfl) rfl dX0_labelAnew_47 (fun σ' hp => ?_)
          obtain ⟨hw, hf⟩ := hp
          have hW := gx_W0 hW hw hf
          have hF := hF.tr hf (by omega) (by omega)
          clear hf
          exact gX0_labelAnew_50 C hRet hr0 hk6 hW hF (gt_un (by decide) hl0) (gt_un (by decide) hl1) h
set_option maxHeartbeats 4000000 in
theorem gX0_labelAnew_0 {X : ga_X} {D : va_G} {cI cZ : ClassId} {K : Nat} {r : Nat} {σ0 : ga_S} {res : gx_Ch} (C : ga_C X cX0_labelAnew yX0_labelAnew wsX0_labelAnew [] (gt_rm 3 66) (D, vwCl, cI, cZ) 3) (hRet : ∀ (pc : Nat) (lv : Nat → Option ga_V) (σ' : ga_S), decode cX0_labelAnew pc = .ok (.return_, 1) → (gx_W r res σ' ∧ gt_F r (r + 32) σ0 σ') → ga_G X 0 0 K pc lv [] σ') (hr0 : r ≠ 0) {T : gx_Ch} {σ : ga_S} {lv : Nat → Option ga_V} (hW : gx_W r T σ) (hF : gt_F r (r + 32) σ0 σ) (hl0 : lv 0 = some (.inr r)) (h : fX0_labelAnew T = some res) : ga_G X 0 0 K 0 lv [] σ := by
  unfold fX0_labelAnew at h
  refine ga_aload_n C dX0_labelAnew_0 rfl hl0 hr0 ?_
  obtain ⟨q1, hq, h⟩ := Option.bind_eq_some_iff.mp h
  refine gt_cVv (n := 0) (st := []) C (eX0_chooseNewLabels X.2.1 D cI cZ K hr0 hW hq) gX0_labelAnew_X0_chooseNewLabels rfl (by decide +kernel) rfl ⟨Nat.le_of_ble_eq_true rfl, Nat.le_of_ble_eq_true rfl⟩ hW.2.2.2.2.2.2.2.1 rfl rfl (Nat.le_of_ble_eq_true rfl) rfl dX0_labelAnew_1 (fun σ' hp => ?_)
  obtain ⟨hw, hf⟩ := hp
  have hF := hF.tr hf (Nat.le_refl _) (Nat.le_refl _)
  have hW := hw
  clear hf
  refine ga_iconst C dX0_labelAnew_4 ⟨by decide, by decide⟩ ?_
  refine ga_istore_n C dX0_labelAnew_5 rfl (by decide) ?_
  exact gX0_labelAnew_6 C hRet hr0 gt_fuel ((q1.1, q1.2.1, q1.2.2.1, q1.2.2.2.1, q1.2.2.2.2.1, q1.2.2.2.2.2.1, q1.2.2.2.2.2.2.1, q1.2.2.2.2.2.2.2), (0 : Int)) _ _ hW hF (gt_un (by decide) hl0) gt_us h
set_option maxHeartbeats 4000000 in
theorem eX0_labelAnew (l : Launch) (D : va_G) (cI cZ : ClassId) (K : Nat) {r : Nat} (hr0 : r ≠ 0) {σ : ga_S} {T : gx_Ch} (hW : gx_W r T σ) {res : gx_Ch} (h : fX0_labelAnew T = some res) : ga_Ev l (D, vwCl, cI, cZ) yX0_labelAnew wsX0_labelAnew (gt_rm 3 66) [] 0 0 K [.inr r] σ (fun σ' rv => (gx_W r res σ' ∧ gt_F r (r + 32) σ σ') ∧ rv = none) := by
  refine ga_ofV (by decide +kernel) rfl gt_hcl (Nat.le_of_ble_eq_true rfl) (fun X hX C hret => ?_)
  exact gX0_labelAnew_0 C (fun pc lv σ' d hp => hret pc lv σ' d ⟨hp, rfl⟩) hr0 hW gt_F.rf rfl h
