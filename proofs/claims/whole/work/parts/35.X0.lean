-- X0_wrong: wrong()I
def fX0_wrong (T : gx_Ch) : Option (Int) :=
  some (T.2.2.2.2.2.2.2.1 8)
theorem iX0_wrong_X0 : ∀ w ∈ u_ws RX0 TX0 9, w ∈ wsX0_wrong := by decide +kernel
theorem kX0_wrong_52 : Cond.fieldLink yX0_wrong.cls 52 (TX0 8).1 (TX0 8).2.1 (TX0 8).2.2.1 ∈ wsX0_wrong := by decide +kernel
set_option maxHeartbeats 4000000 in
theorem gX0_wrong_0 {X : ga_X} {D : va_G} {cI cZ : ClassId} {K : Nat} {r : Nat} {res : Int} {T : gx_Ch} {σ : ga_S} (C : ga_C X cX0_wrong yX0_wrong wsX0_wrong [] (gt_rm 0 0) (D, vwCl, cI, cZ) 1) (hRet : ∀ (pc : Nat) (lv : Nat → Option ga_V) (σ' : ga_S) (z : Int), decode cX0_wrong pc = .ok (.ireturn, 1) → z = res → (σ' = σ) → ga_G X 0 0 K pc lv [.inl z] σ') (hr0 : r ≠ 0) {lv : Nat → Option ga_V} (hW : gx_W r T σ) (hl0 : lv 0 = some (.inr r)) (h : fX0_wrong T = some res) : ga_G X 0 0 K 0 lv [] σ := by
  unfold fX0_wrong at h
  refine ga_aload_n C dX0_wrong_0 rfl hl0 hr0 ?_
  refine gt_geti C (iX0_wrong_X0) hW.2.2.2.2.2.2.2 8 rfl rfl (by decide) kX0_wrong_52 dX0_wrong_1 ?_
  cases h
  exact hRet _ _ _ _ dX0_wrong_4 rfl rfl
set_option maxHeartbeats 4000000 in
theorem eX0_wrong (l : Launch) (D : va_G) (cI cZ : ClassId) (K : Nat) {r : Nat} (hr0 : r ≠ 0) {σ : ga_S} {T : gx_Ch} (hW : gx_W r T σ) {res : Int} (h : fX0_wrong T = some res) : ga_Ev l (D, vwCl, cI, cZ) yX0_wrong wsX0_wrong (gt_rm 0 0) [] 0 0 K [.inr r] σ (fun σ' rv => (σ' = σ) ∧ rv = some (.inl res)) := by
  refine ga_ofI (by decide +kernel) rfl gt_hcl (Nat.le_of_ble_eq_true rfl) (fun X hX C hret => ?_)
  exact gX0_wrong_0 C (fun pc lv σ' z d hz hp => hret pc lv σ' z d ⟨hp, by rw [hz]⟩) hr0 hW rfl h
-- X0_groupPieces: groupPieces()V
def fX0_groupPieces_16 (k16 : gx_Ch × Int → Option (gx_Ch)) (a : gx_Ch × Int) : Option (gx_Ch) :=
  (fX1_count a.1.2.1).bind (fun (q21 : Int) => (if q21 ≤ a.2 then (fX2_numberGroups a.1.2.2.1).bind (fun (q64 : gt_T) => some (a.1.1, a.1.2.1, q64, a.1.2.2.2.1, a.1.2.2.2.2.1, a.1.2.2.2.2.2.1, a.1.2.2.2.2.2.2.1, a.1.2.2.2.2.2.2.2)) else (fX1_from a.1.2.1 a.2).bind (fun (q36 : Int) => (fX1_to a.1.2.1 a.2).bind (fun (q46 : Int) => (fX2_join a.1.2.2.1 (Int.tdiv q36 (4 : Int)) (Int.tdiv q46 (4 : Int))).bind (fun (q51 : gt_T) => (if (-2147483648 ≤ a.2 + (1 : Int) ∧ a.2 + (1 : Int) < 2147483648) then k16 ((a.1.1, a.1.2.1, q51, a.1.2.2.2.1, a.1.2.2.2.2.1, a.1.2.2.2.2.2.1, a.1.2.2.2.2.2.2.1, a.1.2.2.2.2.2.2.2), a.2 + (1 : Int)) else none))))))
def fX0_groupPieces (T : gx_Ch) : Option (gx_Ch) :=
  (fX4_crossings T.1).bind (fun (q8 : Int) => (fX2_begin T.2.2.1 q8).bind (fun (q11 : gt_T) => gt_loop (fX0_groupPieces_16) gt_fuel ((T.1, T.2.1, q11, T.2.2.2.1, T.2.2.2.2.1, T.2.2.2.2.2.1, T.2.2.2.2.2.2.1, T.2.2.2.2.2.2.2), (0 : Int))))
theorem iX0_groupPieces_X0 : ∀ w ∈ u_ws RX0 TX0 9, w ∈ wsX0_groupPieces := by decide +kernel
theorem kX0_groupPieces_12 : Cond.fieldLink yX0_groupPieces.cls 12 (TX0 0).1 (TX0 0).2.1 (TX0 0).2.2.1 ∈ wsX0_groupPieces := by decide +kernel
theorem kX0_groupPieces_21 : Cond.fieldLink yX0_groupPieces.cls 21 (TX0 1).1 (TX0 1).2.1 (TX0 1).2.2.1 ∈ wsX0_groupPieces := by decide +kernel
theorem kX0_groupPieces_28 : Cond.fieldLink yX0_groupPieces.cls 28 (TX0 2).1 (TX0 2).2.1 (TX0 2).2.2.1 ∈ wsX0_groupPieces := by decide +kernel
set_option maxHeartbeats 4000000 in
theorem gX0_groupPieces_16 {X : ga_X} {D : va_G} {cI cZ : ClassId} {K : Nat} {r : Nat} {σ0 : ga_S} {res : gx_Ch} (C : ga_C X cX0_groupPieces yX0_groupPieces wsX0_groupPieces [] (gt_rm 3 67) (D, vwCl, cI, cZ) 2) (hRet : ∀ (pc : Nat) (lv : Nat → Option ga_V) (σ' : ga_S), decode cX0_groupPieces pc = .ok (.return_, 1) → (gx_W r res σ' ∧ gt_F r (r + 32) σ0 σ') → ga_G X 0 0 K pc lv [] σ') (hr0 : r ≠ 0) : ∀ (n : Nat) (a : gx_Ch × Int) (σ : ga_S) (lv : Nat → Option ga_V), gx_W r a.1 σ → gt_F r (r + 32) σ0 σ → lv 0 = some (.inr r) → lv 1 = some (.inl a.2) → gt_loop (fX0_groupPieces_16) n a = some res → ga_G X 0 0 K 16 lv [] σ := by
  intro n
  induction n with
  | zero =>
    intro a _ lv _ _ _ _ h
    exact absurd (show (none : Option _) = some _ from h) (fun q => by cases q)
  | succ n hk16 =>
    intro a σ lv hW hF hl0 hl1 h
    have h : fX0_groupPieces_16 (gt_loop (fX0_groupPieces_16) n) a = some res := h
    revert hk16 h
    generalize gt_loop (fX0_groupPieces_16) n = k16
    intro hk16 h
    unfold fX0_groupPieces_16 at h
    refine ga_iload_n C dX0_groupPieces_16 rfl hl1 ?_
    refine ga_aload_n C dX0_groupPieces_17 rfl hl0 hr0 ?_
    refine gt_geta C (iX0_groupPieces_X0) hW.2.2.2.2.2.2.2 1 rfl rfl (by decide) kX0_groupPieces_21 dX0_groupPieces_18 ?_
    obtain ⟨q21, hq, h⟩ := Option.bind_eq_some_iff.mp h
    refine gt_cVi (n := 0) (st := [.inl a.2]) C (eX1_count X.2.1 D cI cZ K (Nat.succ_ne_zero _) hW.2.1 hq) gX0_groupPieces_X1_count rfl (by decide +kernel) rfl ⟨Nat.le_of_ble_eq_true rfl, Nat.le_of_ble_eq_true rfl⟩ hW.2.1.1 rfl rfl (Nat.le_of_ble_eq_true rfl) rfl dX0_groupPieces_21 (fun σ' hp => ?_)
    subst hp
    refine ga_icmp_ge (tgt := 60) C dX0_groupPieces_24 (by decide) (fun c1 => ?_) (fun c1 => ?_)
    · have h := gt_ip h c1
      refine ga_aload_n C dX0_groupPieces_60 rfl hl0 hr0 ?_
      refine gt_geta C (iX0_groupPieces_X0) hW.2.2.2.2.2.2.2 2 rfl rfl (by decide) kX0_groupPieces_28 dX0_groupPieces_61 ?_
      obtain ⟨q64, hq, h⟩ := Option.bind_eq_some_iff.mp h
      refine gt_cVv (n := 0) (st := []) C (eX2_numberGroups X.2.1 D cI cZ K (Nat.succ_ne_zero _) hW.2.2.1 hq) gX0_groupPieces_X2_numberGroups rfl (by decide +kernel) rfl ⟨Nat.le_of_ble_eq_true rfl, Nat.le_of_ble_eq_true rfl⟩ hW.2.2.1.1 rfl rfl (Nat.le_of_ble_eq_true rfl) rfl dX0_groupPieces_64 (fun σ' hp => ?_)
      obtain ⟨hw, hf⟩ := hp
      have hW := gx_W2 hW hw hf
      have hF := hF.tr hf (by omega) (by omega)
      clear hf
      cases h
      exact hRet _ _ _ dX0_groupPieces_67 ⟨hW, hF⟩
    · have h := gt_in h c1
      refine ga_aload_n C dX0_groupPieces_27 rfl hl0 hr0 ?_
      refine gt_geta C (iX0_groupPieces_X0) hW.2.2.2.2.2.2.2 2 rfl rfl (by decide) kX0_groupPieces_28 dX0_groupPieces_28 ?_
      refine ga_aload_n C dX0_groupPieces_31 rfl hl0 hr0 ?_
      refine gt_geta C (iX0_groupPieces_X0) hW.2.2.2.2.2.2.2 1 rfl rfl (by decide) kX0_groupPieces_21 dX0_groupPieces_32 ?_
      refine ga_iload_n C dX0_groupPieces_35 rfl hl1 ?_
      obtain ⟨q36, hq, h⟩ := Option.bind_eq_some_iff.mp h
      refine gt_cVi (n := 1) (st := [.inr (r + 10)]) C (eX1_from X.2.1 D cI cZ K (Nat.succ_ne_zero _) hW.2.1 hq) gX0_groupPieces_X1_from rfl (by decide +kernel) rfl ⟨Nat.le_of_ble_eq_true rfl, Nat.le_of_ble_eq_true rfl⟩ hW.2.1.1 rfl rfl (Nat.le_of_ble_eq_true rfl) rfl dX0_groupPieces_36 (fun σ' hp => ?_)
      subst hp
      refine ga_iconst C dX0_groupPieces_39 ⟨by decide, by decide⟩ ?_
      refine ga_idiv C dX0_groupPieces_40 (by decide) ?_
      refine ga_aload_n C dX0_groupPieces_41 rfl hl0 hr0 ?_
      refine gt_geta C (iX0_groupPieces_X0) hW.2.2.2.2.2.2.2 1 rfl rfl (by decide) kX0_groupPieces_21 dX0_groupPieces_42 ?_
      refine ga_iload_n C dX0_groupPieces_45 rfl hl1 ?_
      obtain ⟨q46, hq, h⟩ := Option.bind_eq_some_iff.mp h
      refine gt_cVi (n := 1) (st := [.inl (Int.tdiv q36 (4 : Int)), .inr (r + 10)]) C (eX1_to X.2.1 D cI cZ K (Nat.succ_ne_zero _) hW.2.1 hq) gX0_groupPieces_X1_to rfl (by decide +kernel) rfl ⟨Nat.le_of_ble_eq_true rfl, Nat.le_of_ble_eq_true rfl⟩ hW.2.1.1 rfl rfl (Nat.le_of_ble_eq_true rfl) rfl dX0_groupPieces_46 (fun σ' hp => ?_)
      subst hp
      refine ga_iconst C dX0_groupPieces_49 ⟨by decide, by decide⟩ ?_
      refine ga_idiv C dX0_groupPieces_50 (by decide) ?_
      obtain ⟨q51, hq, h⟩ := Option.bind_eq_some_iff.mp h
      refine gt_cVv (n := 2) (st := []) C (eX2_join X.2.1 D cI cZ K (Nat.succ_ne_zero _) hW.2.2.1 hq) gX0_groupPieces_X2_join rfl (by decide +kernel) rfl ⟨Nat.le_of_ble_eq_true rfl, Nat.le_of_ble_eq_true rfl⟩ hW.2.2.1.1 rfl rfl (Nat.le_of_ble_eq_true rfl) rfl dX0_groupPieces_51 (fun σ' hp => ?_)
      obtain ⟨hw, hf⟩ := hp
      have hW := gx_W2 hW hw hf
      have hF := hF.tr hf (by omega) (by omega)
      clear hf
      obtain ⟨hg, h⟩ := gt_gd h
      have g54_0 := hg
      refine ga_iinc C dX0_groupPieces_54 hl1 g54_0 ?_
      refine ga_goto (tgt := 16) C dX0_groupPieces_57 (by decide) ?_
      exact hk16 ((a.1.1, a.1.2.1, q51, a.1.2.2.2.1, a.1.2.2.2.2.1, a.1.2.2.2.2.2.1, a.1.2.2.2.2.2.2.1, a.1.2.2.2.2.2.2.2), a.2 + (1 : Int)) _ _ hW hF (gt_un (by decide) hl0) gt_us h
set_option maxHeartbeats 4000000 in
theorem gX0_groupPieces_0 {X : ga_X} {D : va_G} {cI cZ : ClassId} {K : Nat} {r : Nat} {σ0 : ga_S} {res : gx_Ch} (C : ga_C X cX0_groupPieces yX0_groupPieces wsX0_groupPieces [] (gt_rm 3 67) (D, vwCl, cI, cZ) 2) (hRet : ∀ (pc : Nat) (lv : Nat → Option ga_V) (σ' : ga_S), decode cX0_groupPieces pc = .ok (.return_, 1) → (gx_W r res σ' ∧ gt_F r (r + 32) σ0 σ') → ga_G X 0 0 K pc lv [] σ') (hr0 : r ≠ 0) {T : gx_Ch} {σ : ga_S} {lv : Nat → Option ga_V} (hW : gx_W r T σ) (hF : gt_F r (r + 32) σ0 σ) (hl0 : lv 0 = some (.inr r)) (h : fX0_groupPieces T = some res) : ga_G X 0 0 K 0 lv [] σ := by
  unfold fX0_groupPieces at h
  refine ga_aload_n C dX0_groupPieces_0 rfl hl0 hr0 ?_
  refine gt_geta C (iX0_groupPieces_X0) hW.2.2.2.2.2.2.2 2 rfl rfl (by decide) kX0_groupPieces_28 dX0_groupPieces_1 ?_
  refine ga_aload_n C dX0_groupPieces_4 rfl hl0 hr0 ?_
  refine gt_geta C (iX0_groupPieces_X0) hW.2.2.2.2.2.2.2 0 rfl rfl (by decide) kX0_groupPieces_12 dX0_groupPieces_5 ?_
  obtain ⟨q8, hq, h⟩ := Option.bind_eq_some_iff.mp h
  refine gt_cVi (n := 0) (st := [.inr (r + 10)]) C (eX4_crossings X.2.1 D cI cZ K (Nat.succ_ne_zero _) hW.1 hq) gX0_groupPieces_X4_crossings rfl (by decide +kernel) rfl ⟨Nat.le_of_ble_eq_true rfl, Nat.le_of_ble_eq_true rfl⟩ hW.1.1 rfl rfl (Nat.le_of_ble_eq_true rfl) rfl dX0_groupPieces_8 (fun σ' hp => ?_)
  subst hp
  obtain ⟨q11, hq, h⟩ := Option.bind_eq_some_iff.mp h
  refine gt_cVv (n := 1) (st := []) C (eX2_begin X.2.1 D cI cZ K (Nat.succ_ne_zero _) hW.2.2.1 hq) gX0_groupPieces_X2_begin rfl (by decide +kernel) rfl ⟨Nat.le_of_ble_eq_true rfl, Nat.le_of_ble_eq_true rfl⟩ hW.2.2.1.1 rfl rfl (Nat.le_of_ble_eq_true rfl) rfl dX0_groupPieces_11 (fun σ' hp => ?_)
  obtain ⟨hw, hf⟩ := hp
  have hW := gx_W2 hW hw hf
  have hF := hF.tr hf (by omega) (by omega)
  clear hf
  refine ga_iconst C dX0_groupPieces_14 ⟨by decide, by decide⟩ ?_
  refine ga_istore_n C dX0_groupPieces_15 rfl (by decide) ?_
  exact gX0_groupPieces_16 C hRet hr0 gt_fuel ((T.1, T.2.1, q11, T.2.2.2.1, T.2.2.2.2.1, T.2.2.2.2.2.1, T.2.2.2.2.2.2.1, T.2.2.2.2.2.2.2), (0 : Int)) _ _ hW hF (gt_un (by decide) hl0) gt_us h
set_option maxHeartbeats 4000000 in
theorem eX0_groupPieces (l : Launch) (D : va_G) (cI cZ : ClassId) (K : Nat) {r : Nat} (hr0 : r ≠ 0) {σ : ga_S} {T : gx_Ch} (hW : gx_W r T σ) {res : gx_Ch} (h : fX0_groupPieces T = some res) : ga_Ev l (D, vwCl, cI, cZ) yX0_groupPieces wsX0_groupPieces (gt_rm 3 67) [] 0 0 K [.inr r] σ (fun σ' rv => (gx_W r res σ' ∧ gt_F r (r + 32) σ σ') ∧ rv = none) := by
  refine ga_ofV (by decide +kernel) rfl gt_hcl (Nat.le_of_ble_eq_true rfl) (fun X hX C hret => ?_)
  exact gX0_groupPieces_0 C (fun pc lv σ' d hp => hret pc lv σ' d ⟨hp, rfl⟩) hr0 hW gt_F.rf rfl h
-- X0_traceFaces: traceFaces()V
def fX0_traceFaces_18 (k18 : gx_Ch × Int → Option (gx_Ch)) (a : gx_Ch × Int) : Option (gx_Ch) :=
  (fX1_count a.1.2.1).bind (fun (q23 : Int) => (if q23 ≤ a.2 then (fX3_trace a.1.2.2.2.2.2.2.1).bind (fun (q97 : gt_T) => some (a.1.1, a.1.2.1, a.1.2.2.1, a.1.2.2.2.1, a.1.2.2.2.2.1, a.1.2.2.2.2.2.1, q97, a.1.2.2.2.2.2.2.2)) else (if (-2147483648 ≤ (2 : Int) * a.2 ∧ (2 : Int) * a.2 < 2147483648) then (fX1_to a.1.2.1 a.2).bind (fun (q45 : Int) => (fX4_beside q45).bind (fun (q48 : Int) => (fX1_dartFrom a.1.2.1 q48).bind (fun (q51 : Int) => (fX3_link a.1.2.2.2.2.2.2.1 ((2 : Int) * a.2) q51).bind (fun (q54 : gt_T) => (if (-2147483648 ≤ (2 : Int) * a.2 ∧ (2 : Int) * a.2 < 2147483648) ∧ (-2147483648 ≤ ((2 : Int) * a.2) + (1 : Int) ∧ ((2 : Int) * a.2) + (1 : Int) < 2147483648) then (fX1_from a.1.2.1 a.2).bind (fun (q75 : Int) => (fX4_beside q75).bind (fun (q78 : Int) => (fX1_dartFrom a.1.2.1 q78).bind (fun (q81 : Int) => (fX3_link q54 (((2 : Int) * a.2) + (1 : Int)) q81).bind (fun (q84 : gt_T) => (if (-2147483648 ≤ a.2 + (1 : Int) ∧ a.2 + (1 : Int) < 2147483648) then k18 ((a.1.1, a.1.2.1, a.1.2.2.1, a.1.2.2.2.1, a.1.2.2.2.2.1, a.1.2.2.2.2.2.1, q84, a.1.2.2.2.2.2.2.2), a.2 + (1 : Int)) else none))))) else none))))) else none)))
def fX0_traceFaces (T : gx_Ch) : Option (gx_Ch) :=
  (fX1_count T.2.1).bind (fun (q9 : Int) => (if (-2147483648 ≤ (2 : Int) * q9 ∧ (2 : Int) * q9 < 2147483648) then (fX3_begin T.2.2.2.2.2.2.1 ((2 : Int) * q9)).bind (fun (q13 : gt_T) => gt_loop (fX0_traceFaces_18) gt_fuel ((T.1, T.2.1, T.2.2.1, T.2.2.2.1, T.2.2.2.2.1, T.2.2.2.2.2.1, q13, T.2.2.2.2.2.2.2), (0 : Int))) else none))
theorem iX0_traceFaces_X0 : ∀ w ∈ u_ws RX0 TX0 9, w ∈ wsX0_traceFaces := by decide +kernel
theorem kX0_traceFaces_21 : Cond.fieldLink yX0_traceFaces.cls 21 (TX0 1).1 (TX0 1).2.1 (TX0 1).2.2.1 ∈ wsX0_traceFaces := by decide +kernel
theorem kX0_traceFaces_45 : Cond.fieldLink yX0_traceFaces.cls 45 (TX0 6).1 (TX0 6).2.1 (TX0 6).2.2.1 ∈ wsX0_traceFaces := by decide +kernel
set_option maxHeartbeats 4000000 in
theorem gX0_traceFaces_18 {X : ga_X} {D : va_G} {cI cZ : ClassId} {K : Nat} {r : Nat} {σ0 : ga_S} {res : gx_Ch} (C : ga_C X cX0_traceFaces yX0_traceFaces wsX0_traceFaces [] (gt_rm 3 65) (D, vwCl, cI, cZ) 2) (hRet : ∀ (pc : Nat) (lv : Nat → Option ga_V) (σ' : ga_S), decode cX0_traceFaces pc = .ok (.return_, 1) → (gx_W r res σ' ∧ gt_F r (r + 32) σ0 σ') → ga_G X 0 0 K pc lv [] σ') (hr0 : r ≠ 0) : ∀ (n : Nat) (a : gx_Ch × Int) (σ : ga_S) (lv : Nat → Option ga_V), gx_W r a.1 σ → gt_F r (r + 32) σ0 σ → lv 0 = some (.inr r) → lv 1 = some (.inl a.2) → gt_loop (fX0_traceFaces_18) n a = some res → ga_G X 0 0 K 18 lv [] σ := by
  intro n
  induction n with
  | zero =>
    intro a _ lv _ _ _ _ h
    exact absurd (show (none : Option _) = some _ from h) (fun q => by cases q)
  | succ n hk18 =>
    intro a σ lv hW hF hl0 hl1 h
    have h : fX0_traceFaces_18 (gt_loop (fX0_traceFaces_18) n) a = some res := h
    revert hk18 h
    generalize gt_loop (fX0_traceFaces_18) n = k18
    intro hk18 h
    unfold fX0_traceFaces_18 at h
    refine ga_iload_n C dX0_traceFaces_18 rfl hl1 ?_
    refine ga_aload_n C dX0_traceFaces_19 rfl hl0 hr0 ?_
    refine gt_geta C (iX0_traceFaces_X0) hW.2.2.2.2.2.2.2 1 rfl rfl (by decide) kX0_traceFaces_21 dX0_traceFaces_20 ?_
    obtain ⟨q23, hq, h⟩ := Option.bind_eq_some_iff.mp h
    refine gt_cVi (n := 0) (st := [.inl a.2]) C (eX1_count X.2.1 D cI cZ K (Nat.succ_ne_zero _) hW.2.1 hq) gX0_traceFaces_X1_count rfl (by decide +kernel) rfl ⟨Nat.le_of_ble_eq_true rfl, Nat.le_of_ble_eq_true rfl⟩ hW.2.1.1 rfl rfl (Nat.le_of_ble_eq_true rfl) rfl dX0_traceFaces_23 (fun σ' hp => ?_)
    subst hp
    refine ga_icmp_ge (tgt := 93) C dX0_traceFaces_26 (by decide) (fun c1 => ?_) (fun c1 => ?_)
    · have h := gt_ip h c1
      refine ga_aload_n C dX0_traceFaces_93 rfl hl0 hr0 ?_
      refine gt_geta C (iX0_traceFaces_X0) hW.2.2.2.2.2.2.2 6 rfl rfl (by decide) kX0_traceFaces_45 dX0_traceFaces_94 ?_
      obtain ⟨q97, hq, h⟩ := Option.bind_eq_some_iff.mp h
      refine gt_cVv (n := 0) (st := []) C (eX3_trace X.2.1 D cI cZ K (Nat.succ_ne_zero _) hW.2.2.2.2.2.2.1 hq) gX0_traceFaces_X3_trace rfl (by decide +kernel) rfl ⟨Nat.le_of_ble_eq_true rfl, Nat.le_of_ble_eq_true rfl⟩ hW.2.2.2.2.2.2.1.1 rfl rfl (Nat.le_of_ble_eq_true rfl) rfl dX0_traceFaces_97 (fun σ' hp => ?_)
      obtain ⟨hw, hf⟩ := hp
      have hW := gx_W6 hW hw hf
      have hF := hF.tr hf (by omega) (by omega)
      clear hf
      cases h
      exact hRet _ _ _ dX0_traceFaces_100 ⟨hW, hF⟩
    · have h := gt_in h c1
      obtain ⟨hg, h⟩ := gt_gd h
      have g35_0 := hg
      refine ga_aload_n C dX0_traceFaces_29 rfl hl0 hr0 ?_
      refine gt_geta C (iX0_traceFaces_X0) hW.2.2.2.2.2.2.2 6 rfl rfl (by decide) kX0_traceFaces_45 dX0_traceFaces_30 ?_
      refine ga_iconst C dX0_traceFaces_33 ⟨by decide, by decide⟩ ?_
      refine ga_iload_n C dX0_traceFaces_34 rfl hl1 ?_
      refine ga_imul C dX0_traceFaces_35 g35_0 ?_
      refine ga_aload_n C dX0_traceFaces_36 rfl hl0 hr0 ?_
      refine gt_geta C (iX0_traceFaces_X0) hW.2.2.2.2.2.2.2 1 rfl rfl (by decide) kX0_traceFaces_21 dX0_traceFaces_37 ?_
      refine ga_aload_n C dX0_traceFaces_40 rfl hl0 hr0 ?_
      refine gt_geta C (iX0_traceFaces_X0) hW.2.2.2.2.2.2.2 1 rfl rfl (by decide) kX0_traceFaces_21 dX0_traceFaces_41 ?_
      refine ga_iload_n C dX0_traceFaces_44 rfl hl1 ?_
      obtain ⟨q45, hq, h⟩ := Option.bind_eq_some_iff.mp h
      refine gt_cVi (n := 1) (st := [.inr (r + 4), .inl ((2 : Int) * a.2), .inr (r + 26)]) C (eX1_to X.2.1 D cI cZ K (Nat.succ_ne_zero _) hW.2.1 hq) gX0_traceFaces_X1_to rfl (by decide +kernel) rfl ⟨Nat.le_of_ble_eq_true rfl, Nat.le_of_ble_eq_true rfl⟩ hW.2.1.1 rfl rfl (Nat.le_of_ble_eq_true rfl) rfl dX0_traceFaces_45 (fun σ' hp => ?_)
      subst hp
      obtain ⟨q48, hq, h⟩ := Option.bind_eq_some_iff.mp h
      refine gt_cSi (n := 1) (st := [.inr (r + 4), .inl ((2 : Int) * a.2), .inr (r + 26)]) C (eX4_beside X.2.1 D cI cZ K hq) gX0_traceFaces_X4_beside rfl (by decide +kernel) rfl ⟨Nat.le_of_ble_eq_true rfl, Nat.le_of_ble_eq_true rfl⟩ (Nat.le_of_ble_eq_true rfl) rfl dX0_traceFaces_48 (fun σ' hp => ?_)
      subst hp
      obtain ⟨q51, hq, h⟩ := Option.bind_eq_some_iff.mp h
      refine gt_cVi (n := 1) (st := [.inl ((2 : Int) * a.2), .inr (r + 26)]) C (eX1_dartFrom X.2.1 D cI cZ K (Nat.succ_ne_zero _) hW.2.1 hq) gX0_traceFaces_X1_dartFrom rfl (by decide +kernel) rfl ⟨Nat.le_of_ble_eq_true rfl, Nat.le_of_ble_eq_true rfl⟩ hW.2.1.1 rfl rfl (Nat.le_of_ble_eq_true rfl) rfl dX0_traceFaces_51 (fun σ' hp => ?_)
      subst hp
      obtain ⟨q54, hq, h⟩ := Option.bind_eq_some_iff.mp h
      refine gt_cVv (n := 2) (st := []) C (eX3_link X.2.1 D cI cZ K (Nat.succ_ne_zero _) hW.2.2.2.2.2.2.1 hq) gX0_traceFaces_X3_link rfl (by decide +kernel) rfl ⟨Nat.le_of_ble_eq_true rfl, Nat.le_of_ble_eq_true rfl⟩ hW.2.2.2.2.2.2.1.1 rfl rfl (Nat.le_of_ble_eq_true rfl) rfl dX0_traceFaces_54 (fun σ' hp => ?_)
      obtain ⟨hw, hf⟩ := hp
      have hW := gx_W6 hW hw hf
      have hF := hF.tr hf (by omega) (by omega)
      clear hf
      obtain ⟨hg, h⟩ := gt_gd h
      obtain ⟨g63_0, g65_1⟩ := hg
      refine ga_aload_n C dX0_traceFaces_57 rfl hl0 hr0 ?_
      refine gt_geta C (iX0_traceFaces_X0) hW.2.2.2.2.2.2.2 6 rfl rfl (by decide) kX0_traceFaces_45 dX0_traceFaces_58 ?_
      refine ga_iconst C dX0_traceFaces_61 ⟨by decide, by decide⟩ ?_
      refine ga_iload_n C dX0_traceFaces_62 rfl hl1 ?_
      refine ga_imul C dX0_traceFaces_63 g63_0 ?_
      refine ga_iconst C dX0_traceFaces_64 ⟨by decide, by decide⟩ ?_
      refine ga_iadd C dX0_traceFaces_65 g65_1 ?_
      refine ga_aload_n C dX0_traceFaces_66 rfl hl0 hr0 ?_
      refine gt_geta C (iX0_traceFaces_X0) hW.2.2.2.2.2.2.2 1 rfl rfl (by decide) kX0_traceFaces_21 dX0_traceFaces_67 ?_
      refine ga_aload_n C dX0_traceFaces_70 rfl hl0 hr0 ?_
      refine gt_geta C (iX0_traceFaces_X0) hW.2.2.2.2.2.2.2 1 rfl rfl (by decide) kX0_traceFaces_21 dX0_traceFaces_71 ?_
      refine ga_iload_n C dX0_traceFaces_74 rfl hl1 ?_
      obtain ⟨q75, hq, h⟩ := Option.bind_eq_some_iff.mp h
      refine gt_cVi (n := 1) (st := [.inr (r + 4), .inl (((2 : Int) * a.2) + (1 : Int)), .inr (r + 26)]) C (eX1_from X.2.1 D cI cZ K (Nat.succ_ne_zero _) hW.2.1 hq) gX0_traceFaces_X1_from rfl (by decide +kernel) rfl ⟨Nat.le_of_ble_eq_true rfl, Nat.le_of_ble_eq_true rfl⟩ hW.2.1.1 rfl rfl (Nat.le_of_ble_eq_true rfl) rfl dX0_traceFaces_75 (fun σ' hp => ?_)
      subst hp
      obtain ⟨q78, hq, h⟩ := Option.bind_eq_some_iff.mp h
      refine gt_cSi (n := 1) (st := [.inr (r + 4), .inl (((2 : Int) * a.2) + (1 : Int)), .inr (r + 26)]) C (eX4_beside X.2.1 D cI cZ K hq) gX0_traceFaces_X4_beside rfl (by decide +kernel) rfl ⟨Nat.le_of_ble_eq_true rfl, Nat.le_of_ble_eq_true rfl⟩ (Nat.le_of_ble_eq_true rfl) rfl dX0_traceFaces_78 (fun σ' hp => ?_)
      subst hp
      obtain ⟨q81, hq, h⟩ := Option.bind_eq_some_iff.mp h
      refine gt_cVi (n := 1) (st := [.inl (((2 : Int) * a.2) + (1 : Int)), .inr (r + 26)]) C (eX1_dartFrom X.2.1 D cI cZ K (Nat.succ_ne_zero _) hW.2.1 hq) gX0_traceFaces_X1_dartFrom rfl (by decide +kernel) rfl ⟨Nat.le_of_ble_eq_true rfl, Nat.le_of_ble_eq_true rfl⟩ hW.2.1.1 rfl rfl (Nat.le_of_ble_eq_true rfl) rfl dX0_traceFaces_81 (fun σ' hp => ?_)
      subst hp
      obtain ⟨q84, hq, h⟩ := Option.bind_eq_some_iff.mp h
      refine gt_cVv (n := 2) (st := []) C (eX3_link X.2.1 D cI cZ K (Nat.succ_ne_zero _) hW.2.2.2.2.2.2.1 hq) gX0_traceFaces_X3_link rfl (by decide +kernel) rfl ⟨Nat.le_of_ble_eq_true rfl, Nat.le_of_ble_eq_true rfl⟩ hW.2.2.2.2.2.2.1.1 rfl rfl (Nat.le_of_ble_eq_true rfl) rfl dX0_traceFaces_84 (fun σ' hp => ?_)
      obtain ⟨hw, hf⟩ := hp
      have hW := gx_W6 hW hw hf
      have hF := hF.tr hf (by omega) (by omega)
      clear hf
      obtain ⟨hg, h⟩ := gt_gd h
      have g87_0 := hg
      refine ga_iinc C dX0_traceFaces_87 hl1 g87_0 ?_
      refine ga_goto (tgt := 18) C dX0_traceFaces_90 (by decide) ?_
      exact hk18 ((a.1.1, a.1.2.1, a.1.2.2.1, a.1.2.2.2.1, a.1.2.2.2.2.1, a.1.2.2.2.2.2.1, q84, a.1.2.2.2.2.2.2.2), a.2 + (1 : Int)) _ _ hW hF (gt_un (by decide) hl0) gt_us h
set_option maxHeartbeats 4000000 in
theorem gX0_traceFaces_0 {X : ga_X} {D : va_G} {cI cZ : ClassId} {K : Nat} {r : Nat} {σ0 : ga_S} {res : gx_Ch} (C : ga_C X cX0_traceFaces yX0_traceFaces wsX0_traceFaces [] (gt_rm 3 65) (D, vwCl, cI, cZ) 2) (hRet : ∀ (pc : Nat) (lv : Nat → Option ga_V) (σ' : ga_S), decode cX0_traceFaces pc = .ok (.return_, 1) → (gx_W r res σ' ∧ gt_F r (r + 32) σ0 σ') → ga_G X 0 0 K pc lv [] σ') (hr0 : r ≠ 0) {T : gx_Ch} {σ : ga_S} {lv : Nat → Option ga_V} (hW : gx_W r T σ) (hF : gt_F r (r + 32) σ0 σ) (hl0 : lv 0 = some (.inr r)) (h : fX0_traceFaces T = some res) : ga_G X 0 0 K 0 lv [] σ := by
  unfold fX0_traceFaces at h
  refine ga_aload_n C dX0_traceFaces_0 rfl hl0 hr0 ?_
  refine gt_geta C (iX0_traceFaces_X0) hW.2.2.2.2.2.2.2 6 rfl rfl (by decide) kX0_traceFaces_45 dX0_traceFaces_1 ?_
  refine ga_iconst C dX0_traceFaces_4 ⟨by decide, by decide⟩ ?_
  refine ga_aload_n C dX0_traceFaces_5 rfl hl0 hr0 ?_
  refine gt_geta C (iX0_traceFaces_X0) hW.2.2.2.2.2.2.2 1 rfl rfl (by decide) kX0_traceFaces_21 dX0_traceFaces_6 ?_
  obtain ⟨q9, hq, h⟩ := Option.bind_eq_some_iff.mp h
  refine gt_cVi (n := 0) (st := [.inl (2 : Int), .inr (r + 26)]) C (eX1_count X.2.1 D cI cZ K (Nat.succ_ne_zero _) hW.2.1 hq) gX0_traceFaces_X1_count rfl (by decide +kernel) rfl ⟨Nat.le_of_ble_eq_true rfl, Nat.le_of_ble_eq_true rfl⟩ hW.2.1.1 rfl rfl (Nat.le_of_ble_eq_true rfl) rfl dX0_traceFaces_9 (fun σ' hp => ?_)
  subst hp
  obtain ⟨hg, h⟩ := gt_gd h
  have g12_0 := hg
  refine ga_imul C dX0_traceFaces_12 g12_0 ?_
  obtain ⟨q13, hq, h⟩ := Option.bind_eq_some_iff.mp h
  refine gt_cVv (n := 1) (st := []) C (eX3_begin X.2.1 D cI cZ K (Nat.succ_ne_zero _) hW.2.2.2.2.2.2.1 hq) gX0_traceFaces_X3_begin rfl (by decide +kernel) rfl ⟨Nat.le_of_ble_eq_true rfl, Nat.le_of_ble_eq_true rfl⟩ hW.2.2.2.2.2.2.1.1 rfl rfl (Nat.le_of_ble_eq_true rfl) rfl dX0_traceFaces_13 (fun σ' hp => ?_)
  obtain ⟨hw, hf⟩ := hp
  have hW := gx_W6 hW hw hf
  have hF := hF.tr hf (by omega) (by omega)
  clear hf
  refine ga_iconst C dX0_traceFaces_16 ⟨by decide, by decide⟩ ?_
  refine ga_istore_n C dX0_traceFaces_17 rfl (by decide) ?_
  exact gX0_traceFaces_18 C hRet hr0 gt_fuel ((T.1, T.2.1, T.2.2.1, T.2.2.2.1, T.2.2.2.2.1, T.2.2.2.2.2.1, q13, T.2.2.2.2.2.2.2), (0 : Int)) _ _ hW hF (gt_un (by decide) hl0) gt_us h
set_option maxHeartbeats 4000000 in
theorem eX0_traceFaces (l : Launch) (D : va_G) (cI cZ : ClassId) (K : Nat) {r : Nat} (hr0 : r ≠ 0) {σ : ga_S} {T : gx_Ch} (hW : gx_W r T σ) {res : gx_Ch} (h : fX0_traceFaces T = some res) : ga_Ev l (D, vwCl, cI, cZ) yX0_traceFaces wsX0_traceFaces (gt_rm 3 65) [] 0 0 K [.inr r] σ (fun σ' rv => (gx_W r res σ' ∧ gt_F r (r + 32) σ σ') ∧ rv = none) := by
  refine ga_ofV (by decide +kernel) rfl gt_hcl (Nat.le_of_ble_eq_true rfl) (fun X hX C hret => ?_)
  exact gX0_traceFaces_0 C (fun pc lv σ' d hp => hret pc lv σ' d ⟨hp, rfl⟩) hr0 hW gt_F.rf rfl h
-- X0_pieceOfEdge: pieceOfEdge(I)I
def fX0_pieceOfEdge (T : gx_Ch) (l1 : Int) : Option (Int) :=
  (fX1_to T.2.1 l1).bind (fun (q9 : Int) => (fX2_numberOf T.2.2.1 (Int.tdiv q9 (4 : Int))).bind (fun (q14 : Int) => some q14))
theorem iX0_pieceOfEdge_X0 : ∀ w ∈ u_ws RX0 TX0 9, w ∈ wsX0_pieceOfEdge := by decide +kernel
theorem kX0_pieceOfEdge_21 : Cond.fieldLink yX0_pieceOfEdge.cls 21 (TX0 1).1 (TX0 1).2.1 (TX0 1).2.2.1 ∈ wsX0_pieceOfEdge := by decide +kernel
theorem kX0_pieceOfEdge_28 : Cond.fieldLink yX0_pieceOfEdge.cls 28 (TX0 2).1 (TX0 2).2.1 (TX0 2).2.2.1 ∈ wsX0_pieceOfEdge := by decide +kernel
set_option maxHeartbeats 4000000 in
theorem gX0_pieceOfEdge_0 {X : ga_X} {D : va_G} {cI cZ : ClassId} {K : Nat} {r : Nat} {res : Int} {T : gx_Ch} {σ : ga_S} (C : ga_C X cX0_pieceOfEdge yX0_pieceOfEdge wsX0_pieceOfEdge [] (gt_rm 2 42) (D, vwCl, cI, cZ) 2) (hRet : ∀ (pc : Nat) (lv : Nat → Option ga_V) (σ' : ga_S) (z : Int), decode cX0_pieceOfEdge pc = .ok (.ireturn, 1) → z = res → (σ' = σ) → ga_G X 0 0 K pc lv [.inl z] σ') (hr0 : r ≠ 0) {l1 : Int} {lv : Nat → Option ga_V} (hW : gx_W r T σ) (hl0 : lv 0 = some (.inr r)) (hl1 : lv 1 = some (.inl l1)) (h : fX0_pieceOfEdge T l1 = some res) : ga_G X 0 0 K 0 lv [] σ := by
  unfold fX0_pieceOfEdge at h
  refine ga_aload_n C dX0_pieceOfEdge_0 rfl hl0 hr0 ?_
  refine gt_geta C (iX0_pieceOfEdge_X0) hW.2.2.2.2.2.2.2 2 rfl rfl (by decide) kX0_pieceOfEdge_28 dX0_pieceOfEdge_1 ?_
  refine ga_aload_n C dX0_pieceOfEdge_4 rfl hl0 hr0 ?_
  refine gt_geta C (iX0_pieceOfEdge_X0) hW.2.2.2.2.2.2.2 1 rfl rfl (by decide) kX0_pieceOfEdge_21 dX0_pieceOfEdge_5 ?_
  refine ga_iload_n C dX0_pieceOfEdge_8 rfl hl1 ?_
  obtain ⟨q9, hq, h⟩ := Option.bind_eq_some_iff.mp h
  refine gt_cVi (n := 1) (st := [.inr (r + 10)]) C (eX1_to X.2.1 D cI cZ K (Nat.succ_ne_zero _) hW.2.1 hq) gX0_pieceOfEdge_X1_to rfl (by decide +kernel) rfl ⟨Nat.le_of_ble_eq_true rfl, Nat.le_of_ble_eq_true rfl⟩ hW.2.1.1 rfl rfl (Nat.le_of_ble_eq_true rfl) rfl dX0_pieceOfEdge_9 (fun σ' hp => ?_)
  subst hp
  refine ga_iconst C dX0_pieceOfEdge_12 ⟨by decide, by decide⟩ ?_
  refine ga_idiv C dX0_pieceOfEdge_13 (by decide) ?_
  obtain ⟨q14, hq, h⟩ := Option.bind_eq_some_iff.mp h
  refine gt_cVi (n := 1) (st := []) C (eX2_numberOf X.2.1 D cI cZ K (Nat.succ_ne_zero _) hW.2.2.1 hq) gX0_pieceOfEdge_X2_numberOf rfl (by decide +kernel) rfl ⟨Nat.le_of_ble_eq_true rfl, Nat.le_of_ble_eq_true rfl⟩ hW.2.2.1.1 rfl rfl (Nat.le_of_ble_eq_true rfl) rfl dX0_pieceOfEdge_14 (fun σ' hp => ?_)
  subst hp
  cases h
  exact hRet _ _ _ _ dX0_pieceOfEdge_17 rfl rfl
set_option maxHeartbeats 4000000 in
theorem eX0_pieceOfEdge (l : Launch) (D : va_G) (cI cZ : ClassId) (K : Nat) {r : Nat} (hr0 : r ≠ 0) {σ : ga_S} {T : gx_Ch} (hW : gx_W r T σ) {l1 : Int} {res : Int} (h : fX0_pieceOfEdge T l1 = some res) : ga_Ev l (D, vwCl, cI, cZ) yX0_pieceOfEdge wsX0_pieceOfEdge (gt_rm 2 42) [] 0 0 K [.inr r, .inl l1] σ (fun σ' rv => (σ' = σ) ∧ rv = some (.inl res)) := by
  refine ga_ofI (by decide +kernel) rfl gt_hcl (Nat.le_of_ble_eq_true rfl) (fun X hX C hret => ?_)
  exact gX0_pieceOfEdge_0 C (fun pc lv σ' z d hz hp => hret pc lv σ' z d ⟨hp, by rw [hz]⟩) hr0 hW rfl rfl h
-- X0_facesLessCrossings: facesLessCrossings(I)I
def fX0_facesLessCrossings_70 (T : gx_Ch) (k44 : Int × Int × Int → Option (Int)) (l1 l2 l3 : Int) : Option (Int) :=
  (if (-2147483648 ≤ l3 + (1 : Int) ∧ l3 + (1 : Int) < 2147483648) then k44 (l1, l2, l3 + (1 : Int)) else none)
def fX0_facesLessCrossings_44 (T : gx_Ch) (k44 : Int × Int × Int → Option (Int)) (a : Int × Int × Int) : Option (Int) :=
  (fX4_crossings T.1).bind (fun (q49 : Int) => (if q49 ≤ a.2.2 then some a.2.1 else (fX2_numberOf T.2.2.1 a.2.2).bind (fun (q60 : Int) => (if q60 = a.1 then (if (-2147483648 ≤ a.2.1 + (-1 : Int) ∧ a.2.1 + (-1 : Int) < 2147483648) then fX0_facesLessCrossings_70 T k44 a.1 (a.2.1 + (-1 : Int)) a.2.2 else none) else fX0_facesLessCrossings_70 T k44 a.1 a.2.1 a.2.2))))
def fX0_facesLessCrossings_36 (T : gx_Ch) (k4 : Int × Int × Int → Option (Int)) (l1 l2 l3 : Int) : Option (Int) :=
  (if (-2147483648 ≤ l3 + (1 : Int) ∧ l3 + (1 : Int) < 2147483648) then k4 (l1, l2, l3 + (1 : Int)) else none)
def fX0_facesLessCrossings_4 (T : gx_Ch) (k4 : Int × Int × Int → Option (Int)) (a : Int × Int × Int) : Option (Int) :=
  (fX3_count T.2.2.2.2.2.2.1).bind (fun (q9 : Int) => (if q9 ≤ a.2.2 then gt_loop (fX0_facesLessCrossings_44 T) gt_fuel (a.1, a.2.1, (0 : Int)) else (fX3_first T.2.2.2.2.2.2.1 a.2.2).bind (fun (q21 : Int) => (fX0_pieceOfEdge (T.1, T.2.1, T.2.2.1, T.2.2.2.1, T.2.2.2.2.1, T.2.2.2.2.2.1, T.2.2.2.2.2.2.1, T.2.2.2.2.2.2.2) (Int.tdiv q21 (2 : Int))).bind (fun (q26 : Int) => (if q26 = a.1 then (if (-2147483648 ≤ a.2.1 + (1 : Int) ∧ a.2.1 + (1 : Int) < 2147483648) then fX0_facesLessCrossings_36 T k4 a.1 (a.2.1 + (1 : Int)) a.2.2 else none) else fX0_facesLessCrossings_36 T k4 a.1 a.2.1 a.2.2)))))
def fX0_facesLessCrossings (T : gx_Ch) (l1 : Int) : Option (Int) :=
  gt_loop (fX0_facesLessCrossings_4 T) gt_fuel (l1, (0 : Int), (0 : Int))
theorem iX0_facesLessCrossings_X0 : ∀ w ∈ u_ws RX0 TX0 9, w ∈ wsX0_facesLessCrossings := by decide +kernel
theorem kX0_facesLessCrossings_12 : Cond.fieldLink yX0_facesLessCrossings.cls 12 (TX0 0).1 (TX0 0).2.1 (TX0 0).2.2.1 ∈ wsX0_facesLessCrossings := by decide +kernel
theorem kX0_facesLessCrossings_28 : Cond.fieldLink yX0_facesLessCrossings.cls 28 (TX0 2).1 (TX0 2).2.1 (TX0 2).2.2.1 ∈ wsX0_facesLessCrossings := by decide +kernel
theorem kX0_facesLessCrossings_45 : Cond.fieldLink yX0_facesLessCrossings.cls 45 (TX0 6).1 (TX0 6).2.1 (TX0 6).2.2.1 ∈ wsX0_facesLessCrossings := by decide +kernel
set_option maxHeartbeats 4000000 in
theorem gX0_facesLessCrossings_70 {X : ga_X} {D : va_G} {cI cZ : ClassId} {K : Nat} {r : Nat} {res : Int} {T : gx_Ch} {σ : ga_S} {k44 : Int × Int × Int → Option (Int)} (C : ga_C X cX0_facesLessCrossings yX0_facesLessCrossings wsX0_facesLessCrossings [] (gt_rm 3 63) (D, vwCl, cI, cZ) 4) (hRet : ∀ (pc : Nat) (lv : Nat → Option ga_V) (σ' : ga_S) (z : Int), decode cX0_facesLessCrossings pc = .ok (.ireturn, 1) → z = res → (σ' = σ) → ga_G X 0 0 K pc lv [.inl z] σ') (hr0 : r ≠ 0) (hk44 : ∀ (a : Int × Int × Int) (lv : Nat → Option ga_V), gx_W r T σ → lv 0 = some (.inr r) → lv 1 = some (.inl a.1) → lv 2 = some (.inl a.2.1) → lv 3 = some (.inl a.2.2) → k44 a = some res → ga_G X 0 0 K 44 lv [] σ) {l1 l2 l3 : Int} {lv : Nat → Option ga_V} (hW : gx_W r T σ) (hl0 : lv 0 = some (.inr r)) (hl1 : lv 1 = some (.inl l1)) (hl2 : lv 2 = some (.inl l2)) (hl3 : lv 3 = some (.inl l3)) (h : fX0_facesLessCrossings_70 T k44 l1 l2 l3 = some res) : ga_G X 0 0 K 70 lv [] σ := by
  unfold fX0_facesLessCrossings_70 at h
  obtain ⟨hg, h⟩ := gt_gd h
  have g70_0 := hg
  refine ga_iinc C dX0_facesLessCrossings_70 hl3 g70_0 ?_
  refine ga_goto (tgt := 44) C dX0_facesLessCrossings_73 (by decide) ?_
  exact hk44 (l1, l2, l3 + (1 : Int)) _ hW (gt_un (by decide) hl0) (gt_un (by decide) hl1) (gt_un (by decide) hl2) gt_us h
set_option maxHeartbeats 4000000 in
theorem gX0_facesLessCrossings_44 {X : ga_X} {D : va_G} {cI cZ : ClassId} {K : Nat} {r : Nat} {res : Int} {T : gx_Ch} {σ : ga_S} (C : ga_C X cX0_facesLessCrossings yX0_facesLessCrossings wsX0_facesLessCrossings [] (gt_rm 3 63) (D, vwCl, cI, cZ) 4) (hRet : ∀ (pc : Nat) (lv : Nat → Option ga_V) (σ' : ga_S) (z : Int), decode cX0_facesLessCrossings pc = .ok (.ireturn, 1) → z = res → (σ' = σ) → ga_G X 0 0 K pc lv [.inl z] σ') (hr0 : r ≠ 0) : ∀ (n : Nat) (a : Int × Int × Int) (lv : Nat → Option ga_V), gx_W r T σ → lv 0 = some (.inr r) → lv 1 = some (.inl a.1) → lv 2 = some (.inl a.2.1) → lv 3 = some (.inl a.2.2) → gt_loop (fX0_facesLessCrossings_44 T) n a = some res → ga_G X 0 0 K 44 lv [] σ := by
  intro n
  induction n with
  | zero =>
    intro a lv _ _ _ _ _ h
    exact absurd (show (none : Option _) = some _ from h) (fun q => by cases q)
  | succ n hk44 =>
    intro a lv hW hl0 hl1 hl2 hl3 h
    have h : fX0_facesLessCrossings_44 T (gt_loop (fX0_facesLessCrossings_44 T) n) a = some res := h
    revert hk44 h
    generalize gt_loop (fX0_facesLessCrossings_44 T) n = k44
    intro hk44 h
    unfold fX0_facesLessCrossings_44 at h
    refine ga_iload_n C dX0_facesLessCrossings_44 rfl hl3 ?_
    refine ga_aload_n C dX0_facesLessCrossings_45 rfl hl0 hr0 ?_
    refine gt_geta C (iX0_facesLessCrossings_X0) hW.2.2.2.2.2.2.2 0 rfl rfl (by decide) kX0_facesLessCrossings_12 dX0_facesLessCrossings_46 ?_
    obtain ⟨q49, hq, h⟩ := Option.bind_eq_some_iff.mp h
    refine gt_cVi (n := 0) (st := [.inl a.2.2]) C (eX4_crossings X.2.1 D cI cZ K (Nat.succ_ne_zero _) hW.1 hq) gX0_facesLessCrossings_X4_crossings rfl (by decide +kernel) rfl ⟨Nat.le_of_ble_eq_true rfl, Nat.le_of_ble_eq_true rfl⟩ hW.1.1 rfl rfl (Nat.le_of_ble_eq_true rfl) rfl dX0_facesLessCrossings_49 (fun σ' hp => ?_)
    subst hp
    refine ga_icmp_ge (tgt := 76) C dX0_facesLessCrossings_52 (by decide) (fun c1 => ?_) (fun c1 => ?_)
    · have h := gt_ip h c1
      refine ga_iload_n C dX0_facesLessCrossings_76 rfl hl2 ?_
      cases h
      exact hRet _ _ _ _ dX0_facesLessCrossings_77 rfl rfl
    · have h := gt_in h c1
      refine ga_aload_n C dX0_facesLessCrossings_55 rfl hl0 hr0 ?_
      refine gt_geta C (iX0_facesLessCrossings_X0) hW.2.2.2.2.2.2.2 2 rfl rfl (by decide) kX0_facesLessCrossings_28 dX0_facesLessCrossings_56 ?_
      refine ga_iload_n C dX0_facesLessCrossings_59 rfl hl3 ?_
      obtain ⟨q60, hq, h⟩ := Option.bind_eq_some_iff.mp h
      refine gt_cVi (n := 1) (st := []) C (eX2_numberOf X.2.1 D cI cZ K (Nat.succ_ne_zero _) hW.2.2.1 hq) gX0_facesLessCrossings_X2_numberOf rfl (by decide +kernel) rfl ⟨Nat.le_of_ble_eq_true rfl, Nat.le_of_ble_eq_true rfl⟩ hW.2.2.1.1 rfl rfl (Nat.le_of_ble_eq_true rfl) rfl dX0_facesLessCrossings_60 (fun σ' hp => ?_)
      subst hp
      refine ga_iload_n C dX0_facesLessCrossings_63 rfl hl1 ?_
      refine ga_icmp_ne (tgt := 70) C dX0_facesLessCrossings_64 (by decide) (fun c1 => ?_) (fun c1 => ?_)
      · have h := gt_in h c1
        exact gX0_facesLessCrossings_70 C hRet hr0 hk44 hW hl0 hl1 hl2 hl3 h
      · have h := gt_ip h c1
        obtain ⟨hg, h⟩ := gt_gd h
        have g67_0 := hg
        refine ga_iinc C dX0_facesLessCrossings_67 hl2 g67_0 ?_
        exact gX0_facesLessCrossings_70 C hRet hr0 hk44 hW (gt_un (by decide) hl0) (gt_un (by decide) hl1) gt_us (gt_un (by decide) hl3) h
set_option maxHeartbeats 4000000 in
theorem gX0_facesLessCrossings_36 {X : ga_X} {D : va_G} {cI cZ : ClassId} {K : Nat} {r : Nat} {res : Int} {T : gx_Ch} {σ : ga_S} {k4 : Int × Int × Int → Option (Int)} (C : ga_C X cX0_facesLessCrossings yX0_facesLessCrossings wsX0_facesLessCrossings [] (gt_rm 3 63) (D, vwCl, cI, cZ) 4) (hRet : ∀ (pc : Nat) (lv : Nat → Option ga_V) (σ' : ga_S) (z : Int), decode cX0_facesLessCrossings pc = .ok (.ireturn, 1) → z = res → (σ' = σ) → ga_G X 0 0 K pc lv [.inl z] σ') (hr0 : r ≠ 0) (hk4 : ∀ (a : Int × Int × Int) (lv : Nat → Option ga_V), gx_W r T σ → lv 0 = some (.inr r) → lv 1 = some (.inl a.1) → lv 2 = some (.inl a.2.1) → lv 3 = some (.inl a.2.2) → k4 a = some res → ga_G X 0 0 K 4 lv [] σ) {l1 l2 l3 : Int} {lv : Nat → Option ga_V} (hW : gx_W r T σ) (hl0 : lv 0 = some (.inr r)) (hl1 : lv 1 = some (.inl l1)) (hl2 : lv 2 = some (.inl l2)) (hl3 : lv 3 = some (.inl l3)) (h : fX0_facesLessCrossings_36 T k4 l1 l2 l3 = some res) : ga_G X 0 0 K 36 lv [] σ := by
  unfold fX0_facesLessCrossings_36 at h
  obtain ⟨hg, h⟩ := gt_gd h
  have g36_0 := hg
  refine ga_iinc C dX0_facesLessCrossings_36 hl3 g36_0 ?_
  refine ga_goto (tgt := 4) C dX0_facesLessCrossings_39 (by decide) ?_
  exact hk4 (l1, l2, l3 + (1 : Int)) _ hW (gt_un (by decide) hl0) (gt_un (by decide) hl1) (gt_un (by decide) hl2) gt_us h
set_option maxHeartbeats 4000000 in
theorem gX0_facesLessCrossings_4 {X : ga_X} {D : va_G} {cI cZ : ClassId} {K : Nat} {r : Nat} {res : Int} {T : gx_Ch} {σ : ga_S} (C : ga_C X cX0_facesLessCrossings yX0_facesLessCrossings wsX0_facesLessCrossings [] (gt_rm 3 63) (D, vwCl, cI, cZ) 4) (hRet : ∀ (pc : Nat) (lv : Nat → Option ga_V) (σ' : ga_S) (z : Int), decode cX0_facesLessCrossings pc = .ok (.ireturn, 1) → z = res → (σ' = σ) → ga_G X 0 0 K pc lv [.inl z] σ') (hr0 : r ≠ 0) : ∀ (n : Nat) (a : Int × Int × Int) (lv : Nat → Option ga_V), gx_W r T σ → lv 0 = some (.inr r) → lv 1 = some (.inl a.1) → lv 2 = some (.inl a.2.1) → lv 3 = some (.inl a.2.2) → gt_loop (fX0_facesLessCrossings_4 T) n a = some res → ga_G X 0 0 K 4 lv [] σ := by
  intro n
  induction n with
  | zero =>
    intro a lv _ _ _ _ _ h
    exact absurd (show (none : Option _) = some _ from h) (fun q => by cases q)
  | succ n hk4 =>
    intro a lv hW hl0 hl1 hl2 hl3 h
    have h : fX0_facesLessCrossings_4 T (gt_loop (fX0_facesLessCrossings_4 T) n) a = some res := h
    revert hk4 h
    generalize gt_loop (fX0_facesLessCrossings_4 T) n = k4
    intro hk4 h
    unfold fX0_facesLessCrossings_4 at h
    refine ga_iload_n C dX0_facesLessCrossings_4 rfl hl3 ?_
    refine ga_aload_n C dX0_facesLessCrossings_5 rfl hl0 hr0 ?_
    refine gt_geta C (iX0_facesLessCrossings_X0) hW.2.2.2.2.2.2.2 6 rfl rfl (by decide) kX0_facesLessCrossings_45 dX0_facesLessCrossings_6 ?_
    obtain ⟨q9, hq, h⟩ := Option.bind_eq_some_iff.mp h
    refine gt_cVi (n := 0) (st := [.inl a.2.2]) C (eX3_count X.2.1 D cI cZ K (Nat.succ_ne_zero _) hW.2.2.2.2.2.2.1 hq) gX0_facesLessCrossings_X3_count rfl (by decide +kernel) rfl ⟨Nat.le_of_ble_eq_true rfl, Nat.le_of_ble_eq_true rfl⟩ hW.2.2.2.2.2.2.1.1 rfl rfl (Nat.le_of_ble_eq_true rfl) rfl dX0_facesLessCrossings_9 (fun σ' hp => ?_)
    subst hp
    refine ga_icmp_ge (tgt := 42) C dX0_facesLessCrossings_12 (by decide) (fun c1 => ?_) (fun c1 => ?_)
    · have h := gt_ip h c1
      refine ga_iconst C dX0_facesLessCrossings_42 ⟨by decide, by decide⟩ ?_
      refine ga_istore_n C dX0_facesLessCrossings_43 rfl (by decide) ?_
      exact gX0_facesLessCrossings_44 C hRet hr0 gt_fuel (a.1, a.2.1, (0 : Int)) _ hW (gt_un (by decide) hl0) (gt_un (by decide) hl1) (gt_un (by decide) hl2) gt_us h
    · have h := gt_in h c1
      refine ga_aload_n C dX0_facesLessCrossings_15 rfl hl0 hr0 ?_
      refine ga_aload_n C dX0_facesLessCrossings_16 rfl hl0 hr0 ?_
      refine gt_geta C (iX0_facesLessCrossings_X0) hW.2.2.2.2.2.2.2 6 rfl rfl (by decide) kX0_facesLessCrossings_45 dX0_facesLessCrossings_17 ?_
      refine ga_iload_n C dX0_facesLessCrossings_20 rfl hl3 ?_
      obtain ⟨q21, hq, h⟩ := Option.bind_eq_some_iff.mp h
      refine gt_cVi (n := 1) (st := [.inr r]) C (eX3_first X.2.1 D cI cZ K (Nat.succ_ne_zero _) hW.2.2.2.2.2.2.1 hq) gX0_facesLessCrossings_X3_first rfl (by decide +kernel) rfl ⟨Nat.le_of_ble_eq_true rfl, Nat.le_of_ble_eq_true rfl⟩ hW.2.2.2.2.2.2.1.1 rfl rfl (Nat.le_of_ble_eq_true rfl) rfl dX0_facesLessCrossings_21 (fun σ' hp => ?_)
      subst hp
      refine ga_iconst C dX0_facesLessCrossings_24 ⟨by decide, by decide⟩ ?_
      refine ga_idiv C dX0_facesLessCrossings_25 (by decide) ?_
      obtain ⟨q26, hq, h⟩ := Option.bind_eq_some_iff.mp h
      refine gt_cVi (n := 1) (st := []) C (eX0_pieceOfEdge X.2.1 D cI cZ K hr0 hW hq) gX0_facesLessCrossings_X0_pieceOfEdge rfl (by decide +kernel) rfl ⟨Nat.le_of_ble_eq_true rfl, Nat.le_of_ble_eq_true rfl⟩ hW.2.2.2.2.2.2.2.1 rfl rfl (Nat.le_of_ble_eq_true rfl) rfl dX0_facesLessCrossings_26 (fun σ' hp => ?_)
      subst hp
      refine ga_iload_n C dX0_facesLessCrossings_29 rfl hl1 ?_
      refine ga_icmp_ne (tgt := 36) C dX0_facesLessCrossings_30 (by decide) (fun c1 => ?_) (fun c1 => ?_)
      · have h := gt_in h c1
        exact gX0_facesLessCrossings_36 C hRet hr0 hk4 hW hl0 hl1 hl2 hl3 h
      · have h := gt_ip h c1
        obtain ⟨hg, h⟩ := gt_gd h
        have g33_0 := hg
        refine ga_iinc C dX0_facesLessCrossings_33 hl2 g33_0 ?_
        exact gX0_facesLessCrossings_36 C hRet hr0 hk4 hW (gt_un (by decide) hl0) (gt_un (by decide) hl1) gt_us (gt_un (by decide) hl3) h
set_option maxHeartbeats 4000000 in
theorem gX0_facesLessCrossings_0 {X : ga_X} {D : va_G} {cI cZ : ClassId} {K : Nat} {r : Nat} {res : Int} {T : gx_Ch} {σ : ga_S} (C : ga_C X cX0_facesLessCrossings yX0_facesLessCrossings wsX0_facesLessCrossings [] (gt_rm 3 63) (D, vwCl, cI, cZ) 4) (hRet : ∀ (pc : Nat) (lv : Nat → Option ga_V) (σ' : ga_S) (z : Int), decode cX0_facesLessCrossings pc = .ok (.ireturn, 1) → z = res → (σ' = σ) → ga_G X 0 0 K pc lv [.inl z] σ') (hr0 : r ≠ 0) {l1 : Int} {lv : Nat → Option ga_V} (hW : gx_W r T σ) (hl0 : lv 0 = some (.inr r)) (hl1 : lv 1 = some (.inl l1)) (h : fX0_facesLessCrossings T l1 = some res) : ga_G X 0 0 K 0 lv [] σ := by
  unfold fX0_facesLessCrossings at h
  refine ga_iconst C dX0_facesLessCrossings_0 ⟨by decide, by decide⟩ ?_
  refine ga_istore_n C dX0_facesLessCrossings_1 rfl (by decide) ?_
  refine ga_iconst C dX0_facesLessCrossings_2 ⟨by decide, by decide⟩ ?_
  refine ga_istore_n C dX0_facesLessCrossings_3 rfl (by decide) ?_
  exact gX0_facesLessCrossings_4 C hRet hr0 gt_fuel (l1, (0 : Int), (0 : Int)) _ hW (gt_un (by decide) (gt_un (by decide) hl0)) (gt_un (by decide) (gt_un (by decide) hl1)) (gt_un (by decide) gt_us) gt_us h
set_option maxHeartbeats 4000000 in
theorem eX0_facesLessCrossings (l : Launch) (D : va_G) (cI cZ : ClassId) (K : Nat) {r : Nat} (hr0 : r ≠ 0) {σ : ga_S} {T : gx_Ch} (hW : gx_W r T σ) {l1 : Int} {res : Int} (h : fX0_facesLessCrossings T l1 = some res) : ga_Ev l (D, vwCl, cI, cZ) yX0_facesLessCrossings wsX0_facesLessCrossings (gt_rm 3 63) [] 0 0 K [.inr r, .inl l1] σ (fun σ' rv => (σ' = σ) ∧ rv = some (.inl res)) := by
  refine ga_ofI (by decide +kernel) rfl gt_hcl (Nat.le_of_ble_eq_true rfl) (fun X hX C hret => ?_)
  exact gX0_facesLessCrossings_0 C (fun pc lv σ' z d hz hp => hret pc lv σ' z d ⟨hp, by rw [hz]⟩) hr0 hW rfl rfl h
-- X0_leastCrossingOnNoSphere: leastCrossingOnNoSphere()I
def fX0_leastCrossingOnNoSphere_43 (T : gx_Ch) (k2 : Int → Option (Int)) (l1 : Int) : Option (Int) :=
  (if (-2147483648 ≤ l1 + (1 : Int) ∧ l1 + (1 : Int) < 2147483648) then k2 (l1 + (1 : Int)) else none)
def fX0_leastCrossingOnNoSphere_2 (T : gx_Ch) (k2 : Int → Option (Int)) (a : Int) : Option (Int) :=
  (fX4_crossings T.1).bind (fun (q7 : Int) => (if q7 ≤ a then some (-1 : Int) else (fX2_least T.2.2.1 a).bind (fun (q18 : Int) => (if q18 = a then (fX2_numberOf T.2.2.1 a).bind (fun (q31 : Int) => (fX0_facesLessCrossings (T.1, T.2.1, T.2.2.1, T.2.2.2.1, T.2.2.2.2.1, T.2.2.2.2.2.1, T.2.2.2.2.2.2.1, T.2.2.2.2.2.2.2) q31).bind (fun (q34 : Int) => (if q34 = (2 : Int) then fX0_leastCrossingOnNoSphere_43 T k2 a else some a))) else fX0_leastCrossingOnNoSphere_43 T k2 a))))
def fX0_leastCrossingOnNoSphere (T : gx_Ch) : Option (Int) :=
  gt_loop (fX0_leastCrossingOnNoSphere_2 T) gt_fuel (0 : Int)
theorem iX0_leastCrossingOnNoSphere_X0 : ∀ w ∈ u_ws RX0 TX0 9, w ∈ wsX0_leastCrossingOnNoSphere := by decide +kernel
theorem kX0_leastCrossingOnNoSphere_12 : Cond.fieldLink yX0_leastCrossingOnNoSphere.cls 12 (TX0 0).1 (TX0 0).2.1 (TX0 0).2.2.1 ∈ wsX0_leastCrossingOnNoSphere := by decide +kernel
theorem kX0_leastCrossingOnNoSphere_28 : Cond.fieldLink yX0_leastCrossingOnNoSphere.cls 28 (TX0 2).1 (TX0 2).2.1 (TX0 2).2.2.1 ∈ wsX0_leastCrossingOnNoSphere := by decide +kernel
set_option maxHeartbeats 4000000 in
theorem gX0_leastCrossingOnNoSphere_43 {X : ga_X} {D : va_G} {cI cZ : ClassId} {K : Nat} {r : Nat} {res : Int} {T : gx_Ch} {σ : ga_S} {k2 : Int → Option (Int)} (C : ga_C X cX0_leastCrossingOnNoSphere yX0_leastCrossingOnNoSphere wsX0_leastCrossingOnNoSphere [] (gt_rm 4 86) (D, vwCl, cI, cZ) 2) (hRet : ∀ (pc : Nat) (lv : Nat → Option ga_V) (σ' : ga_S) (z : Int), decode cX0_leastCrossingOnNoSphere pc = .ok (.ireturn, 1) → z = res → (σ' = σ) → ga_G X 0 0 K pc lv [.inl z] σ') (hr0 : r ≠ 0) (hk2 : ∀ (a : Int) (lv : Nat → Option ga_V), gx_W r T σ → lv 0 = some (.inr r) → lv 1 = some (.inl a) → k2 a = some res → ga_G X 0 0 K 2 lv [] σ) {l1 : Int} {lv : Nat → Option ga_V} (hW : gx_W r T σ) (hl0 : lv 0 = some (.inr r)) (hl1 : lv 1 = some (.inl l1)) (h : fX0_leastCrossingOnNoSphere_43 T k2 l1 = some res) : ga_G X 0 0 K 43 lv [] σ := by
  unfold fX0_leastCrossingOnNoSphere_43 at h
  obtain ⟨hg, h⟩ := gt_gd h
  have g43_0 := hg
  refine ga_iinc C dX0_leastCrossingOnNoSphere_43 hl1 g43_0 ?_
  refine ga_goto (tgt := 2) C dX0_leastCrossingOnNoSphere_46 (by decide) ?_
  exact hk2 (l1 + (1 : Int)) _ hW (gt_un (by decide) hl0) gt_us h
set_option maxHeartbeats 4000000 in
theorem gX0_leastCrossingOnNoSphere_2 {X : ga_X} {D : va_G} {cI cZ : ClassId} {K : Nat} {r : Nat} {res : Int} {T : gx_Ch} {σ : ga_S} (C : ga_C X cX0_leastCrossingOnNoSphere yX0_leastCrossingOnNoSphere wsX0_leastCrossingOnNoSphere [] (gt_rm 4 86) (D, vwCl, cI, cZ) 2) (hRet : ∀ (pc : Nat) (lv : Nat → Option ga_V) (σ' : ga_S) (z : Int), decode cX0_leastCrossingOnNoSphere pc = .ok (.ireturn, 1) → z = res → (σ' = σ) → ga_G X 0 0 K pc lv [.inl z] σ') (hr0 : r ≠ 0) : ∀ (n : Nat) (a : Int) (lv : Nat → Option ga_V), gx_W r T σ → lv 0 = some (.inr r) → lv 1 = some (.inl a) → gt_loop (fX0_leastCrossingOnNoSphere_2 T) n a = some res → ga_G X 0 0 K 2 lv [] σ := by
  intro n
  induction n with
  | zero =>
    intro a lv _ _ _ h
    exact absurd (show (none : Option _) = some _ from h) (fun q => by cases q)
  | succ n hk2 =>
    intro a lv hW hl0 hl1 h
    have h : fX0_leastCrossingOnNoSphere_2 T (gt_loop (fX0_leastCrossingOnNoSphere_2 T) n) a = some res := h
    revert hk2 h
    generalize gt_loop (fX0_leastCrossingOnNoSphere_2 T) n = k2
    intro hk2 h
    unfold fX0_leastCrossingOnNoSphere_2 at h
    refine ga_iload_n C dX0_leastCrossingOnNoSphere_2 rfl hl1 ?_
    refine ga_aload_n C dX0_leastCrossingOnNoSphere_3 rfl hl0 hr0 ?_
    refine gt_geta C (iX0_leastCrossingOnNoSphere_X0) hW.2.2.2.2.2.2.2 0 rfl rfl (by decide) kX0_leastCrossingOnNoSphere_12 dX0_leastCrossingOnNoSphere_4 ?_
    obtain ⟨q7, hq, h⟩ := Option.bind_eq_some_iff.mp h
    refine gt_cVi (n := 0) (st := [.inl a]) C (eX4_crossings X.2.1 D cI cZ K (Nat.succ_ne_zero _) hW.1 hq) gX0_leastCrossingOnNoSphere_X4_crossings rfl (by decide +kernel) rfl ⟨Nat.le_of_ble_eq_true rfl, Nat.le_of_ble_eq_true rfl⟩ hW.1.1 rfl rfl (Nat.le_of_ble_eq_true rfl) rfl dX0_leastCrossingOnNoSphere_7 (fun σ' hp => ?_)
    subst hp
    refine ga_icmp_ge (tgt := 49) C dX0_leastCrossingOnNoSphere_10 (by decide) (fun c1 => ?_) (fun c1 => ?_)
    · have h := gt_ip h c1
      refine ga_iconst C dX0_leastCrossingOnNoSphere_49 ⟨by decide, by decide⟩ ?_
      cases h
      exact hRet _ _ _ _ dX0_leastCrossingOnNoSphere_50 rfl rfl
    · have h := gt_in h c1
      refine ga_aload_n C dX0_leastCrossingOnNoSphere_13 rfl hl0 hr0 ?_
      refine gt_geta C (iX0_leastCrossingOnNoSphere_X0) hW.2.2.2.2.2.2.2 2 rfl rfl (by decide) kX0_leastCrossingOnNoSphere_28 dX0_leastCrossingOnNoSphere_14 ?_
      refine ga_iload_n C dX0_leastCrossingOnNoSphere_17 rfl hl1 ?_
      obtain ⟨q18, hq, h⟩ := Option.bind_eq_some_iff.mp h
      refine gt_cVi (n := 1) (st := []) C (eX2_least X.2.1 D cI cZ K (Nat.succ_ne_zero _) hW.2.2.1 hq) gX0_leastCrossingOnNoSphere_X2_least rfl (by decide +kernel) rfl ⟨Nat.le_of_ble_eq_true rfl, Nat.le_of_ble_eq_true rfl⟩ hW.2.2.1.1 rfl rfl (Nat.le_of_ble_eq_true rfl) rfl dX0_leastCrossingOnNoSphere_18 (fun σ' hp => ?_)
      subst hp
      refine ga_iload_n C dX0_leastCrossingOnNoSphere_21 rfl hl1 ?_
      refine ga_icmp_ne (tgt := 43) C dX0_leastCrossingOnNoSphere_22 (by decide) (fun c1 => ?_) (fun c1 => ?_)
      · have h := gt_in h c1
        exact gX0_leastCrossingOnNoSphere_43 C hRet hr0 hk2 hW hl0 hl1 h
      · have h := gt_ip h c1
        refine ga_aload_n C dX0_leastCrossingOnNoSphere_25 rfl hl0 hr0 ?_
        refine ga_aload_n C dX0_leastCrossingOnNoSphere_26 rfl hl0 hr0 ?_
        refine gt_geta C (iX0_leastCrossingOnNoSphere_X0) hW.2.2.2.2.2.2.2 2 rfl rfl (by decide) kX0_leastCrossingOnNoSphere_28 dX0_leastCrossingOnNoSphere_27 ?_
        refine ga_iload_n C dX0_leastCrossingOnNoSphere_30 rfl hl1 ?_
        obtain ⟨q31, hq, h⟩ := Option.bind_eq_some_iff.mp h
        refine gt_cVi (n := 1) (st := [.inr r]) C (eX2_numberOf X.2.1 D cI cZ K (Nat.succ_ne_zero _) hW.2.2.1 hq) gX0_leastCrossingOnNoSphere_X2_numberOf rfl (by decide +kernel) rfl ⟨Nat.le_of_ble_eq_true rfl, Nat.le_of_ble_eq_true rfl⟩ hW.2.2.1.1 rfl rfl (Nat.le_of_ble_eq_true rfl) rfl dX0_leastCrossingOnNoSphere_31 (fun σ' hp => ?_)
        subst hp
        obtain ⟨q34, hq, h⟩ := Option.bind_eq_some_iff.mp h
        refine gt_cVi (n := 1) (st := []) C (eX0_facesLessCrossings X.2.1 D cI cZ K hr0 hW hq) gX0_leastCrossingOnNoSphere_X0_facesLessCrossings rfl (by decide +kernel) rfl ⟨Nat.le_of_ble_eq_true rfl, Nat.le_of_ble_eq_true rfl⟩ hW.2.2.2.2.2.2.2.1 rfl rfl (Nat.le_of_ble_eq_true rfl) rfl dX0_leastCrossingOnNoSphere_34 (fun σ' hp => ?_)
        subst hp
        refine ga_iconst C dX0_leastCrossingOnNoSphere_37 ⟨by decide, by decide⟩ ?_
        refine ga_icmp_eq (tgt := 43) C dX0_leastCrossingOnNoSphere_38 (by decide) (fun c1 => ?_) (fun c1 => ?_)
        · have h := gt_ip h c1
          exact gX0_leastCrossingOnNoSphere_43 C hRet hr0 hk2 hW hl0 hl1 h
        · have h := gt_in h c1
          refine ga_iload_n C dX0_leastCrossingOnNoSphere_41 rfl hl1 ?_
          cases h
          exact hRet _ _ _ _ dX0_leastCrossingOnNoSphere_42 rfl rfl
set_option maxHeartbeats 4000000 in
theorem gX0_leastCrossingOnNoSphere_0 {X : ga_X} {D : va_G} {cI cZ : ClassId} {K : Nat} {r : Nat} {res : Int} {T : gx_Ch} {σ : ga_S} (C : ga_C X cX0_leastCrossingOnNoSphere yX0_leastCrossingOnNoSphere wsX0_leastCrossingOnNoSphere [] (gt_rm 4 86) (D, vwCl, cI, cZ) 2) (hRet : ∀ (pc : Nat) (lv : Nat → Option ga_V) (σ' : ga_S) (z : Int), decode cX0_leastCrossingOnNoSphere pc = .ok (.ireturn, 1) → z = res → (σ' = σ) → ga_G X 0 0 K pc lv [.inl z] σ') (hr0 : r ≠ 0) {lv : Nat → Option ga_V} (hW : gx_W r T σ) (hl0 : lv 0 = some (.inr r)) (h : fX0_leastCrossingOnNoSphere T = some res) : ga_G X 0 0 K 0 lv [] σ := by
  unfold fX0_leastCrossingOnNoSphere at h
  refine ga_iconst C dX0_leastCrossingOnNoSphere_0 ⟨by decide, by decide⟩ ?_
  refine ga_istore_n C dX0_leastCrossingOnNoSphere_1 rfl (by decide) ?_
  exact gX0_leastCrossingOnNoSphere_2 C hRet hr0 gt_fuel (0 : Int) _ hW (gt_un (by decide) hl0) gt_us h
set_option maxHeartbeats 4000000 in
theorem eX0_leastCrossingOnNoSphere (l : Launch) (D : va_G) (cI cZ : ClassId) (K : Nat) {r : Nat} (hr0 : r ≠ 0) {σ : ga_S} {T : gx_Ch} (hW : gx_W r T σ) {res : Int} (h : fX0_leastCrossingOnNoSphere T = some res) : ga_Ev l (D, vwCl, cI, cZ) yX0_leastCrossingOnNoSphere wsX0_leastCrossingOnNoSphere (gt_rm 4 86) [] 0 0 K [.inr r] σ (fun σ' rv => (σ' = σ) ∧ rv = some (.inl res)) := by
  refine ga_ofI (by decide +kernel) rfl gt_hcl (Nat.le_of_ble_eq_true rfl) (fun X hX C hret => ?_)
  exact gX0_leastCrossingOnNoSphere_0 C (fun pc lv σ' z d hz hp => hret pc lv σ' z d ⟨hp, by rw [hz]⟩) hr0 hW rfl h
-- X0_traceStrands: traceStrands()V
def fX0_traceStrands_30 (k30 : gx_Ch × Int → Option (gx_Ch)) (a : gx_Ch × Int) : Option (gx_Ch) :=
  (fX1_count a.1.2.1).bind (fun (q35 : Int) => (if q35 ≤ a.2 then (fX3_trace a.1.2.2.2.2.1).bind (fun (q107 : gt_T) => (fX3_trace a.1.2.2.2.2.2.1).bind (fun (q114 : gt_T) => some (a.1.1, a.1.2.1, a.1.2.2.1, a.1.2.2.2.1, q107, q114, a.1.2.2.2.2.2.2.1, a.1.2.2.2.2.2.2.2))) else (fX1_to a.1.2.1 a.2).bind (fun (q55 : Int) => (fX4_across q55).bind (fun (q58 : Int) => (fX1_at a.1.2.1 q58).bind (fun (q61 : Int) => (fX3_link a.1.2.2.2.2.1 a.2 q61).bind (fun (q64 : gt_T) => (fX1_to a.1.2.1 a.2).bind (fun (q85 : Int) => (fX4_seifertOut a.1.1 q85).bind (fun (q88 : Int) => (fX1_at a.1.2.1 q88).bind (fun (q91 : Int) => (fX3_link a.1.2.2.2.2.2.1 a.2 q91).bind (fun (q94 : gt_T) => (if (-2147483648 ≤ a.2 + (1 : Int) ∧ a.2 + (1 : Int) < 2147483648) then k30 ((a.1.1, a.1.2.1, a.1.2.2.1, a.1.2.2.2.1, q64, q94, a.1.2.2.2.2.2.2.1, a.1.2.2.2.2.2.2.2), a.2 + (1 : Int)) else none)))))))))))
def fX0_traceStrands (T : gx_Ch) : Option (gx_Ch) :=
  (fX1_count T.2.1).bind (fun (q8 : Int) => (fX3_begin T.2.2.2.2.1 q8).bind (fun (q11 : gt_T) => (fX1_count T.2.1).bind (fun (q22 : Int) => (fX3_begin T.2.2.2.2.2.1 q22).bind (fun (q25 : gt_T) => gt_loop (fX0_traceStrands_30) gt_fuel ((T.1, T.2.1, T.2.2.1, T.2.2.2.1, q11, q25, T.2.2.2.2.2.2.1, T.2.2.2.2.2.2.2), (0 : Int))))))
theorem iX0_traceStrands_X0 : ∀ w ∈ u_ws RX0 TX0 9, w ∈ wsX0_traceStrands := by decide +kernel
theorem kX0_traceStrands_12 : Cond.fieldLink yX0_traceStrands.cls 12 (TX0 0).1 (TX0 0).2.1 (TX0 0).2.2.1 ∈ wsX0_traceStrands := by decide +kernel
theorem kX0_traceStrands_21 : Cond.fieldLink yX0_traceStrands.cls 21 (TX0 1).1 (TX0 1).2.1 (TX0 1).2.2.1 ∈ wsX0_traceStrands := by decide +kernel
theorem kX0_traceStrands_38 : Cond.fieldLink yX0_traceStrands.cls 38 (TX0 4).1 (TX0 4).2.1 (TX0 4).2.2.1 ∈ wsX0_traceStrands := by decide +kernel
theorem kX0_traceStrands_42 : Cond.fieldLink yX0_traceStrands.cls 42 (TX0 5).1 (TX0 5).2.1 (TX0 5).2.2.1 ∈ wsX0_traceStrands := by decide +kernel
set_option maxHeartbeats 4000000 in
theorem gX0_traceStrands_30 {X : ga_X} {D : va_G} {cI cZ : ClassId} {K : Nat} {r : Nat} {σ0 : ga_S} {res : gx_Ch} (C : ga_C X cX0_traceStrands yX0_traceStrands wsX0_traceStrands [] (gt_rm 4 85) (D, vwCl, cI, cZ) 2) (hRet : ∀ (pc : Nat) (lv : Nat → Option ga_V) (σ' : ga_S), decode cX0_traceStrands pc = .ok (.return_, 1) → (gx_W r res σ' ∧ gt_F r (r + 32) σ0 σ') → ga_G X 0 0 K pc lv [] σ') (hr0 : r ≠ 0) : ∀ (n : Nat) (a : gx_Ch × Int) (σ : ga_S) (lv : Nat → Option ga_V), gx_W r a.1 σ → gt_F r (r + 32) σ0 σ → lv 0 = some (.inr r) → lv 1 = some (.inl a.2) → gt_loop (fX0_traceStrands_30) n a = some res → ga_G X 0 0 K 30 lv [] σ := by
  intro n
  induction n with
  | zero =>
    intro a _ lv _ _ _ _ h
    exact absurd (show (none : Option _) = some _ from h) (fun q => by cases q)
  | succ n hk30 =>
    intro a σ lv hW hF hl0 hl1 h
    have h : fX0_traceStrands_30 (gt_loop (fX0_traceStrands_30) n) a = some res := h
    revert hk30 h
    generalize gt_loop (fX0_traceStrands_30) n = k30
    intro hk30 h
    unfold fX0_traceStrands_30 at h
    refine ga_iload_n C dX0_traceStrands_30 rfl hl1 ?_
    refine ga_aload_n C dX0_traceStrands_31 rfl hl0 hr0 ?_
    refine gt_geta C (iX0_traceStrands_X0) hW.2.2.2.2.2.2.2 1 rfl rfl (by decide) kX0_traceStrands_21 dX0_traceStrands_32 ?_
    obtain ⟨q35, hq, h⟩ := Option.bind_eq_some_iff.mp h
    refine gt_cVi (n := 0) (st := [.inl a.2]) C (eX1_count X.2.1 D cI cZ K (Nat.succ_ne_zero _) hW.2.1 hq) gX0_traceStrands_X1_count rfl (by decide +kernel) rfl ⟨Nat.le_of_ble_eq_true rfl, Nat.le_of_ble_eq_true rfl⟩ hW.2.1.1 rfl rfl (Nat.le_of_ble_eq_true rfl) rfl dX0_traceStrands_35 (fun σ' hp => ?_)
    subst hp
    refine ga_icmp_ge (tgt := 103) C dX0_traceStrands_38 (by decide) (fun c1 => ?_) (fun c1 => ?_)
    · have h := gt_ip h c1
      refine ga_aload_n C dX0_traceStrands_103 rfl hl0 hr0 ?_
      refine gt_geta C (iX0_traceStrands_X0) hW.2.2.2.2.2.2.2 4 rfl rfl (by decide) kX0_traceStrands_38 dX0_traceStrands_104 ?_
      obtain ⟨q107, hq, h⟩ := Option.bind_eq_some_iff.mp h
      refine gt_cVv (n := 0) (st := []) C (eX3_trace X.2.1 D cI cZ K (Nat.succ_ne_zero _) hW.2.2.2.2.1 hq) gX0_traceStrands_X3_trace rfl (by decide +kernel) rfl ⟨Nat.le_of_ble_eq_true rfl, Nat.le_of_ble_eq_true rfl⟩ hW.2.2.2.2.1.1 rfl rfl (Nat.le_of_ble_eq_true rfl) rfl dX0_traceStrands_107 (fun σ' hp => ?_)
      obtain ⟨hw, hf⟩ := hp
      have hW := gx_W4 hW hw hf
      have hF := hF.tr hf (by omega) (by omega)
      clear hf
      refine ga_aload_n C dX0_traceStrands_110 rfl hl0 hr0 ?_
      refine gt_geta C (iX0_traceStrands_X0) hW.2.2.2.2.2.2.2 5 rfl rfl (by decide) kX0_traceStrands_42 dX0_traceStrands_111 ?_
      obtain ⟨q114, hq, h⟩ := Option.bind_eq_some_iff.mp h
      refine gt_cVv (n := 0) (st := []) C (eX3_trace X.2.1 D cI cZ K (Nat.succ_ne_zero _) hW.2.2.2.2.2.1 hq) gX0_traceStrands_X3_trace rfl (by decide +kernel) rfl ⟨Nat.le_of_ble_eq_true rfl, Nat.le_of_ble_eq_true rfl⟩ hW.2.2.2.2.2.1.1 rfl rfl (Nat.le_of_ble_eq_true rfl) rfl dX0_traceStrands_114 (fun σ' hp => ?_)
      obtain ⟨hw, hf⟩ := hp
      have hW := gx_W5 hW hw hf
      have hF := hF.tr hf (by omega) (by omega)
      clear hf
      cases h
      exact hRet _ _ _ dX0_traceStrands_117 ⟨hW, hF⟩
    · have h := gt_in h c1
      refine ga_aload_n C dX0_traceStrands_41 rfl hl0 hr0 ?_
      refine gt_geta C (iX0_traceStrands_X0) hW.2.2.2.2.2.2.2 4 rfl rfl (by decide) kX0_traceStrands_38 dX0_traceStrands_42 ?_
      refine ga_iload_n C dX0_traceStrands_45 rfl hl1 ?_
      refine ga_aload_n C dX0_traceStrands_46 rfl hl0 hr0 ?_
      refine gt_geta C (iX0_traceStrands_X0) hW.2.2.2.2.2.2.2 1 rfl rfl (by decide) kX0_traceStrands_21 dX0_traceStrands_47 ?_
      refine ga_aload_n C dX0_traceStrands_50 rfl hl0 hr0 ?_
      refine gt_geta C (iX0_traceStrands_X0) hW.2.2.2.2.2.2.2 1 rfl rfl (by decide) kX0_traceStrands_21 dX0_traceStrands_51 ?_
      refine ga_iload_n C dX0_traceStrands_54 rfl hl1 ?_
      obtain ⟨q55, hq, h⟩ := Option.bind_eq_some_iff.mp h
      refine gt_cVi (n := 1) (st := [.inr (r + 4), .inl a.2, .inr (r + 16)]) C (eX1_to X.2.1 D cI cZ K (Nat.succ_ne_zero _) hW.2.1 hq) gX0_traceStrands_X1_to rfl (by decide +kernel) rfl ⟨Nat.le_of_ble_eq_true rfl, Nat.le_of_ble_eq_true rfl⟩ hW.2.1.1 rfl rfl (Nat.le_of_ble_eq_true rfl) rfl dX0_traceStrands_55 (fun σ' hp => ?_)
      subst hp
      obtain ⟨q58, hq, h⟩ := Option.bind_eq_some_iff.mp h
      refine gt_cSi (n := 1) (st := [.inr (r + 4), .inl a.2, .inr (r + 16)]) C (eX4_across X.2.1 D cI cZ K hq) gX0_traceStrands_X4_across rfl (by decide +kernel) rfl ⟨Nat.le_of_ble_eq_true rfl, Nat.le_of_ble_eq_true rfl⟩ (Nat.le_of_ble_eq_true rfl) rfl dX0_traceStrands_58 (fun σ' hp => ?_)
      subst hp
      obtain ⟨q61, hq, h⟩ := Option.bind_eq_some_iff.mp h
      refine gt_cVi (n := 1) (st := [.inl a.2, .inr (r + 16)]) C (eX1_at X.2.1 D cI cZ K (Nat.succ_ne_zero _) hW.2.1 hq) gX0_traceStrands_X1_at rfl (by decide +kernel) rfl ⟨Nat.le_of_ble_eq_true rfl, Nat.le_of_ble_eq_true rfl⟩ hW.2.1.1 rfl rfl (Nat.le_of_ble_eq_true rfl) rfl dX0_traceStrands_61 (fun σ' hp => ?_)
      subst hp
      obtain ⟨q64, hq, h⟩ := Option.bind_eq_some_iff.mp h
      refine gt_cVv (n := 2) (st := []) C (eX3_link X.2.1 D cI cZ K (Nat.succ_ne_zero _) hW.2.2.2.2.1 hq) gX0_traceStrands_X3_link rfl (by decide +kernel) rfl ⟨Nat.le_of_ble_eq_true rfl, Nat.le_of_ble_eq_true rfl⟩ hW.2.2.2.2.1.1 rfl rfl (Nat.le_of_ble_eq_true rfl) rfl dX0_traceStrands_64 (fun σ' hp => ?_)
      obtain ⟨hw, hf⟩ := hp
      have hW := gx_W4 hW hw hf
      have hF := hF.tr hf (by omega) (by omega)
      clear hf
      refine ga_aload_n C dX0_traceStrands_67 rfl hl0 hr0 ?_
      refine gt_geta C (iX0_traceStrands_X0) hW.2.2.2.2.2.2.2 5 rfl rfl (by decide) kX0_traceStrands_42 dX0_traceStrands_68 ?_
      refine ga_iload_n C dX0_traceStrands_71 rfl hl1 ?_
      refine ga_aload_n C dX0_traceStrands_72 rfl hl0 hr0 ?_
      refine gt_geta C (iX0_traceStrands_X0) hW.2.2.2.2.2.2.2 1 rfl rfl (by decide) kX0_traceStrands_21 dX0_traceStrands_73 ?_
      refine ga_aload_n C dX0_traceStrands_76 rfl hl0 hr0 ?_
      refine gt_geta C (iX0_traceStrands_X0) hW.2.2.2.2.2.2.2 0 rfl rfl (by decide) kX0_traceStrands_12 dX0_traceStrands_77 ?_
      refine ga_aload_n C dX0_traceStrands_80 rfl hl0 hr0 ?_
      refine gt_geta C (iX0_traceStrands_X0) hW.2.2.2.2.2.2.2 1 rfl rfl (by decide) kX0_traceStrands_21 dX0_traceStrands_81 ?_
      refine ga_iload_n C dX0_traceStrands_84 rfl hl1 ?_
      obtain ⟨q85, hq, h⟩ := Option.bind_eq_some_iff.mp h
      refine gt_cVi (n := 1) (st := [.inr (r + 1), .inr (r + 4), .inl a.2, .inr (r + 21)]) C (eX1_to X.2.1 D cI cZ K (Nat.succ_ne_zero _) hW.2.1 hq) gX0_traceStrands_X1_to rfl (by decide +kernel) rfl ⟨Nat.le_of_ble_eq_true rfl, Nat.le_of_ble_eq_true rfl⟩ hW.2.1.1 rfl rfl (Nat.le_of_ble_eq_true rfl) rfl dX0_traceStrands_85 (fun σ' hp => ?_)
      subst hp
      obtain ⟨q88, hq, h⟩ := Option.bind_eq_some_iff.mp h
      refine gt_cVi (n := 1) (st := [.inr (r + 4), .inl a.2, .inr (r + 21)]) C (eX4_seifertOut X.2.1 D cI cZ K (Nat.succ_ne_zero _) hW.1 hq) gX0_traceStrands_X4_seifertOut rfl (by decide +kernel) rfl ⟨Nat.le_of_ble_eq_true rfl, Nat.le_of_ble_eq_true rfl⟩ hW.1.1 rfl rfl (Nat.le_of_ble_eq_true rfl) rfl dX0_traceStrands_88 (fun σ' hp => ?_)
      subst hp
      obtain ⟨q91, hq, h⟩ := Option.bind_eq_some_iff.mp h
      refine gt_cVi (n := 1) (st := [.inl a.2, .inr (r + 21)]) C (eX1_at X.2.1 D cI cZ K (Nat.succ_ne_zero _) hW.2.1 hq) gX0_traceStrands_X1_at rfl (by decide +kernel) rfl ⟨Nat.le_of_ble_eq_true rfl, Nat.le_of_ble_eq_true rfl⟩ hW.2.1.1 rfl rfl (Nat.le_of_ble_eq_true rfl) rfl dX0_traceStrands_91 (fun σ' hp => ?_)
      subst hp
      obtain ⟨q94, hq, h⟩ := Option.bind_eq_some_iff.mp h
      refine gt_cVv (n := 2) (st := []) C (eX3_link X.2.1 D cI cZ K (Nat.succ_ne_zero _) hW.2.2.2.2.2.1 hq) gX0_traceStrands_X3_link rfl (by decide +kernel) rfl ⟨Nat.le_of_ble_eq_true rfl, Nat.le_of_ble_eq_true rfl⟩ hW.2.2.2.2.2.1.1 rfl rfl (Nat.le_of_ble_eq_true rfl) rfl dX0_traceStrands_94 (fun σ' hp => ?_)
      obtain ⟨hw, hf⟩ := hp
      have hW := gx_W5 hW hw hf
      have hF := hF.tr hf (by omega) (by omega)
      clear hf
      obtain ⟨hg, h⟩ := gt_gd h
      have g97_0 := hg
      refine ga_iinc C dX0_traceStrands_97 hl1 g97_0 ?_
      refine ga_goto (tgt := 30) C dX0_traceStrands_100 (by decide) ?_
      exact hk30 ((a.1.1, a.1.2.1, a.1.2.2.1, a.1.2.2.2.1, q64, q94, a.1.2.2.2.2.2.2.1, a.1.2.2.2.2.2.2.2), a.2 + (1 : Int)) _ _ hW hF (gt_un (by decide) hl0) gt_us h
set_option maxHeartbeats 4000000 in
theorem gX0_traceStrands_0 {X : ga_X} {D : va_G} {cI cZ : ClassId} {K : Nat} {r : Nat} {σ0 : ga_S} {res : gx_Ch} (C : ga_C X cX0_traceStrands yX0_traceStrands wsX0_traceStrands [] (gt_rm 4 85) (D, vwCl, cI, cZ) 2) (hRet : ∀ (pc : Nat) (lv : Nat → Option ga_V) (σ' : ga_S), decode cX0_traceStrands pc = .ok (.return_, 1) → (gx_W r res σ' ∧ gt_F r (r + 32) σ0 σ') → ga_G X 0 0 K pc lv [] σ') (hr0 : r ≠ 0) {T : gx_Ch} {σ : ga_S} {lv : Nat → Option ga_V} (hW : gx_W r T σ) (hF : gt_F r (r + 32) σ0 σ) (hl0 : lv 0 = some (.inr r)) (h : fX0_traceStrands T = some res) : ga_G X 0 0 K 0 lv [] σ := by
  unfold fX0_traceStrands at h
  refine ga_aload_n C dX0_traceStrands_0 rfl hl0 hr0 ?_
  refine gt_geta C (iX0_traceStrands_X0) hW.2.2.2.2.2.2.2 4 rfl rfl (by decide) kX0_traceStrands_38 dX0_traceStrands_1 ?_
  refine ga_aload_n C dX0_traceStrands_4 rfl hl0 hr0 ?_
  refine gt_geta C (iX0_traceStrands_X0) hW.2.2.2.2.2.2.2 1 rfl rfl (by decide) kX0_traceStrands_21 dX0_traceStrands_5 ?_
  obtain ⟨q8, hq, h⟩ := Option.bind_eq_some_iff.mp h
  refine gt_cVi (n := 0) (st := [.inr (r + 16)]) C (eX1_count X.2.1 D cI cZ K (Nat.succ_ne_zero _) hW.2.1 hq) gX0_traceStrands_X1_count rfl (by decide +kernel) rfl ⟨Nat.le_of_ble_eq_true rfl, Nat.le_of_ble_eq_true rfl⟩ hW.2.1.1 rfl rfl (Nat.le_of_ble_eq_true rfl) rfl dX0_traceStrands_8 (fun σ' hp => ?_)
  subst hp
  obtain ⟨q11, hq, h⟩ := Option.bind_eq_some_iff.mp h
  refine gt_cVv (n := 1) (st := []) C (eX3_begin X.2.1 D cI cZ K (Nat.succ_ne_zero _) hW.2.2.2.2.1 hq) gX0_traceStrands_X3_begin rfl (by decide +kernel) rfl ⟨Nat.le_of_ble_eq_true rfl, Nat.le_of_ble_eq_true rfl⟩ hW.2.2.2.2.1.1 rfl rfl (Nat.le_of_ble_eq_true rfl) rfl dX0_traceStrands_11 (fun σ' hp => ?_)
  obtain ⟨hw, hf⟩ := hp
  have hW := gx_W4 hW hw hf
  have hF := hF.tr hf (by omega) (by omega)
  clear hf
  refine ga_aload_n C dX0_traceStrands_14 rfl hl0 hr0 ?_
  refine gt_geta C (iX0_traceStrands_X0) hW.2.2.2.2.2.2.2 5 rfl rfl (by decide) kX0_traceStrands_42 dX0_traceStrands_15 ?_
  refine ga_aload_n C dX0_traceStrands_18 rfl hl0 hr0 ?_
  refine gt_geta C (iX0_traceStrands_X0) hW.2.2.2.2.2.2.2 1 rfl rfl (by decide) kX0_traceStrands_21 dX0_traceStrands_19 ?_
  obtain ⟨q22, hq, h⟩ := Option.bind_eq_some_iff.mp h
  refine gt_cVi (n := 0) (st := [.inr (r + 21)]) C (eX1_count X.2.1 D cI cZ K (Nat.succ_ne_zero _) hW.2.1 hq) gX0_traceStrands_X1_count rfl (by decide +kernel) rfl ⟨Nat.le_of_ble_eq_true rfl, Nat.le_of_ble_eq_true rfl⟩ hW.2.1.1 rfl rfl (Nat.le_of_ble_eq_true rfl) rfl dX0_traceStrands_22 (fun σ' hp => ?_)
  subst hp
  obtain ⟨q25, hq, h⟩ := Option.bind_eq_some_iff.mp h
  refine gt_cVv (n := 1) (st := []) C (eX3_begin X.2.1 D cI cZ K (Nat.succ_ne_zero _) hW.2.2.2.2.2.1 hq) gX0_traceStrands_X3_begin rfl (by decide +kernel) rfl ⟨Nat.le_of_ble_eq_true rfl, Nat.le_of_ble_eq_true rfl⟩ hW.2.2.2.2.2.1.1 rfl rfl (Nat.le_of_ble_eq_true rfl) rfl dX0_traceStrands_25 (fun σ' hp => ?_)
  obtain ⟨hw, hf⟩ := hp
  have hW := gx_W5 hW hw hf
  have hF := hF.tr hf (by omega) (by omega)
  clear hf
  refine ga_iconst C dX0_traceStrands_28 ⟨by decide, by decide⟩ ?_
  refine ga_istore_n C dX0_traceStrands_29 rfl (by decide) ?_
  exact gX0_traceStrands_30 C hRet hr0 gt_fuel ((T.1, T.2.1, T.2.2.1, T.2.2.2.1, q11, q25, T.2.2.2.2.2.2.1, T.2.2.2.2.2.2.2), (0 : Int)) _ _ hW hF (gt_un (by decide) hl0) gt_us h
set_option maxHeartbeats 4000000 in
theorem eX0_traceStrands (l : Launch) (D : va_G) (cI cZ : ClassId) (K : Nat) {r : Nat} (hr0 : r ≠ 0) {σ : ga_S} {T : gx_Ch} (hW : gx_W r T σ) {res : gx_Ch} (h : fX0_traceStrands T = some res) : ga_Ev l (D, vwCl, cI, cZ) yX0_traceStrands wsX0_traceStrands (gt_rm 4 85) [] 0 0 K [.inr r] σ (fun σ' rv => (gx_W r res σ' ∧ gt_F r (r + 32) σ σ') ∧ rv = none) := by
  refine ga_ofV (by decide +kernel) rfl gt_hcl (Nat.le_of_ble_eq_true rfl) (fun X hX C hret => ?_)
  exact gX0_traceStrands_0 C (fun pc lv σ' d hp => hret pc lv σ' d ⟨hp, rfl⟩) hr0 hW gt_F.rf rfl h
-- X0_groupArcs: groupArcs()V
def fX0_groupArcs_57 (k16 : gx_Ch × Int → Option (gx_Ch)) (T : gx_Ch) (l1 : Int) : Option (gx_Ch) :=
  (if (-2147483648 ≤ l1 + (1 : Int) ∧ l1 + (1 : Int) < 2147483648) then k16 ((T.1, T.2.1, T.2.2.1, T.2.2.2.1, T.2.2.2.2.1, T.2.2.2.2.2.1, T.2.2.2.2.2.2.1, T.2.2.2.2.2.2.2), l1 + (1 : Int)) else none)
def fX0_groupArcs_16 (k16 : gx_Ch × Int → Option (gx_Ch)) (a : gx_Ch × Int) : Option (gx_Ch) :=
  (fX1_count a.1.2.1).bind (fun (q21 : Int) => (if q21 ≤ a.2 then (fX2_numberGroups a.1.2.2.2.1).bind (fun (q67 : gt_T) => some (a.1.1, a.1.2.1, a.1.2.2.1, q67, a.1.2.2.2.2.1, a.1.2.2.2.2.2.1, a.1.2.2.2.2.2.2.1, a.1.2.2.2.2.2.2.2)) else (fX1_to a.1.2.1 a.2).bind (fun (q32 : Int) => (fX4_isUpper q32).bind (fun (q35 : Int) => (if q35 = 0 then fX0_groupArcs_57 k16 (a.1.1, a.1.2.1, a.1.2.2.1, a.1.2.2.2.1, a.1.2.2.2.2.1, a.1.2.2.2.2.2.1, a.1.2.2.2.2.2.2.1, a.1.2.2.2.2.2.2.2) a.2 else (fX3_next a.1.2.2.2.2.1 a.2).bind (fun (q51 : Int) => (fX2_join a.1.2.2.2.1 a.2 q51).bind (fun (q54 : gt_T) => fX0_groupArcs_57 k16 (a.1.1, a.1.2.1, a.1.2.2.1, q54, a.1.2.2.2.2.1, a.1.2.2.2.2.2.1, a.1.2.2.2.2.2.2.1, a.1.2.2.2.2.2.2.2) a.2)))))))
def fX0_groupArcs (T : gx_Ch) : Option (gx_Ch) :=
  (fX1_count T.2.1).bind (fun (q8 : Int) => (fX2_begin T.2.2.2.1 q8).bind (fun (q11 : gt_T) => gt_loop (fX0_groupArcs_16) gt_fuel ((T.1, T.2.1, T.2.2.1, q11, T.2.2.2.2.1, T.2.2.2.2.2.1, T.2.2.2.2.2.2.1, T.2.2.2.2.2.2.2), (0 : Int))))
theorem iX0_groupArcs_X0 : ∀ w ∈ u_ws RX0 TX0 9, w ∈ wsX0_groupArcs := by decide +kernel
theorem kX0_groupArcs_21 : Cond.fieldLink yX0_groupArcs.cls 21 (TX0 1).1 (TX0 1).2.1 (TX0 1).2.2.1 ∈ wsX0_groupArcs := by decide +kernel
theorem kX0_groupArcs_32 : Cond.fieldLink yX0_groupArcs.cls 32 (TX0 3).1 (TX0 3).2.1 (TX0 3).2.2.1 ∈ wsX0_groupArcs := by decide +kernel
theorem kX0_groupArcs_38 : Cond.fieldLink yX0_groupArcs.cls 38 (TX0 4).1 (TX0 4).2.1 (TX0 4).2.2.1 ∈ wsX0_groupArcs := by decide +kernel
set_option maxHeartbeats 4000000 in
theorem gX0_groupArcs_57 {X : ga_X} {D : va_G} {cI cZ : ClassId} {K : Nat} {r : Nat} {σ0 : ga_S} {res : gx_Ch} {k16 : gx_Ch × Int → Option (gx_Ch)} (C : ga_C X cX0_groupArcs yX0_groupArcs wsX0_groupArcs [] (gt_rm 3 67) (D, vwCl, cI, cZ) 2) (hRet : ∀ (pc : Nat) (lv : Nat → Option ga_V) (σ' : ga_S), decode cX0_groupArcs pc = .ok (.return_, 1) → (gx_W r res σ' ∧ gt_F r (r + 32) σ0 σ') → ga_G X 0 0 K pc lv [] σ') (hr0 : r ≠ 0) (hk16 : ∀ (a : gx_Ch × Int) (σ : ga_S) (lv : Nat → Option ga_V), gx_W r a.1 σ → gt_F r (r + 32) σ0 σ → lv 0 = some (.inr r) → lv 1 = some (.inl a.2) → k16 a = some res → ga_G X 0 0 K 16 lv [] σ) {T : gx_Ch} {σ : ga_S} {l1 : Int} {lv : Nat → Option ga_V} (hW : gx_W r T σ) (hF : gt_F r (r + 32) σ0 σ) (hl0 : lv 0 = some (.inr r)) (hl1 : lv 1 = some (.inl l1)) (h : fX0_groupArcs_57 k16 T l1 = some res) : ga_G X 0 0 K 57 lv [] σ := by
  unfold fX0_groupArcs_57 at h
  obtain ⟨hg, h⟩ := gt_gd h
  have g57_0 := hg
  refine ga_iinc C dX0_groupArcs_57 hl1 g57_0 ?_
  refine ga_goto (tgt := 16) C dX0_groupArcs_60 (by decide) ?_
  exact hk16 ((T.1, T.2.1, T.2.2.1, T.2.2.2.1, T.2.2.2.2.1, T.2.2.2.2.2.1, T.2.2.2.2.2.2.1, T.2.2.2.2.2.2.2), l1 + (1 : Int)) _ _ hW hF (gt_un (by decide) hl0) gt_us h
set_option maxHeartbeats 4000000 in
theorem gX0_groupArcs_16 {X : ga_X} {D : va_G} {cI cZ : ClassId} {K : Nat} {r : Nat} {σ0 : ga_S} {res : gx_Ch} (C : ga_C X cX0_groupArcs yX0_groupArcs wsX0_groupArcs [] (gt_rm 3 67) (D, vwCl, cI, cZ) 2) (hRet : ∀ (pc : Nat) (lv : Nat → Option ga_V) (σ' : ga_S), decode cX0_groupArcs pc = .ok (.return_, 1) → (gx_W r res σ' ∧ gt_F r (r + 32) σ0 σ') → ga_G X 0 0 K pc lv [] σ') (hr0 : r ≠ 0) : ∀ (n : Nat) (a : gx_Ch × Int) (σ : ga_S) (lv : Nat → Option ga_V), gx_W r a.1 σ → gt_F r (r + 32) σ0 σ → lv 0 = some (.inr r) → lv 1 = some (.inl a.2) → gt_loop (fX0_groupArcs_16) n a = some res → ga_G X 0 0 K 16 lv [] σ := by
  intro n
  induction n with
  | zero =>
    intro a _ lv _ _ _ _ h
    exact absurd (show (none : Option _) = some _ from h) (fun q => by cases q)
  | succ n hk16 =>
    intro a σ lv hW hF hl0 hl1 h
    have h : fX0_groupArcs_16 (gt_loop (fX0_groupArcs_16) n) a = some res := h
    revert hk16 h
    generalize gt_loop (fX0_groupArcs_16) n = k16
    intro hk16 h
    unfold fX0_groupArcs_16 at h
    refine ga_iload_n C dX0_groupArcs_16 rfl hl1 ?_
    refine ga_aload_n C dX0_groupArcs_17 rfl hl0 hr0 ?_
    refine gt_geta C (iX0_groupArcs_X0) hW.2.2.2.2.2.2.2 1 rfl rfl (by decide) kX0_groupArcs_21 dX0_groupArcs_18 ?_
    obtain ⟨q21, hq, h⟩ := Option.bind_eq_some_iff.mp h
    refine gt_cVi (n := 0) (st := [.inl a.2]) C (eX1_count X.2.1 D cI cZ K (Nat.succ_ne_zero _) hW.2.1 hq) gX0_groupArcs_X1_count rfl (by decide +kernel) rfl ⟨Nat.le_of_ble_eq_true rfl, Nat.le_of_ble_eq_true rfl⟩ hW.2.1.1 rfl rfl (Nat.le_of_ble_eq_true rfl) rfl dX0_groupArcs_21 (fun σ' hp => ?_)
    subst hp
    refine ga_icmp_ge (tgt := 63) C dX0_groupArcs_24 (by decide) (fun c1 => ?_) (fun c1 => ?_)
    · have h := gt_ip h c1
      refine ga_aload_n C dX0_groupArcs_63 rfl hl0 hr0 ?_
      refine gt_geta C (iX0_groupArcs_X0) hW.2.2.2.2.2.2.2 3 rfl rfl (by decide) kX0_groupArcs_32 dX0_groupArcs_64 ?_
      obtain ⟨q67, hq, h⟩ := Option.bind_eq_some_iff.mp h
      refine gt_cVv (n := 0) (st := []) C (eX2_numberGroups X.2.1 D cI cZ K (Nat.succ_ne_zero _) hW.2.2.2.1 hq) gX0_groupArcs_X2_numberGroups rfl (by decide +kernel) rfl ⟨Nat.le_of_ble_eq_true rfl, Nat.le_of_ble_eq_true rfl⟩ hW.2.2.2.1.1 rfl rfl (Nat.le_of_ble_eq_true rfl) rfl dX0_groupArcs_67 (fun σ' hp => ?_)
      obtain ⟨hw, hf⟩ := hp
      have hW := gx_W3 hW hw hf
      have hF := hF.tr hf (by omega) (by omega)
      clear hf
      cases h
      exact hRet _ _ _ dX0_groupArcs_70 ⟨hW, hF⟩
    · have h := gt_in h c1
      refine ga_aload_n C dX0_groupArcs_27 rfl hl0 hr0 ?_
      refine gt_geta C (iX0_groupArcs_X0) hW.2.2.2.2.2.2.2 1 rfl rfl (by decide) kX0_groupArcs_21 dX0_groupArcs_28 ?_
      refine ga_iload_n C dX0_groupArcs_31 rfl hl1 ?_
      obtain ⟨q32, hq, h⟩ := Option.bind_eq_some_iff.mp h
      refine gt_cVi (n := 1) (st := []) C (eX1_to X.2.1 D cI cZ K (Nat.succ_ne_zero _) hW.2.1 hq) gX0_groupArcs_X1_to rfl (by decide +kernel) rfl ⟨Nat.le_of_ble_eq_true rfl, Nat.le_of_ble_eq_true rfl⟩ hW.2.1.1 rfl rfl (Nat.le_of_ble_eq_true rfl) rfl dX0_groupArcs_32 (fun σ' hp => ?_)
      subst hp
      obtain ⟨q35, hq, h⟩ := Option.bind_eq_some_iff.mp h
      refine gt_cSi (n := 1) (st := []) C (eX4_isUpper X.2.1 D cI cZ K hq) gX0_groupArcs_X4_isUpper rfl (by decide +kernel) rfl ⟨Nat.le_of_ble_eq_true rfl, Nat.le_of_ble_eq_true rfl⟩ (Nat.le_of_ble_eq_true rfl) rfl dX0_groupArcs_35 (fun σ' hp => ?_)
      subst hp
      refine ga_if_eq (tgt := 57) C dX0_groupArcs_38 (by decide) (fun c1 => ?_) (fun c1 => ?_)
      · have h := gt_ip h c1
        exact gX0_groupArcs_57 C hRet hr0 hk16 hW hF hl0 hl1 h
      · have h := gt_in h c1
        refine ga_aload_n C dX0_groupArcs_41 rfl hl0 hr0 ?_
        refine gt_geta C (iX0_groupArcs_X0) hW.2.2.2.2.2.2.2 3 rfl rfl (by decide) kX0_groupArcs_32 dX0_groupArcs_42 ?_
        refine ga_iload_n C dX0_groupArcs_45 rfl hl1 ?_
        refine ga_aload_n C dX0_groupArcs_46 rfl hl0 hr0 ?_
        refine gt_geta C (iX0_groupArcs_X0) hW.2.2.2.2.2.2.2 4 rfl rfl (by decide) kX0_groupArcs_38 dX0_groupArcs_47 ?_
        refine ga_iload_n C dX0_groupArcs_50 rfl hl1 ?_
        obtain ⟨q51, hq, h⟩ := Option.bind_eq_some_iff.mp h
        refine gt_cVi (n := 1) (st := [.inl a.2, .inr (r + 13)]) C (eX3_next X.2.1 D cI cZ K (Nat.succ_ne_zero _) hW.2.2.2.2.1 hq) gX0_groupArcs_X3_next rfl (by decide +kernel) rfl ⟨Nat.le_of_ble_eq_true rfl, Nat.le_of_ble_eq_true rfl⟩ hW.2.2.2.2.1.1 rfl rfl (Nat.le_of_ble_eq_true rfl) rfl dX0_groupArcs_51 (fun σ' hp => ?_)
        subst hp
        obtain ⟨q54, hq, h⟩ := Option.bind_eq_some_iff.mp h
        refine gt_cVv (n := 2) (st := []) C (eX2_join X.2.1 D cI cZ K (Nat.succ_ne_zero _) hW.2.2.2.1 hq) gX0_groupArcs_X2_join rfl (by decide +kernel) rfl ⟨Nat.le_of_ble_eq_true rfl, Nat.le_of_ble_eq_true rfl⟩ hW.2.2.2.1.1 rfl rfl (Nat.le_of_ble_eq_true rfl) rfl dX0_groupArcs_54 (fun σ' hp => ?_)
        obtain ⟨hw, hf⟩ := hp
        have hW := gx_W3 hW hw hf
        have hF := hF.tr hf (by omega) (by omega)
        clear hf
        exact gX0_groupArcs_57 C hRet hr0 hk16 hW hF hl0 hl1 h
set_option maxHeartbeats 4000000 in
theorem gX0_groupArcs_0 {X : ga_X} {D : va_G} {cI cZ : ClassId} {K : Nat} {r : Nat} {σ0 : ga_S} {res : gx_Ch} (C : ga_C X cX0_groupArcs yX0_groupArcs wsX0_groupArcs [] (gt_rm 3 67) (D, vwCl, cI, cZ) 2) (hRet : ∀ (pc : Nat) (lv : Nat → Option ga_V) (σ' : ga_S), decode cX0_groupArcs pc = .ok (.return_, 1) → (gx_W r res σ' ∧ gt_F r (r + 32) σ0 σ') → ga_G X 0 0 K pc lv [] σ') (hr0 : r ≠ 0) {T : gx_Ch} {σ : ga_S} {lv : Nat → Option ga_V} (hW : gx_W r T σ) (hF : gt_F r (r + 32) σ0 σ) (hl0 : lv 0 = some (.inr r)) (h : fX0_groupArcs T = some res) : ga_G X 0 0 K 0 lv [] σ := by
  unfold fX0_groupArcs at h
  refine ga_aload_n C dX0_groupArcs_0 rfl hl0 hr0 ?_
  refine gt_geta C (iX0_groupArcs_X0) hW.2.2.2.2.2.2.2 3 rfl rfl (by decide) kX0_groupArcs_32 dX0_groupArcs_1 ?_
  refine ga_aload_n C dX0_groupArcs_4 rfl hl0 hr0 ?_
  refine gt_geta C (iX0_groupArcs_X0) hW.2.2.2.2.2.2.2 1 rfl rfl (by decide) kX0_groupArcs_21 dX0_groupArcs_5 ?_
  obtain ⟨q8, hq, h⟩ := Option.bind_eq_some_iff.mp h
  refine gt_cVi (n := 0) (st := [.inr (r + 13)]) C (eX1_count X.2.1 D cI cZ K (Nat.succ_ne_zero _) hW.2.1 hq) gX0_groupArcs_X1_count rfl (by decide +kernel) rfl ⟨Nat.le_of_ble_eq_true rfl, Nat.le_of_ble_eq_true rfl⟩ hW.2.1.1 rfl rfl (Nat.le_of_ble_eq_true rfl) rfl dX0_groupArcs_8 (fun σ' hp => ?_)
  subst hp
  obtain ⟨q11, hq, h⟩ := Option.bind_eq_some_iff.mp h
  refine gt_cVv (n := 1) (st := []) C (eX2_begin X.2.1 D cI cZ K (Nat.succ_ne_zero _) hW.2.2.2.1 hq) gX0_groupArcs_X2_begin rfl (by decide +kernel) rfl ⟨Nat.le_of_ble_eq_true rfl, Nat.le_of_ble_eq_true rfl⟩ hW.2.2.2.1.1 rfl rfl (Nat.le_of_ble_eq_true rfl) rfl dX0_groupArcs_11 (fun σ' hp => ?_)
  obtain ⟨hw, hf⟩ := hp
  have hW := gx_W3 hW hw hf
  have hF := hF.tr hf (by omega) (by omega)
  clear hf
  refine ga_iconst C dX0_groupArcs_14 ⟨by decide, by decide⟩ ?_
  refine ga_istore_n C dX0_groupArcs_15 rfl (by decide) ?_
  exact gX0_groupArcs_16 C hRet hr0 gt_fuel ((T.1, T.2.1, T.2.2.1, q11, T.2.2.2.2.1, T.2.2.2.2.2.1, T.2.2.2.2.2.2.1, T.2.2.2.2.2.2.2), (0 : Int)) _ _ hW hF (gt_un (by decide) hl0) gt_us h
set_option maxHeartbeats 4000000 in
theorem eX0_groupArcs (l : Launch) (D : va_G) (cI cZ : ClassId) (K : Nat) {r : Nat} (hr0 : r ≠ 0) {σ : ga_S} {T : gx_Ch} (hW : gx_W r T σ) {res : gx_Ch} (h : fX0_groupArcs T = some res) : ga_Ev l (D, vwCl, cI, cZ) yX0_groupArcs wsX0_groupArcs (gt_rm 3 67) [] 0 0 K [.inr r] σ (fun σ' rv => (gx_W r res σ' ∧ gt_F r (r + 32) σ σ') ∧ rv = none) := by
  refine ga_ofV (by decide +kernel) rfl gt_hcl (Nat.le_of_ble_eq_true rfl) (fun X hX C hret => ?_)
  exact gX0_groupArcs_0 C (fun pc lv σ' d hp => hret pc lv σ' d ⟨hp, rfl⟩) hr0 hW gt_F.rf rfl h
-- X0_survey: survey()I
def fX0_survey (T : gx_Ch) : Option (gx_Ch × Int) :=
  (fX1_gatherLabels T.1 T.2.1).bind (fun (q9 : gt_T × Int) => (if ((va_up T.2.2.2.2.2.2.2.1 8 q9.2) 8) = (-1 : Int) then (fX1_findEnds T.1 q9.1).bind (fun (q34 : gt_T × Int) => (if ((va_up (va_up T.2.2.2.2.2.2.2.1 8 q9.2) 8 q34.2) 8) = (-1 : Int) then (fX0_groupPieces (T.1, q34.1, T.2.2.1, T.2.2.2.1, T.2.2.2.2.1, T.2.2.2.2.2.1, T.2.2.2.2.2.2.1, ((va_up (va_up T.2.2.2.2.2.2.2.1 8 q9.2) 8 q34.2), T.2.2.2.2.2.2.2.2))).bind (fun (q51 : gx_Ch) => (fX0_traceFaces (q51.1, q51.2.1, q51.2.2.1, q51.2.2.2.1, q51.2.2.2.2.1, q51.2.2.2.2.2.1, q51.2.2.2.2.2.2.1, q51.2.2.2.2.2.2.2)).bind (fun (q55 : gx_Ch) => (fX0_leastCrossingOnNoSphere (q55.1, q55.2.1, q55.2.2.1, q55.2.2.2.1, q55.2.2.2.2.1, q55.2.2.2.2.2.1, q55.2.2.2.2.2.2.1, q55.2.2.2.2.2.2.2)).bind (fun (q60 : Int) => (if ((va_up q55.2.2.2.2.2.2.2.1 8 q60) 8) = (-1 : Int) then (fX0_traceStrands (q55.1, q55.2.1, q55.2.2.1, q55.2.2.2.1, q55.2.2.2.2.1, q55.2.2.2.2.2.1, q55.2.2.2.2.2.2.1, ((va_up q55.2.2.2.2.2.2.2.1 8 q60), q55.2.2.2.2.2.2.2.2))).bind (fun (q77 : gx_Ch) => (fX0_groupArcs (q77.1, q77.2.1, q77.2.2.1, q77.2.2.2.1, q77.2.2.2.2.1, q77.2.2.2.2.2.1, q77.2.2.2.2.2.2.1, q77.2.2.2.2.2.2.2)).bind (fun (q81 : gx_Ch) => some ((q81.1, q81.2.1, q81.2.2.1, q81.2.2.2.1, q81.2.2.2.2.1, q81.2.2.2.2.2.1, q81.2.2.2.2.2.2.1, q81.2.2.2.2.2.2.2), (0 : Int)))) else some ((q55.1, q55.2.1, q55.2.2.1, q55.2.2.2.1, q55.2.2.2.2.1, q55.2.2.2.2.2.1, q55.2.2.2.2.2.2.1, ((va_up q55.2.2.2.2.2.2.2.1 8 q60), q55.2.2.2.2.2.2.2.2)), (3 : Int)))))) else some ((T.1, q34.1, T.2.2.1, T.2.2.2.1, T.2.2.2.2.1, T.2.2.2.2.2.1, T.2.2.2.2.2.2.1, ((va_up (va_up T.2.2.2.2.2.2.2.1 8 q9.2) 8 q34.2), T.2.2.2.2.2.2.2.2)), (2 : Int)))) else some ((T.1, q9.1, T.2.2.1, T.2.2.2.1, T.2.2.2.2.1, T.2.2.2.2.2.1, T.2.2.2.2.2.2.1, ((va_up T.2.2.2.2.2.2.2.1 8 q9.2), T.2.2.2.2.2.2.2.2)), (1 : Int))))
theorem iX0_survey_X0 : ∀ w ∈ u_ws RX0 TX0 9, w ∈ wsX0_survey := by decide +kernel
theorem kX0_survey_12 : Cond.fieldLink yX0_survey.cls 12 (TX0 0).1 (TX0 0).2.1 (TX0 0).2.2.1 ∈ wsX0_survey := by decide +kernel
theorem kX0_survey_21 : Cond.fieldLink yX0_survey.cls 21 (TX0 1).1 (TX0 1).2.1 (TX0 1).2.2.1 ∈ wsX0_survey := by decide +kernel
theorem kX0_survey_52 : Cond.fieldLink yX0_survey.cls 52 (TX0 8).1 (TX0 8).2.1 (TX0 8).2.2.1 ∈ wsX0_survey := by decide +kernel
set_option maxHeartbeats 4000000 in
theorem gX0_survey_0 {X : ga_X} {D : va_G} {cI cZ : ClassId} {K : Nat} {r : Nat} {σ0 : ga_S} {res : gx_Ch × Int} (C : ga_C X cX0_survey yX0_survey wsX0_survey [] (gt_rm 5 107) (D, vwCl, cI, cZ) 1) (hRet : ∀ (pc : Nat) (lv : Nat → Option ga_V) (σ' : ga_S) (z : Int), decode cX0_survey pc = .ok (.ireturn, 1) → z = res.2 → (gx_W r res.1 σ' ∧ gt_F r (r + 32) σ0 σ') → ga_G X 0 0 K pc lv [.inl z] σ') (hr0 : r ≠ 0) {T : gx_Ch} {σ : ga_S} {lv : Nat → Option ga_V} (hW : gx_W r T σ) (hF : gt_F r (r + 32) σ0 σ) (hl0 : lv 0 = some (.inr r)) (h : fX0_survey T = some res) : ga_G X 0 0 K 0 lv [] σ := by
  unfold fX0_survey at h
  refine ga_aload_n C dX0_survey_0 rfl hl0 hr0 ?_
  refine ga_aload_n C dX0_survey_1 rfl hl0 hr0 ?_
  refine gt_geta C (iX0_survey_X0) hW.2.2.2.2.2.2.2 1 rfl rfl (by decide) kX0_survey_21 dX0_survey_2 ?_
  refine ga_aload_n C dX0_survey_5 rfl hl0 hr0 ?_
  refine gt_geta C (iX0_survey_X0) hW.2.2.2.2.2.2.2 0 rfl rfl (by decide) kX0_survey_12 dX0_survey_6 ?_
  obtain ⟨q9, hq, h⟩ := Option.bind_eq_some_iff.mp h
  refine gt_cVi (n := 1) (st := [.inr r]) C (eX1_gatherLabels X.2.1 D cI cZ K (Nat.succ_ne_zero _) (Nat.succ_ne_zero _) (by omega) hW.2.1 hW.1 hq) gX0_survey_X1_gatherLabels rfl (by decide +kernel) rfl ⟨Nat.le_of_ble_eq_true rfl, Nat.le_of_ble_eq_true rfl⟩ hW.2.1.1 rfl rfl (Nat.le_of_ble_eq_true rfl) rfl dX0_survey_9 (fun σ' hp => ?_)
  obtain ⟨hw, hf⟩ := hp
  have hW := gx_W1 hW hw hf
  have hF := hF.tr hf (by omega) (by omega)
  clear hf
  refine gx_putw C (iX0_survey_X0) hW hF kX0_survey_52 dX0_survey_12 (fun σ hW hF => ?_)
  refine ga_aload_n C dX0_survey_15 rfl hl0 hr0 ?_
  refine gt_geti C (iX0_survey_X0) hW.2.2.2.2.2.2.2 8 rfl rfl (by decide) kX0_survey_52 dX0_survey_16 ?_
  refine ga_iconst C dX0_survey_19 ⟨by decide, by decide⟩ ?_
  refine ga_icmp_eq (tgt := 25) C dX0_survey_20 (by decide) (fun c1 => ?_) (fun c1 => ?_)
  · have h := gt_ip h c1
    refine ga_aload_n C dX0_survey_25 rfl hl0 hr0 ?_
    refine ga_aload_n C dX0_survey_26 rfl hl0 hr0 ?_
    refine gt_geta C (iX0_survey_X0) hW.2.2.2.2.2.2.2 1 rfl rfl (by decide) kX0_survey_21 dX0_survey_27 ?_
    refine ga_aload_n C dX0_survey_30 rfl hl0 hr0 ?_
    refine gt_geta C (iX0_survey_X0) hW.2.2.2.2.2.2.2 0 rfl rfl (by decide) kX0_survey_12 dX0_survey_31 ?_
    obtain ⟨q34, hq, h⟩ := Option.bind_eq_some_iff.mp h
    refine gt_cVi (n := 1) (st := [.inr r]) C (eX1_findEnds X.2.1 D cI cZ K (Nat.succ_ne_zero _) (Nat.succ_ne_zero _) (by omega) hW.2.1 hW.1 hq) gX0_survey_X1_findEnds rfl (by decide +kernel) rfl ⟨Nat.le_of_ble_eq_true rfl, Nat.le_of_ble_eq_true rfl⟩ hW.2.1.1 rfl rfl (Nat.le_of_ble_eq_true rfl) rfl dX0_survey_34 (fun σ' hp => ?_)
    obtain ⟨hw, hf⟩ := hp
    have hW := gx_W1 hW hw hf
    have hF := hF.tr hf (by omega) (by omega)
    clear hf
    refine gx_putw C (iX0_survey_X0) hW hF kX0_survey_52 dX0_survey_37 (fun σ hW hF => ?_)
    refine ga_aload_n C dX0_survey_40 rfl hl0 hr0 ?_
    refine gt_geti C (iX0_survey_X0) hW.2.2.2.2.2.2.2 8 rfl rfl (by decide) kX0_survey_52 dX0_survey_41 ?_
    refine ga_iconst C dX0_survey_44 ⟨by decide, by decide⟩ ?_
    refine ga_icmp_eq (tgt := 50) C dX0_survey_45 (by decide) (fun c1 => ?_) (fun c1 => ?_)
    · have h := gt_ip h c1
      refine ga_aload_n C dX0_survey_50 rfl hl0 hr0 ?_
      obtain ⟨q51, hq, h⟩ := Option.bind_eq_some_iff.mp h
      refine gt_cVv (n := 0) (st := []) C (eX0_groupPieces X.2.1 D cI cZ K hr0 hW hq) gX0_survey_X0_groupPieces rfl (by decide +kernel) rfl ⟨Nat.le_of_ble_eq_true rfl, Nat.le_of_ble_eq_true rfl⟩ hW.2.2.2.2.2.2.2.1 rfl rfl (Nat.le_of_ble_eq_true rfl) rfl dX0_survey_51 (fun σ' hp => ?_)
      obtain ⟨hw, hf⟩ := hp
      have hF := hF.tr hf (Nat.le_refl _) (Nat.le_refl _)
      have hW := hw
      clear hf
      refine ga_aload_n C dX0_survey_54 rfl hl0 hr0 ?_
      obtain ⟨q55, hq, h⟩ := Option.bind_eq_some_iff.mp h
      refine gt_cVv (n := 0) (st := []) C (eX0_traceFaces X.2.1 D cI cZ K hr0 hW hq) gX0_survey_X0_traceFaces rfl (by decide +kernel) rfl ⟨Nat.le_of_ble_eq_true rfl, Nat.le_of_ble_eq_true rfl⟩ hW.2.2.2.2.2.2.2.1 rfl rfl (Nat.le_of_ble_eq_true rfl) rfl dX0_survey_55 (fun σ' hp => ?_)
      obtain ⟨hw, hf⟩ := hp
      have hF := hF.tr hf (Nat.le_refl _) (Nat.le_refl _)
      have hW := hw
      clear hf
      refine ga_aload_n C dX0_survey_58 rfl hl0 hr0 ?_
      refine ga_aload_n C dX0_survey_59 rfl hl0 hr0 ?_
      obtain ⟨q60, hq, h⟩ := Option.bind_eq_some_iff.mp h
      refine gt_cVi (n := 0) (st := [.inr r]) C (eX0_leastCrossingOnNoSphere X.2.1 D cI cZ K hr0 hW hq) gX0_survey_X0_leastCrossingOnNoSphere rfl (by decide +kernel) rfl ⟨Nat.le_of_ble_eq_true rfl, Nat.le_of_ble_eq_true rfl⟩ hW.2.2.2.2.2.2.2.1 rfl rfl (Nat.le_of_ble_eq_true rfl) rfl dX0_survey_60 (fun σ' hp => ?_)
      subst hp
      refine gx_putw C (iX0_survey_X0) hW hF kX0_survey_52 dX0_survey_63 (fun σ hW hF => ?_)
      refine ga_aload_n C dX0_survey_66 rfl hl0 hr0 ?_
      refine gt_geti C (iX0_survey_X0) hW.2.2.2.2.2.2.2 8 rfl rfl (by decide) kX0_survey_52 dX0_survey_67 ?_
      refine ga_iconst C dX0_survey_70 ⟨by decide, by decide⟩ ?_
      refine ga_icmp_eq (tgt := 76) C dX0_survey_71 (by decide) (fun c1 => ?_) (fun c1 => ?_)
      · have h := gt_ip h c1
        refine ga_aload_n C dX0_survey_76 rfl hl0 hr0 ?_
        obtain ⟨q77, hq, h⟩ := Option.bind_eq_some_iff.mp h
        refine gt_cVv (n := 0) (st := []) C (eX0_traceStrands X.2.1 D cI cZ K hr0 hW hq) gX0_survey_X0_traceStrands rfl (by decide +kernel) rfl ⟨Nat.le_of_ble_eq_true rfl, Nat.le_of_ble_eq_true rfl⟩ hW.2.2.2.2.2.2.2.1 rfl rfl (Nat.le_of_ble_eq_true rfl) rfl dX0_survey_77 (fun σ' hp => ?_)
        obtain ⟨hw, hf⟩ := hp
        have hF := hF.tr hf (Nat.le_refl _) (Nat.le_refl _)
        have hW := hw
        clear hf
        refine ga_aload_n C dX0_survey_80 rfl hl0 hr0 ?_
        obtain ⟨q81, hq, h⟩ := Option.bind_eq_some_iff.mp h
        refine gt_cVv (n := 0) (st := []) C (eX0_groupArcs X.2.1 D cI cZ K hr0 hW hq) gX0_survey_X0_groupArcs rfl (by decide +kernel) rfl ⟨Nat.le_of_ble_eq_true rfl, Nat.le_of_ble_eq_true rfl⟩ hW.2.2.2.2.2.2.2.1 rfl rfl (Nat.le_of_ble_eq_true rfl) rfl dX0_survey_81 (fun σ' hp => ?_)
        obtain ⟨hw, hf⟩ := hp
        have hF := hF.tr hf (Nat.le_refl _) (Nat.le_refl _)
        have hW := hw
        clear hf
        refine ga_iconst C dX0_survey_84 ⟨by decide, by decide⟩ ?_
        cases h
        exact hRet _ _ _ _ dX0_survey_85 rfl ⟨hW, hF⟩
      · have h := gt_in h c1
        refine ga_iconst C dX0_survey_74 ⟨by decide, by decide⟩ ?_
        cases h
        exact hRet _ _ _ _ dX0_survey_75 rfl ⟨hW, hF⟩
    · have h := gt_in h c1
      refine ga_iconst C dX0_survey_48 ⟨by decide, by decide⟩ ?_
      cases h
      exact hRet _ _ _ _ dX0_survey_49 rfl ⟨hW, hF⟩
  · have h := gt_in h c1
    refine ga_iconst C dX0_survey_23 ⟨by decide, by decide⟩ ?_
    cases h
    exact hRet _ _ _ _ dX0_survey_24 rfl ⟨hW, hF⟩
set_option maxHeartbeats 4000000 in
theorem eX0_survey (l : Launch) (D : va_G) (cI cZ : ClassId) (K : Nat) {r : Nat} (hr0 : r ≠ 0) {σ : ga_S} {T : gx_Ch} (hW : gx_W r T σ) {res : gx_Ch × Int} (h : fX0_survey T = some res) : ga_Ev l (D, vwCl, cI, cZ) yX0_survey wsX0_survey (gt_rm 5 107) [] 0 0 K [.inr r] σ (fun σ' rv => (gx_W r res.1 σ' ∧ gt_F r (r + 32) σ σ') ∧ rv = some (.inl res.2)) := by
  refine ga_ofI (by decide +kernel) rfl gt_hcl (Nat.le_of_ble_eq_true rfl) (fun X hX C hret => ?_)
  exact gX0_survey_0 C (fun pc lv σ' z d hz hp => hret pc lv σ' z d ⟨hp, by rw [hz]⟩) hr0 hW gt_F.rf rfl h
-- X0_pieceOfComponent: pieceOfComponent(I)I
def fX0_pieceOfComponent (T : gx_Ch) (l1 : Int) : Option (Int) :=
  (fX3_first T.2.2.2.2.1 l1).bind (fun (q6 : Int) => (fX0_pieceOfEdge (T.1, T.2.1, T.2.2.1, T.2.2.2.1, T.2.2.2.2.1, T.2.2.2.2.2.1, T.2.2.2.2.2.2.1, T.2.2.2.2.2.2.2) q6).bind (fun (q9 : Int) => some q9))
theorem iX0_pieceOfComponent_X0 : ∀ w ∈ u_ws RX0 TX0 9, w ∈ wsX0_pieceOfComponent := by decide +kernel
theorem kX0_pieceOfComponent_38 : Cond.fieldLink yX0_pieceOfComponent.cls 38 (TX0 4).1 (TX0 4).2.1 (TX0 4).2.2.1 ∈ wsX0_pieceOfComponent := by decide +kernel
set_option maxHeartbeats 4000000 in
theorem gX0_pieceOfComponent_0 {X : ga_X} {D : va_G} {cI cZ : ClassId} {K : Nat} {r : Nat} {res : Int} {T : gx_Ch} {σ : ga_S} (C : ga_C X cX0_pieceOfComponent yX0_pieceOfComponent wsX0_pieceOfComponent [] (gt_rm 3 63) (D, vwCl, cI, cZ) 2) (hRet : ∀ (pc : Nat) (lv : Nat → Option ga_V) (σ' : ga_S) (z : Int), decode cX0_pieceOfComponent pc = .ok (.ireturn, 1) → z = res → (σ' = σ) → ga_G X 0 0 K pc lv [.inl z] σ') (hr0 : r ≠ 0) {l1 : Int} {lv : Nat → Option ga_V} (hW : gx_W r T σ) (hl0 : lv 0 = some (.inr r)) (hl1 : lv 1 = some (.inl l1)) (h : fX0_pieceOfComponent T l1 = some res) : ga_G X 0 0 K 0 lv [] σ := by
  unfold fX0_pieceOfComponent at h
  refine ga_aload_n C dX0_pieceOfComponent_0 rfl hl0 hr0 ?_
  refine ga_aload_n C dX0_pieceOfComponent_1 rfl hl0 hr0 ?_
  refine gt_geta C (iX0_pieceOfComponent_X0) hW.2.2.2.2.2.2.2 4 rfl rfl (by decide) kX0_pieceOfComponent_38 dX0_pieceOfComponent_2 ?_
  refine ga_iload_n C dX0_pieceOfComponent_5 rfl hl1 ?_
  obtain ⟨q6, hq, h⟩ := Option.bind_eq_some_iff.mp h
  refine gt_cVi (n := 1) (st := [.inr r]) C (eX3_first X.2.1 D cI cZ K (Nat.succ_ne_zero _) hW.2.2.2.2.1 hq) gX0_pieceOfComponent_X3_first rfl (by decide +kernel) rfl ⟨Nat.le_of_ble_eq_true rfl, Nat.le_of_ble_eq_true rfl⟩ hW.2.2.2.2.1.1 rfl rfl (Nat.le_of_ble_eq_true rfl) rfl dX0_pieceOfComponent_6 (fun σ' hp => ?_)
  subst hp
  obtain ⟨q9, hq, h⟩ := Option.bind_eq_some_iff.mp h
  refine gt_cVi (n := 1) (st := []) C (eX0_pieceOfEdge X.2.1 D cI cZ K hr0 hW hq) gX0_pieceOfComponent_X0_pieceOfEdge rfl (by decide +kernel) rfl ⟨Nat.le_of_ble_eq_true rfl, Nat.le_of_ble_eq_true rfl⟩ hW.2.2.2.2.2.2.2.1 rfl rfl (Nat.le_of_ble_eq_true rfl) rfl dX0_pieceOfComponent_9 (fun σ' hp => ?_)
  subst hp
  cases h
  exact hRet _ _ _ _ dX0_pieceOfComponent_12 rfl rfl
set_option maxHeartbeats 4000000 in
theorem eX0_pieceOfComponent (l : Launch) (D : va_G) (cI cZ : ClassId) (K : Nat) {r : Nat} (hr0 : r ≠ 0) {σ : ga_S} {T : gx_Ch} (hW : gx_W r T σ) {l1 : Int} {res : Int} (h : fX0_pieceOfComponent T l1 = some res) : ga_Ev l (D, vwCl, cI, cZ) yX0_pieceOfComponent wsX0_pieceOfComponent (gt_rm 3 63) [] 0 0 K [.inr r, .inl l1] σ (fun σ' rv => (σ' = σ) ∧ rv = some (.inl res)) := by
  refine ga_ofI (by decide +kernel) rfl gt_hcl (Nat.le_of_ble_eq_true rfl) (fun X hX C hret => ?_)
  exact gX0_pieceOfComponent_0 C (fun pc lv σ' z d hz hp => hret pc lv σ' z d ⟨hp, by rw [hz]⟩) hr0 hW rfl rfl h
-- X0_lowerComponent: lowerComponent(I)I
def fX0_lowerComponent (T : gx_Ch) (l1 : Int) : Option (Int) :=
  (fX4_lowerIn l1).bind (fun (q9 : Int) => (fX1_at T.2.1 q9).bind (fun (q12 : Int) => (fX3_roundOf T.2.2.2.2.1 q12).bind (fun (q15 : Int) => some q15)))
theorem iX0_lowerComponent_X0 : ∀ w ∈ u_ws RX0 TX0 9, w ∈ wsX0_lowerComponent := by decide +kernel
theorem kX0_lowerComponent_21 : Cond.fieldLink yX0_lowerComponent.cls 21 (TX0 1).1 (TX0 1).2.1 (TX0 1).2.2.1 ∈ wsX0_lowerComponent := by decide +kernel
theorem kX0_lowerComponent_38 : Cond.fieldLink yX0_lowerComponent.cls 38 (TX0 4).1 (TX0 4).2.1 (TX0 4).2.2.1 ∈ wsX0_lowerComponent := by decide +kernel
set_option maxHeartbeats 4000000 in
theorem gX0_lowerComponent_0 {X : ga_X} {D : va_G} {cI cZ : ClassId} {K : Nat} {r : Nat} {res : Int} {T : gx_Ch} {σ : ga_S} (C : ga_C X cX0_lowerComponent yX0_lowerComponent wsX0_lowerComponent [] (gt_rm 2 42) (D, vwCl, cI, cZ) 2) (hRet : ∀ (pc : Nat) (lv : Nat → Option ga_V) (σ' : ga_S) (z : Int), decode cX0_lowerComponent pc = .ok (.ireturn, 1) → z = res → (σ' = σ) → ga_G X 0 0 K pc lv [.inl z] σ') (hr0 : r ≠ 0) {l1 : Int} {lv : Nat → Option ga_V} (hW : gx_W r T σ) (hl0 : lv 0 = some (.inr r)) (hl1 : lv 1 = some (.inl l1)) (h : fX0_lowerComponent T l1 = some res) : ga_G X 0 0 K 0 lv [] σ := by
  unfold fX0_lowerComponent at h
  refine ga_aload_n C dX0_lowerComponent_0 rfl hl0 hr0 ?_
  refine gt_geta C (iX0_lowerComponent_X0) hW.2.2.2.2.2.2.2 4 rfl rfl (by decide) kX0_lowerComponent_38 dX0_lowerComponent_1 ?_
  refine ga_aload_n C dX0_lowerComponent_4 rfl hl0 hr0 ?_
  refine gt_geta C (iX0_lowerComponent_X0) hW.2.2.2.2.2.2.2 1 rfl rfl (by decide) kX0_lowerComponent_21 dX0_lowerComponent_5 ?_
  refine ga_iload_n C dX0_lowerComponent_8 rfl hl1 ?_
  obtain ⟨q9, hq, h⟩ := Option.bind_eq_some_iff.mp h
  refine gt_cSi (n := 1) (st := [.inr (r + 4), .inr (r + 16)]) C (eX4_lowerIn X.2.1 D cI cZ K hq) gX0_lowerComponent_X4_lowerIn rfl (by decide +kernel) rfl ⟨Nat.le_of_ble_eq_true rfl, Nat.le_of_ble_eq_true rfl⟩ (Nat.le_of_ble_eq_true rfl) rfl dX0_lowerComponent_9 (fun σ' hp => ?_)
  subst hp
  obtain ⟨q12, hq, h⟩ := Option.bind_eq_some_iff.mp h
  refine gt_cVi (n := 1) (st := [.inr (r + 16)]) C (eX1_at X.2.1 D cI cZ K (Nat.succ_ne_zero _) hW.2.1 hq) gX0_lowerComponent_X1_at rfl (by decide +kernel) rfl ⟨Nat.le_of_ble_eq_true rfl, Nat.le_of_ble_eq_true rfl⟩ hW.2.1.1 rfl rfl (Nat.le_of_ble_eq_true rfl) rfl dX0_lowerComponent_12 (fun σ' hp => ?_)
  subst hp
  obtain ⟨q15, hq, h⟩ := Option.bind_eq_some_iff.mp h
  refine gt_cVi (n := 1) (st := []) C (eX3_roundOf X.2.1 D cI cZ K (Nat.succ_ne_zero _) hW.2.2.2.2.1 hq) gX0_lowerComponent_X3_roundOf rfl (by decide +kernel) rfl ⟨Nat.le_of_ble_eq_true rfl, Nat.le_of_ble_eq_true rfl⟩ hW.2.2.2.2.1.1 rfl rfl (Nat.le_of_ble_eq_true rfl) rfl dX0_lowerComponent_15 (fun σ' hp => ?_)
  subst hp
  cases h
  exact hRet _ _ _ _ dX0_lowerComponent_18 rfl rfl
set_option maxHeartbeats 4000000 in
theorem eX0_lowerComponent (l : Launch) (D : va_G) (cI cZ : ClassId) (K : Nat) {r : Nat} (hr0 : r ≠ 0) {σ : ga_S} {T : gx_Ch} (hW : gx_W r T σ) {l1 : Int} {res : Int} (h : fX0_lowerComponent T l1 = some res) : ga_Ev l (D, vwCl, cI, cZ) yX0_lowerComponent wsX0_lowerComponent (gt_rm 2 42) [] 0 0 K [.inr r, .inl l1] σ (fun σ' rv => (σ' = σ) ∧ rv = some (.inl res)) := by
  refine ga_ofI (by decide +kernel) rfl gt_hcl (Nat.le_of_ble_eq_true rfl) (fun X hX C hret => ?_)
  exact gX0_lowerComponent_0 C (fun pc lv σ' z d hz hp => hret pc lv σ' z d ⟨hp, by rw [hz]⟩) hr0 hW rfl rfl h
-- X0_upperComponent: upperComponent(I)I
def fX0_upperComponent (T : gx_Ch) (l1 : Int) : Option (Int) :=
  (fX4_upperIn T.1 l1).bind (fun (q13 : Int) => (fX1_at T.2.1 q13).bind (fun (q16 : Int) => (fX3_roundOf T.2.2.2.2.1 q16).bind (fun (q19 : Int) => some q19)))
theorem iX0_upperComponent_X0 : ∀ w ∈ u_ws RX0 TX0 9, w ∈ wsX0_upperComponent := by decide +kernel
theorem kX0_upperComponent_12 : Cond.fieldLink yX0_upperComponent.cls 12 (TX0 0).1 (TX0 0).2.1 (TX0 0).2.2.1 ∈ wsX0_upperComponent := by decide +kernel
theorem kX0_upperComponent_21 : Cond.fieldLink yX0_upperComponent.cls 21 (TX0 1).1 (TX0 1).2.1 (TX0 1).2.2.1 ∈ wsX0_upperComponent := by decide +kernel
theorem kX0_upperComponent_38 : Cond.fieldLink yX0_upperComponent.cls 38 (TX0 4).1 (TX0 4).2.1 (TX0 4).2.2.1 ∈ wsX0_upperComponent := by decide +kernel
set_option maxHeartbeats 4000000 in
theorem gX0_upperComponent_0 {X : ga_X} {D : va_G} {cI cZ : ClassId} {K : Nat} {r : Nat} {res : Int} {T : gx_Ch} {σ : ga_S} (C : ga_C X cX0_upperComponent yX0_upperComponent wsX0_upperComponent [] (gt_rm 3 63) (D, vwCl, cI, cZ) 2) (hRet : ∀ (pc : Nat) (lv : Nat → Option ga_V) (σ' : ga_S) (z : Int), decode cX0_upperComponent pc = .ok (.ireturn, 1) → z = res → (σ' = σ) → ga_G X 0 0 K pc lv [.inl z] σ') (hr0 : r ≠ 0) {l1 : Int} {lv : Nat → Option ga_V} (hW : gx_W r T σ) (hl0 : lv 0 = some (.inr r)) (hl1 : lv 1 = some (.inl l1)) (h : fX0_upperComponent T l1 = some res) : ga_G X 0 0 K 0 lv [] σ := by
  unfold fX0_upperComponent at h
  refine ga_aload_n C dX0_upperComponent_0 rfl hl0 hr0 ?_
  refine gt_geta C (iX0_upperComponent_X0) hW.2.2.2.2.2.2.2 4 rfl rfl (by decide) kX0_upperComponent_38 dX0_upperComponent_1 ?_
  refine ga_aload_n C dX0_upperComponent_4 rfl hl0 hr0 ?_
  refine gt_geta C (iX0_upperComponent_X0) hW.2.2.2.2.2.2.2 1 rfl rfl (by decide) kX0_upperComponent_21 dX0_upperComponent_5 ?_
  refine ga_aload_n C dX0_upperComponent_8 rfl hl0 hr0 ?_
  refine gt_geta C (iX0_upperComponent_X0) hW.2.2.2.2.2.2.2 0 rfl rfl (by decide) kX0_upperComponent_12 dX0_upperComponent_9 ?_
  refine ga_iload_n C dX0_upperComponent_12 rfl hl1 ?_
  obtain ⟨q13, hq, h⟩ := Option.bind_eq_some_iff.mp h
  refine gt_cVi (n := 1) (st := [.inr (r + 4), .inr (r + 16)]) C (eX4_upperIn X.2.1 D cI cZ K (Nat.succ_ne_zero _) hW.1 hq) gX0_upperComponent_X4_upperIn rfl (by decide +kernel) rfl ⟨Nat.le_of_ble_eq_true rfl, Nat.le_of_ble_eq_true rfl⟩ hW.1.1 rfl rfl (Nat.le_of_ble_eq_true rfl) rfl dX0_upperComponent_13 (fun σ' hp => ?_)
  subst hp
  obtain ⟨q16, hq, h⟩ := Option.bind_eq_some_iff.mp h
  refine gt_cVi (n := 1) (st := [.inr (r + 16)]) C (eX1_at X.2.1 D cI cZ K (Nat.succ_ne_zero _) hW.2.1 hq) gX0_upperComponent_X1_at rfl (by decide +kernel) rfl ⟨Nat.le_of_ble_eq_true rfl, Nat.le_of_ble_eq_true rfl⟩ hW.2.1.1 rfl rfl (Nat.le_of_ble_eq_true rfl) rfl dX0_upperComponent_16 (fun σ' hp => ?_)
  subst hp
  obtain ⟨q19, hq, h⟩ := Option.bind_eq_some_iff.mp h
  refine gt_cVi (n := 1) (st := []) C (eX3_roundOf X.2.1 D cI cZ K (Nat.succ_ne_zero _) hW.2.2.2.2.1 hq) gX0_upperComponent_X3_roundOf rfl (by decide +kernel) rfl ⟨Nat.le_of_ble_eq_true rfl, Nat.le_of_ble_eq_true rfl⟩ hW.2.2.2.2.1.1 rfl rfl (Nat.le_of_ble_eq_true rfl) rfl dX0_upperComponent_19 (fun σ' hp => ?_)
  subst hp
  cases h
  exact hRet _ _ _ _ dX0_upperComponent_22 rfl rfl
set_option maxHeartbeats 4000000 in
theorem eX0_upperComponent (l : Launch) (D : va_G) (cI cZ : ClassId) (K : Nat) {r : Nat} (hr0 : r ≠ 0) {σ : ga_S} {T : gx_Ch} (hW : gx_W r T σ) {l1 : Int} {res : Int} (h : fX0_upperComponent T l1 = some res) : ga_Ev l (D, vwCl, cI, cZ) yX0_upperComponent wsX0_upperComponent (gt_rm 3 63) [] 0 0 K [.inr r, .inl l1] σ (fun σ' rv => (σ' = σ) ∧ rv = some (.inl res)) := by
  refine ga_ofI (by decide +kernel) rfl gt_hcl (Nat.le_of_ble_eq_true rfl) (fun X hX C hret => ?_)
  exact gX0_upperComponent_0 C (fun pc lv σ' z d hz hp => hret pc lv σ' z d ⟨hp, by rw [hz]⟩) hr0 hW rfl rfl h
-- X0_sumOfSignsUnder: sumOfSignsUnder(II)I
def fX0_sumOfSignsUnder_49 (T : gx_Ch) (k5 : Int × Int × Int × Int → Option (Int)) (l1 l2 l3 l4 : Int) : Option (Int) :=
  (if (-2147483648 ≤ l4 + (1 : Int) ∧ l4 + (1 : Int) < 2147483648) then k5 (l1, l2, l3, l4 + (1 : Int)) else none)
def fX0_sumOfSignsUnder_5 (T : gx_Ch) (k5 : Int × Int × Int × Int → Option (Int)) (a : Int × Int × Int × Int) : Option (Int) :=
  (fX4_crossings T.1).bind (fun (q11 : Int) => (if q11 ≤ a.2.2.2 then some a.2.2.1 else (fX0_lowerComponent (T.1, T.2.1, T.2.2.1, T.2.2.2.1, T.2.2.2.2.1, T.2.2.2.2.2.1, T.2.2.2.2.2.2.1, T.2.2.2.2.2.2.2) a.2.2.2).bind (fun (q20 : Int) => (if q20 = a.1 then (fX0_upperComponent (T.1, T.2.1, T.2.2.1, T.2.2.2.1, T.2.2.2.2.1, T.2.2.2.2.2.1, T.2.2.2.2.2.2.1, T.2.2.2.2.2.2.2) a.2.2.2).bind (fun (q30 : Int) => (if q30 = a.2.1 then (fX4_sign T.1 a.2.2.2).bind (fun (q44 : Int) => (if (-2147483648 ≤ a.2.2.1 + q44 ∧ a.2.2.1 + q44 < 2147483648) then fX0_sumOfSignsUnder_49 T k5 a.1 a.2.1 (a.2.2.1 + q44) a.2.2.2 else none)) else fX0_sumOfSignsUnder_49 T k5 a.1 a.2.1 a.2.2.1 a.2.2.2)) else fX0_sumOfSignsUnder_49 T k5 a.1 a.2.1 a.2.2.1 a.2.2.2))))
def fX0_sumOfSignsUnder (T : gx_Ch) (l1 l2 : Int) : Option (Int) :=
  gt_loop (fX0_sumOfSignsUnder_5 T) gt_fuel (l1, l2, (0 : Int), (0 : Int))
theorem iX0_sumOfSignsUnder_X0 : ∀ w ∈ u_ws RX0 TX0 9, w ∈ wsX0_sumOfSignsUnder := by decide +kernel
theorem kX0_sumOfSignsUnder_12 : Cond.fieldLink yX0_sumOfSignsUnder.cls 12 (TX0 0).1 (TX0 0).2.1 (TX0 0).2.2.1 ∈ wsX0_sumOfSignsUnder := by decide +kernel
set_option maxHeartbeats 4000000 in
theorem gX0_sumOfSignsUnder_49 {X : ga_X} {D : va_G} {cI cZ : ClassId} {K : Nat} {r : Nat} {res : Int} {T : gx_Ch} {σ : ga_S} {k5 : Int × Int × Int × Int → Option (Int)} (C : ga_C X cX0_sumOfSignsUnder yX0_sumOfSignsUnder wsX0_sumOfSignsUnder [] (gt_rm 4 84) (D, vwCl, cI, cZ) 5) (hRet : ∀ (pc : Nat) (lv : Nat → Option ga_V) (σ' : ga_S) (z : Int), decode cX0_sumOfSignsUnder pc = .ok (.ireturn, 1) → z = res → (σ' = σ) → ga_G X 0 0 K pc lv [.inl z] σ') (hr0 : r ≠ 0) (hk5 : ∀ (a : Int × Int × Int × Int) (lv : Nat → Option ga_V), gx_W r T σ → lv 0 = some (.inr r) → lv 1 = some (.inl a.1) → lv 2 = some (.inl a.2.1) → lv 3 = some (.inl a.2.2.1) → lv 4 = some (.inl a.2.2.2) → k5 a = some res → ga_G X 0 0 K 5 lv [] σ) {l1 l2 l3 l4 : Int} {lv : Nat → Option ga_V} (hW : gx_W r T σ) (hl0 : lv 0 = some (.inr r)) (hl1 : lv 1 = some (.inl l1)) (hl2 : lv 2 = some (.inl l2)) (hl3 : lv 3 = some (.inl l3)) (hl4 : lv 4 = some (.inl l4)) (h : fX0_sumOfSignsUnder_49 T k5 l1 l2 l3 l4 = some res) : ga_G X 0 0 K 49 lv [] σ := by
  unfold fX0_sumOfSignsUnder_49 at h
  obtain ⟨hg, h⟩ := gt_gd h
  have g49_0 := hg
  refine ga_iinc C dX0_sumOfSignsUnder_49 hl4 g49_0 ?_
  refine ga_goto (tgt := 5) C dX0_sumOfSignsUnder_52 (by decide) ?_
  exact hk5 (l1, l2, l3, l4 + (1 : Int)) _ hW (gt_un (by decide) hl0) (gt_un (by decide) hl1) (gt_un (by decide) hl2) (gt_un (by decide) hl3) gt_us h
set_option maxHeartbeats 4000000 in
theorem gX0_sumOfSignsUnder_5 {X : ga_X} {D : va_G} {cI cZ : ClassId} {K : Nat} {r : Nat} {res : Int} {T : gx_Ch} {σ : ga_S} (C : ga_C X cX0_sumOfSignsUnder yX0_sumOfSignsUnder wsX0_sumOfSignsUnder [] (gt_rm 4 84) (D, vwCl, cI, cZ) 5) (hRet : ∀ (pc : Nat) (lv : Nat → Option ga_V) (σ' : ga_S) (z : Int), decode cX0_sumOfSignsUnder pc = .ok (.ireturn, 1) → z = res → (σ' = σ) → ga_G X 0 0 K pc lv [.inl z] σ') (hr0 : r ≠ 0) : ∀ (n : Nat) (a : Int × Int × Int × Int) (lv : Nat → Option ga_V), gx_W r T σ → lv 0 = some (.inr r) → lv 1 = some (.inl a.1) → lv 2 = some (.inl a.2.1) → lv 3 = some (.inl a.2.2.1) → lv 4 = some (.inl a.2.2.2) → gt_loop (fX0_sumOfSignsUnder_5 T) n a = some res → ga_G X 0 0 K 5 lv [] σ := by
  intro n
  induction n with
  | zero =>
    intro a lv _ _ _ _ _ _ h
    exact absurd (show (none : Option _) = some _ from h) (fun q => by cases q)
  | succ n hk5 =>
    intro a lv hW hl0 hl1 hl2 hl3 hl4 h
    have h : fX0_sumOfSignsUnder_5 T (gt_loop (fX0_sumOfSignsUnder_5 T) n) a = some res := h
    revert hk5 h
    generalize gt_loop (fX0_sumOfSignsUnder_5 T) n = k5
    intro hk5 h
    unfold fX0_sumOfSignsUnder_5 at h
    refine ga_iload C dX0_sumOfSignsUnder_5 hl4 ?_
    refine ga_aload_n C dX0_sumOfSignsUnder_7 rfl hl0 hr0 ?_
    refine gt_geta C (iX0_sumOfSignsUnder_X0) hW.2.2.2.2.2.2.2 0 rfl rfl (by decide) kX0_sumOfSignsUnder_12 dX0_sumOfSignsUnder_8 ?_
    obtain ⟨q11, hq, h⟩ := Option.bind_eq_some_iff.mp h
    refine gt_cVi (n := 0) (st := [.inl a.2.2.2]) C (eX4_crossings X.2.1 D cI cZ K (Nat.succ_ne_zero _) hW.1 hq) gX0_sumOfSignsUnder_X4_crossings rfl (by decide +kernel) rfl ⟨Nat.le_of_ble_eq_true rfl, Nat.le_of_ble_eq_true rfl⟩ hW.1.1 rfl rfl (Nat.le_of_ble_eq_true rfl) rfl dX0_sumOfSignsUnder_11 (fun σ' hp => ?_)
    subst hp
    refine ga_icmp_ge (tgt := 55) C dX0_sumOfSignsUnder_14 (by decide) (fun c1 => ?_) (fun c1 => ?_)
    · have h := gt_ip h c1
      refine ga_iload_n C dX0_sumOfSignsUnder_55 rfl hl3 ?_
      cases h
      exact hRet _ _ _ _ dX0_sumOfSignsUnder_56 rfl rfl
    · have h := gt_in h c1
      refine ga_aload_n C dX0_sumOfSignsUnder_17 rfl hl0 hr0 ?_
      refine ga_iload C dX0_sumOfSignsUnder_18 hl4 ?_
      obtain ⟨q20, hq, h⟩ := Option.bind_eq_some_iff.mp h
      refine gt_cVi (n := 1) (st := []) C (eX0_lowerComponent X.2.1 D cI cZ K hr0 hW hq) gX0_sumOfSignsUnder_X0_lowerComponent rfl (by decide +kernel) rfl ⟨Nat.le_of_ble_eq_true rfl, Nat.le_of_ble_eq_true rfl⟩ hW.2.2.2.2.2.2.2.1 rfl rfl (Nat.le_of_ble_eq_true rfl) rfl dX0_sumOfSignsUnder_20 (fun σ' hp => ?_)
      subst hp
      refine ga_iload_n C dX0_sumOfSignsUnder_23 rfl hl1 ?_
      refine ga_icmp_ne (tgt := 49) C dX0_sumOfSignsUnder_24 (by decide) (fun c1 => ?_) (fun c1 => ?_)
      · have h := gt_in h c1
        exact gX0_sumOfSignsUnder_49 C hRet hr0 hk5 hW hl0 hl1 hl2 hl3 hl4 h
      · have h := gt_ip h c1
        refine ga_aload_n C dX0_sumOfSignsUnder_27 rfl hl0 hr0 ?_
        refine ga_iload C dX0_sumOfSignsUnder_28 hl4 ?_
        obtain ⟨q30, hq, h⟩ := Option.bind_eq_some_iff.mp h
        refine gt_cVi (n := 1) (st := []) C (eX0_upperComponent X.2.1 D cI cZ K hr0 hW hq) gX0_sumOfSignsUnder_X0_upperComponent rfl (by decide +kernel) rfl ⟨Nat.le_of_ble_eq_true rfl, Nat.le_of_ble_eq_true rfl⟩ hW.2.2.2.2.2.2.2.1 rfl rfl (Nat.le_of_ble_eq_true rfl) rfl dX0_sumOfSignsUnder_30 (fun σ' hp => ?_)
        subst hp
        refine ga_iload_n C dX0_sumOfSignsUnder_33 rfl hl2 ?_
        refine ga_icmp_ne (tgt := 49) C dX0_sumOfSignsUnder_34 (by decide) (fun c1 => ?_) (fun c1 => ?_)
        · have h := gt_in h c1
          exact gX0_sumOfSignsUnder_49 C hRet hr0 hk5 hW hl0 hl1 hl2 hl3 hl4 h
        · have h := gt_ip h c1
          refine ga_iload_n C dX0_sumOfSignsUnder_37 rfl hl3 ?_
          refine ga_aload_n C dX0_sumOfSignsUnder_38 rfl hl0 hr0 ?_
          refine gt_geta C (iX0_sumOfSignsUnder_X0) hW.2.2.2.2.2.2.2 0 rfl rfl (by decide) kX0_sumOfSignsUnder_12 dX0_sumOfSignsUnder_39 ?_
          refine ga_iload C dX0_sumOfSignsUnder_42 hl4 ?_
          obtain ⟨q44, hq, h⟩ := Option.bind_eq_some_iff.mp h
          refine gt_cVi (n := 1) (st := [.inl a.2.2.1]) C (eX4_sign X.2.1 D cI cZ K (Nat.succ_ne_zero _) hW.1 hq) gX0_sumOfSignsUnder_X4_sign rfl (by decide +kernel) rfl ⟨Nat.le_of_ble_eq_true rfl, Nat.le_of_ble_eq_true rfl⟩ hW.1.1 rfl rfl (Nat.le_of_ble_eq_true rfl) rfl dX0_sumOfSignsUnder_44 (fun σ' hp => ?_)
          subst hp
          obtain ⟨hg, h⟩ := gt_gd h
          have g47_0 := hg
          refine ga_iadd C dX0_sumOfSignsUnder_47 g47_0 ?_
          refine ga_istore_n C dX0_sumOfSignsUnder_48 rfl (by decide) ?_
          exact gX0_sumOfSignsUnder_49 C hRet hr0 hk5 hW (gt_un (by decide) hl0) (gt_un (by decide) hl1) (gt_un (by decide) hl2) gt_us (gt_un (by decide) hl4) h
set_option maxHeartbeats 4000000 in
theorem gX0_sumOfSignsUnder_0 {X : ga_X} {D : va_G} {cI cZ : ClassId} {K : Nat} {r : Nat} {res : Int} {T : gx_Ch} {σ : ga_S} (C : ga_C X cX0_sumOfSignsUnder yX0_sumOfSignsUnder wsX0_sumOfSignsUnder [] (gt_rm 4 84) (D, vwCl, cI, cZ) 5) (hRet : ∀ (pc : Nat) (lv : Nat → Option ga_V) (σ' : ga_S) (z : Int), decode cX0_sumOfSignsUnder pc = .ok (.ireturn, 1) → z = res → (σ' = σ) → ga_G X 0 0 K pc lv [.inl z] σ') (hr0 : r ≠ 0) {l1 l2 : Int} {lv : Nat → Option ga_V} (hW : gx_W r T σ) (hl0 : lv 0 = some (.inr r)) (hl1 : lv 1 = some (.inl l1)) (hl2 : lv 2 = some (.inl l2)) (h : fX0_sumOfSignsUnder T l1 l2 = some res) : ga_G X 0 0 K 0 lv [] σ := by
  unfold fX0_sumOfSignsUnder at h
  refine ga_iconst C dX0_sumOfSignsUnder_0 ⟨by decide, by decide⟩ ?_
  refine ga_istore_n C dX0_sumOfSignsUnder_1 rfl (by decide) ?_
  refine ga_iconst C dX0_sumOfSignsUnder_2 ⟨by decide, by decide⟩ ?_
  refine ga_istore C dX0_sumOfSignsUnder_3 (by decide) ?_
  exact gX0_sumOfSignsUnder_5 C hRet hr0 gt_fuel (l1, l2, (0 : Int), (0 : Int)) _ hW (gt_un (by decide) (gt_un (by decide) hl0)) (gt_un (by decide) (gt_un (by decide) hl1)) (gt_un (by decide) (gt_un (by decide) hl2)) (gt_un (by decide) gt_us) gt_us h
set_option maxHeartbeats 4000000 in
theorem eX0_sumOfSignsUnder (l : Launch) (D : va_G) (cI cZ : ClassId) (K : Nat) {r : Nat} (hr0 : r ≠ 0) {σ : ga_S} {T : gx_Ch} (hW : gx_W r T σ) {l1 l2 : Int} {res : Int} (h : fX0_sumOfSignsUnder T l1 l2 = some res) : ga_Ev l (D, vwCl, cI, cZ) yX0_sumOfSignsUnder wsX0_sumOfSignsUnder (gt_rm 4 84) [] 0 0 K [.inr r, .inl l1, .inl l2] σ (fun σ' rv => (σ' = σ) ∧ rv = some (.inl res)) := by
  refine ga_ofI (by decide +kernel) rfl gt_hcl (Nat.le_of_ble_eq_true rfl) (fun X hX C hret => ?_)
  exact gX0_sumOfSignsUnder_0 C (fun pc lv σ' z d hz hp => hret pc lv σ' z d ⟨hp, by rw [hz]⟩) hr0 hW rfl rfl rfl h
-- X0_sumOfOwnSigns: sumOfOwnSigns(I)I
def fX0_sumOfOwnSigns (T : gx_Ch) (l1 : Int) : Option (Int) :=
  (fX0_sumOfSignsUnder (T.1, T.2.1, T.2.2.1, T.2.2.2.1, T.2.2.2.2.1, T.2.2.2.2.2.1, T.2.2.2.2.2.2.1, T.2.2.2.2.2.2.2) l1 l1).bind (fun (q3 : Int) => some q3)
set_option maxHeartbeats 4000000 in
theorem gX0_sumOfOwnSigns_0 {X : ga_X} {D : va_G} {cI cZ : ClassId} {K : Nat} {r : Nat} {res : Int} {T : gx_Ch} {σ : ga_S} (C : ga_C X cX0_sumOfOwnSigns yX0_sumOfOwnSigns wsX0_sumOfOwnSigns [] (gt_rm 5 108) (D, vwCl, cI, cZ) 2) (hRet : ∀ (pc : Nat) (lv : Nat → Option ga_V) (σ' : ga_S) (z : Int), decode cX0_sumOfOwnSigns pc = .ok (.ireturn, 1) → z = res → (σ' = σ) → ga_G X 0 0 K pc lv [.inl z] σ') (hr0 : r ≠ 0) {l1 : Int} {lv : Nat → Option ga_V} (hW : gx_W r T σ) (hl0 : lv 0 = some (.inr r)) (hl1 : lv 1 = some (.inl l1)) (h : fX0_sumOfOwnSigns T l1 = some res) : ga_G X 0 0 K 0 lv [] σ := by
  unfold fX0_sumOfOwnSigns at h
  refine ga_aload_n C dX0_sumOfOwnSigns_0 rfl hl0 hr0 ?_
  refine ga_iload_n C dX0_sumOfOwnSigns_1 rfl hl1 ?_
  refine ga_iload_n C dX0_sumOfOwnSigns_2 rfl hl1 ?_
  obtain ⟨q3, hq, h⟩ := Option.bind_eq_some_iff.mp h
  refine gt_cVi (n := 2) (st := []) C (eX0_sumOfSignsUnder X.2.1 D cI cZ K hr0 hW hq) gX0_sumOfOwnSigns_X0_sumOfSignsUnder rfl (by decide +kernel) rfl ⟨Nat.le_of_ble_eq_true rfl, Nat.le_of_ble_eq_true rfl⟩ hW.2.2.2.2.2.2.2.1 rfl rfl (Nat.le_of_ble_eq_true rfl) rfl dX0_sumOfOwnSigns_3 (fun σ' hp => ?_)
  subst hp
  cases h
  exact hRet _ _ _ _ dX0_sumOfOwnSigns_6 rfl rfl
set_option maxHeartbeats 4000000 in
theorem eX0_sumOfOwnSigns (l : Launch) (D : va_G) (cI cZ : ClassId) (K : Nat) {r : Nat} (hr0 : r ≠ 0) {σ : ga_S} {T : gx_Ch} (hW : gx_W r T σ) {l1 : Int} {res : Int} (h : fX0_sumOfOwnSigns T l1 = some res) : ga_Ev l (D, vwCl, cI, cZ) yX0_sumOfOwnSigns wsX0_sumOfOwnSigns (gt_rm 5 108) [] 0 0 K [.inr r, .inl l1] σ (fun σ' rv => (σ' = σ) ∧ rv = some (.inl res)) := by
  refine ga_ofI (by decide +kernel) rfl gt_hcl (Nat.le_of_ble_eq_true rfl) (fun X hX C hret => ?_)
  exact gX0_sumOfOwnSigns_0 C (fun pc lv σ' z d hz hp => hret pc lv σ' z d ⟨hp, by rw [hz]⟩) hr0 hW rfl rfl h
-- X0_linking: linking(II)I
def fX0_linking (T : gx_Ch) (l1 l2 : Int) : Option (Int) :=
  (if l1 = l2 then some (0 : Int) else (fX0_sumOfSignsUnder (T.1, T.2.1, T.2.2.1, T.2.2.2.1, T.2.2.2.2.1, T.2.2.2.2.2.1, T.2.2.2.2.2.2.1, T.2.2.2.2.2.2.2) l1 l2).bind (fun (q10 : Int) => (fX0_sumOfSignsUnder (T.1, T.2.1, T.2.2.1, T.2.2.2.1, T.2.2.2.2.1, T.2.2.2.2.2.1, T.2.2.2.2.2.2.1, T.2.2.2.2.2.2.2) l2 l1).bind (fun (q16 : Int) => (if (-2147483648 ≤ q10 + q16 ∧ q10 + q16 < 2147483648) then some (Int.tdiv (q10 + q16) (2 : Int)) else none))))
set_option maxHeartbeats 4000000 in
theorem gX0_linking_0 {X : ga_X} {D : va_G} {cI cZ : ClassId} {K : Nat} {r : Nat} {res : Int} {T : gx_Ch} {σ : ga_S} (C : ga_C X cX0_linking yX0_linking wsX0_linking [] (gt_rm 5 108) (D, vwCl, cI, cZ) 3) (hRet : ∀ (pc : Nat) (lv : Nat → Option ga_V) (σ' : ga_S) (z : Int), decode cX0_linking pc = .ok (.ireturn, 1) → z = res → (σ' = σ) → ga_G X 0 0 K pc lv [.inl z] σ') (hr0 : r ≠ 0) {l1 l2 : Int} {lv : Nat → Option ga_V} (hW : gx_W r T σ) (hl0 : lv 0 = some (.inr r)) (hl1 : lv 1 = some (.inl l1)) (hl2 : lv 2 = some (.inl l2)) (h : fX0_linking T l1 l2 = some res) : ga_G X 0 0 K 0 lv [] σ := by
  unfold fX0_linking at h
  refine ga_iload_n C dX0_linking_0 rfl hl1 ?_
  refine ga_iload_n C dX0_linking_1 rfl hl2 ?_
  refine ga_icmp_ne (tgt := 7) C dX0_linking_2 (by decide) (fun c1 => ?_) (fun c1 => ?_)
  · have h := gt_in h c1
    refine ga_aload_n C dX0_linking_7 rfl hl0 hr0 ?_
    refine ga_iload_n C dX0_linking_8 rfl hl1 ?_
    refine ga_iload_n C dX0_linking_9 rfl hl2 ?_
    obtain ⟨q10, hq, h⟩ := Option.bind_eq_some_iff.mp h
    refine gt_cVi (n := 2) (st := []) C (eX0_sumOfSignsUnder X.2.1 D cI cZ K hr0 hW hq) gX0_linking_X0_sumOfSignsUnder rfl (by decide +kernel) rfl ⟨Nat.le_of_ble_eq_true rfl, Nat.le_of_ble_eq_true rfl⟩ hW.2.2.2.2.2.2.2.1 rfl rfl (Nat.le_of_ble_eq_true rfl) rfl dX0_linking_10 (fun σ' hp => ?_)
    subst hp
    refine ga_aload_n C dX0_linking_13 rfl hl0 hr0 ?_
    refine ga_iload_n C dX0_linking_14 rfl hl2 ?_
    refine ga_iload_n C dX0_linking_15 rfl hl1 ?_
    obtain ⟨q16, hq, h⟩ := Option.bind_eq_some_iff.mp h
    refine gt_cVi (n := 2) (st := [.inl q10]) C (eX0_sumOfSignsUnder X.2.1 D cI cZ K hr0 hW hq) gX0_linking_X0_sumOfSignsUnder rfl (by decide +kernel) rfl ⟨Nat.le_of_ble_eq_true rfl, Nat.le_of_ble_eq_true rfl⟩ hW.2.2.2.2.2.2.2.1 rfl rfl (Nat.le_of_ble_eq_true rfl) rfl dX0_linking_16 (fun σ' hp => ?_)
    subst hp
    obtain ⟨hg, h⟩ := gt_gd h
    have g19_0 := hg
    refine ga_iadd C dX0_linking_19 g19_0 ?_
    refine ga_iconst C dX0_linking_20 ⟨by decide, by decide⟩ ?_
    refine ga_idiv C dX0_linking_21 (by decide) ?_
    cases h
    exact hRet _ _ _ _ dX0_linking_22 rfl rfl
  · have h := gt_ip h c1
    refine ga_iconst C dX0_linking_5 ⟨by decide, by decide⟩ ?_
    cases h
    exact hRet _ _ _ _ dX0_linking_6 rfl rfl
set_option maxHeartbeats 4000000 in
theorem eX0_linking (l : Launch) (D : va_G) (cI cZ : ClassId) (K : Nat) {r : Nat} (hr0 : r ≠ 0) {σ : ga_S} {T : gx_Ch} (hW : gx_W r T σ) {l1 l2 : Int} {res : Int} (h : fX0_linking T l1 l2 = some res) : ga_Ev l (D, vwCl, cI, cZ) yX0_linking wsX0_linking (gt_rm 5 108) [] 0 0 K [.inr r, .inl l1, .inl l2] σ (fun σ' rv => (σ' = σ) ∧ rv = some (.inl res)) := by
  refine ga_ofI (by decide +kernel) rfl gt_hcl (Nat.le_of_ble_eq_true rfl) (fun X hX C hret => ?_)
  exact gX0_linking_0 C (fun pc lv σ' z d hz hp => hret pc lv σ' z d ⟨hp, by rw [hz]⟩) hr0 hW rfl rfl rfl h
