-- X5_isLabel: isLabel(I)Z
def fX5_isLabel_17 (s0 : Int) : Option (Int) :=
  (if (s0 = 0 ∨ s0 = 1) then some s0 else none)
def fX5_isLabel_16 : Option (Int) :=
  fX5_isLabel_17 (0 : Int)
def fX5_isLabel (l0 : Int) : Option (Int) :=
  (if l0 < (1 : Int) then fX5_isLabel_16 else (if (9999 : Int) < l0 then fX5_isLabel_16 else fX5_isLabel_17 (1 : Int)))
set_option maxHeartbeats 4000000 in
theorem gX5_isLabel_17 {X : ga_X} {D : va_G} {cI cZ : ClassId} {K : Nat} {res : Int} {σ : ga_S} (C : ga_C X cX5_isLabel yX5_isLabel wsX5_isLabel [] (gt_rm 0 0) (D, vwCl, cI, cZ) 1) (hRet : ∀ (pc : Nat) (lv : Nat → Option ga_V) (σ' : ga_S) (z : Int), decode cX5_isLabel pc = .ok (.ireturn, 1) → (z = 0 ∨ z = 1) → z = res → σ' = σ → ga_G X 0 0 K pc lv [.inl z] σ') {s0 : Int} {lv : Nat → Option ga_V}  (h : fX5_isLabel_17 s0 = some res) : ga_G X 0 0 K 17 lv [.inl s0] σ := by
  unfold fX5_isLabel_17 at h
  obtain ⟨hg, h⟩ := gt_gd h
  have g17_0 := hg
  cases h
  exact hRet _ _ _ _ dX5_isLabel_17 g17_0 rfl rfl
set_option maxHeartbeats 4000000 in
theorem gX5_isLabel_16 {X : ga_X} {D : va_G} {cI cZ : ClassId} {K : Nat} {res : Int} {σ : ga_S} (C : ga_C X cX5_isLabel yX5_isLabel wsX5_isLabel [] (gt_rm 0 0) (D, vwCl, cI, cZ) 1) (hRet : ∀ (pc : Nat) (lv : Nat → Option ga_V) (σ' : ga_S) (z : Int), decode cX5_isLabel pc = .ok (.ireturn, 1) → (z = 0 ∨ z = 1) → z = res → σ' = σ → ga_G X 0 0 K pc lv [.inl z] σ') {lv : Nat → Option ga_V}  (h : fX5_isLabel_16 = some res) : ga_G X 0 0 K 16 lv [] σ := by
  unfold fX5_isLabel_16 at h
  refine ga_iconst C dX5_isLabel_16 ⟨by decide, by decide⟩ ?_
  exact gX5_isLabel_17 C hRet h
set_option maxHeartbeats 4000000 in
theorem gX5_isLabel_0 {X : ga_X} {D : va_G} {cI cZ : ClassId} {K : Nat} {res : Int} {σ : ga_S} (C : ga_C X cX5_isLabel yX5_isLabel wsX5_isLabel [] (gt_rm 0 0) (D, vwCl, cI, cZ) 1) (hRet : ∀ (pc : Nat) (lv : Nat → Option ga_V) (σ' : ga_S) (z : Int), decode cX5_isLabel pc = .ok (.ireturn, 1) → (z = 0 ∨ z = 1) → z = res → σ' = σ → ga_G X 0 0 K pc lv [.inl z] σ') {l0 : Int} {lv : Nat → Option ga_V} (hl0 : lv 0 = some (.inl l0)) (h : fX5_isLabel l0 = some res) : ga_G X 0 0 K 0 lv [] σ := by
  unfold fX5_isLabel at h
  refine ga_iload_n C dX5_isLabel_0 rfl hl0 ?_
  refine ga_iconst C dX5_isLabel_1 ⟨by decide, by decide⟩ ?_
  refine ga_icmp_lt (tgt := 16) C dX5_isLabel_2 (by decide) (fun c1 => ?_) (fun c1 => ?_)
  · have h := gt_ip h c1
    exact gX5_isLabel_16 C hRet h
  · have h := gt_in h c1
    refine ga_iload_n C dX5_isLabel_5 rfl hl0 ?_
    refine ga_sipush C dX5_isLabel_6 ⟨by decide, by decide⟩ (by decide) ?_
    refine ga_icmp_gt (tgt := 16) C dX5_isLabel_9 (by decide) (fun c1 => ?_) (fun c1 => ?_)
    · have h := gt_ip h c1
      exact gX5_isLabel_16 C hRet h
    · have h := gt_in h c1
      refine ga_iconst C dX5_isLabel_12 ⟨by decide, by decide⟩ ?_
      refine ga_goto (tgt := 17) C dX5_isLabel_13 (by decide) ?_
      exact gX5_isLabel_17 C hRet h
set_option maxHeartbeats 4000000 in
theorem eX5_isLabel (l : Launch) (D : va_G) (cI cZ : ClassId) (K : Nat) {σ : ga_S} {l0 : Int} {res : Int} (h : fX5_isLabel l0 = some res) : ga_Ev l (D, vwCl, cI, cZ) yX5_isLabel wsX5_isLabel (gt_rm 0 0) [] 0 0 K [.inl l0] σ (fun σ' rv => (σ' = σ) ∧ rv = some (.inl res)) := by
  refine ga_ofZ (by decide +kernel) rfl gt_hcl (Nat.le_of_ble_eq_true rfl) (fun X hX C hret => ?_)
  exact gX5_isLabel_0 C (fun pc lv σ' z d h01 hz hp => hret pc lv σ' z d h01 ⟨hp, by rw [hz]⟩) rfl h
-- X5_crossing: crossing(IIIII)I
def fX5_crossing_42 (T : gx_Dc) : Option (gx_Dc × Int) :=
  some (((T.1.1, T.1.2.1, T.1.2.2.1, T.1.2.2.2.1, T.1.2.2.2.2.1, T.1.2.2.2.2.2.1, T.1.2.2.2.2.2.2.1, T.1.2.2.2.2.2.2.2), (T.2.1.1, T.2.1.2.1, T.2.1.2.2.1, T.2.1.2.2.2.1, T.2.1.2.2.2.2.1, T.2.1.2.2.2.2.2.1, T.2.1.2.2.2.2.2.2.1, T.2.1.2.2.2.2.2.2.2), T.2.2), (-1 : Int))
def fX5_crossing_78 (T : gx_Dc) (s0 : Int) : Option (gx_Dc × Int) :=
  some (((T.1.1, T.1.2.1, T.1.2.2.1, T.1.2.2.2.1, T.1.2.2.2.2.1, T.1.2.2.2.2.2.1, T.1.2.2.2.2.2.2.1, T.1.2.2.2.2.2.2.2), (T.2.1.1, T.2.1.2.1, T.2.1.2.2.1, T.2.1.2.2.2.1, T.2.1.2.2.2.2.1, T.2.1.2.2.2.2.2.1, T.2.1.2.2.2.2.2.2.1, T.2.1.2.2.2.2.2.2.2), T.2.2), s0)
def fX5_crossing_12 (T : gx_Dc) (l1 l2 l3 l4 l5 : Int) : Option (gx_Dc × Int) :=
  (fX5_isLabel l2).bind (fun (q13 : Int) => (if q13 = 0 then fX5_crossing_42 ((T.1.1, T.1.2.1, T.1.2.2.1, T.1.2.2.2.1, T.1.2.2.2.2.1, T.1.2.2.2.2.2.1, T.1.2.2.2.2.2.2.1, T.1.2.2.2.2.2.2.2), (T.2.1.1, T.2.1.2.1, T.2.1.2.2.1, T.2.1.2.2.2.1, T.2.1.2.2.2.2.1, T.2.1.2.2.2.2.2.1, T.2.1.2.2.2.2.2.2.1, T.2.1.2.2.2.2.2.2.2), T.2.2) else (fX5_isLabel l3).bind (fun (q20 : Int) => (if q20 = 0 then fX5_crossing_42 ((T.1.1, T.1.2.1, T.1.2.2.1, T.1.2.2.2.1, T.1.2.2.2.2.1, T.1.2.2.2.2.2.1, T.1.2.2.2.2.2.2.1, T.1.2.2.2.2.2.2.2), (T.2.1.1, T.2.1.2.1, T.2.1.2.2.1, T.2.1.2.2.2.1, T.2.1.2.2.2.2.1, T.2.1.2.2.2.2.2.1, T.2.1.2.2.2.2.2.2.1, T.2.1.2.2.2.2.2.2.2), T.2.2) else (fX5_isLabel l4).bind (fun (q28 : Int) => (if q28 = 0 then fX5_crossing_42 ((T.1.1, T.1.2.1, T.1.2.2.1, T.1.2.2.2.1, T.1.2.2.2.2.1, T.1.2.2.2.2.2.1, T.1.2.2.2.2.2.2.1, T.1.2.2.2.2.2.2.2), (T.2.1.1, T.2.1.2.1, T.2.1.2.2.1, T.2.1.2.2.2.1, T.2.1.2.2.2.2.1, T.2.1.2.2.2.2.2.1, T.2.1.2.2.2.2.2.2.1, T.2.1.2.2.2.2.2.2.2), T.2.2) else (fX5_isLabel l5).bind (fun (q36 : Int) => (if q36 = 0 then fX5_crossing_42 ((T.1.1, T.1.2.1, T.1.2.2.1, T.1.2.2.2.1, T.1.2.2.2.2.1, T.1.2.2.2.2.2.1, T.1.2.2.2.2.2.2.1, T.1.2.2.2.2.2.2.2), (T.2.1.1, T.2.1.2.1, T.2.1.2.2.1, T.2.1.2.2.2.1, T.2.1.2.2.2.2.1, T.2.1.2.2.2.2.2.1, T.2.1.2.2.2.2.2.2.1, T.2.1.2.2.2.2.2.2.2), T.2.2) else (fX4_append T.1.1 l1 l2 l3 l4 l5).bind (fun (q58 : gt_T × Int) => (if q58.2 = 0 then fX5_crossing_78 ((q58.1, T.1.2.1, T.1.2.2.1, T.1.2.2.2.1, T.1.2.2.2.2.1, T.1.2.2.2.2.2.1, T.1.2.2.2.2.2.2.1, T.1.2.2.2.2.2.2.2), (T.2.1.1, T.2.1.2.1, T.2.1.2.2.1, T.2.1.2.2.2.1, T.2.1.2.2.2.2.1, T.2.1.2.2.2.2.2.1, T.2.1.2.2.2.2.2.2.1, T.2.1.2.2.2.2.2.2.2), T.2.2) (-1 : Int) else (fX4_crossings q58.1).bind (fun (q71 : Int) => fX5_crossing_78 ((q58.1, T.1.2.1, T.1.2.2.1, T.1.2.2.2.1, T.1.2.2.2.2.1, T.1.2.2.2.2.2.1, T.1.2.2.2.2.2.2.1, T.1.2.2.2.2.2.2.2), (T.2.1.1, T.2.1.2.1, T.2.1.2.2.1, T.2.1.2.2.2.1, T.2.1.2.2.2.2.1, T.2.1.2.2.2.2.2.1, T.2.1.2.2.2.2.2.2.1, T.2.1.2.2.2.2.2.2.2), T.2.2) q71)))))))))))
def fX5_crossing (T : gx_Dc) (l1 l2 l3 l4 l5 : Int) : Option (gx_Dc × Int) :=
  (if l1 = (1 : Int) then fX5_crossing_12 ((T.1.1, T.1.2.1, T.1.2.2.1, T.1.2.2.2.1, T.1.2.2.2.2.1, T.1.2.2.2.2.2.1, T.1.2.2.2.2.2.2.1, T.1.2.2.2.2.2.2.2), (T.2.1.1, T.2.1.2.1, T.2.1.2.2.1, T.2.1.2.2.2.1, T.2.1.2.2.2.2.1, T.2.1.2.2.2.2.2.1, T.2.1.2.2.2.2.2.2.1, T.2.1.2.2.2.2.2.2.2), T.2.2) l1 l2 l3 l4 l5 else (if l1 = (-1 : Int) then fX5_crossing_12 ((T.1.1, T.1.2.1, T.1.2.2.1, T.1.2.2.2.1, T.1.2.2.2.2.1, T.1.2.2.2.2.2.1, T.1.2.2.2.2.2.2.1, T.1.2.2.2.2.2.2.2), (T.2.1.1, T.2.1.2.1, T.2.1.2.2.1, T.2.1.2.2.2.1, T.2.1.2.2.2.2.1, T.2.1.2.2.2.2.2.1, T.2.1.2.2.2.2.2.2.1, T.2.1.2.2.2.2.2.2.2), T.2.2) l1 l2 l3 l4 l5 else some (((T.1.1, T.1.2.1, T.1.2.2.1, T.1.2.2.2.1, T.1.2.2.2.2.1, T.1.2.2.2.2.2.1, T.1.2.2.2.2.2.2.1, T.1.2.2.2.2.2.2.2), (T.2.1.1, T.2.1.2.1, T.2.1.2.2.1, T.2.1.2.2.2.1, T.2.1.2.2.2.2.1, T.2.1.2.2.2.2.2.1, T.2.1.2.2.2.2.2.2.1, T.2.1.2.2.2.2.2.2.2), T.2.2), (-1 : Int))))
theorem iX5_crossing_X0 : ∀ w ∈ u_ws RX0 TX0 9, w ∈ wsX5_crossing := by decide +kernel
theorem iX5_crossing_X5 : ∀ w ∈ u_ws RX5 TX5 4, w ∈ wsX5_crossing := by decide +kernel
theorem kX5_crossing_30 : Cond.fieldLink yX5_crossing.cls 30 (TX0 0).1 (TX0 0).2.1 (TX0 0).2.2.1 ∈ wsX5_crossing := by decide +kernel
theorem kX5_crossing_12 : Cond.fieldLink yX5_crossing.cls 12 (TX5 0).1 (TX5 0).2.1 (TX5 0).2.2.1 ∈ wsX5_crossing := by decide +kernel
set_option maxHeartbeats 4000000 in
theorem gX5_crossing_42 {X : ga_X} {D : va_G} {cI cZ : ClassId} {K : Nat} {r : Nat} {σ0 : ga_S} {o1 o2 : Nat} {res : gx_Dc × Int} (C : ga_C X cX5_crossing yX5_crossing wsX5_crossing [] (gt_rm 1 26) (D, vwCl, cI, cZ) 6) (hRet : ∀ (pc : Nat) (lv : Nat → Option ga_V) (σ' : ga_S) (z : Int), decode cX5_crossing pc = .ok (.ireturn, 1) → z = res.2 → (gx_D r o1 o2 res.1 σ' ∧ gt_F r (r + 65) σ0 σ') → ga_G X 0 0 K pc lv [.inl z] σ') (hr0 : r ≠ 0) (ho : (o1 = 1 ∧ o2 = 33) ∨ (o1 = 33 ∧ o2 = 1)) {T : gx_Dc} {σ : ga_S} {lv : Nat → Option ga_V} (hW : gx_D r o1 o2 T σ) (hF : gt_F r (r + 65) σ0 σ) (h : fX5_crossing_42 T = some res) : ga_G X 0 0 K 42 lv [] σ := by
  unfold fX5_crossing_42 at h
  refine ga_iconst C dX5_crossing_42 ⟨by decide, by decide⟩ ?_
  cases h
  exact hRet _ _ _ _ dX5_crossing_43 rfl ⟨hW, hF⟩
set_option maxHeartbeats 4000000 in
theorem gX5_crossing_78 {X : ga_X} {D : va_G} {cI cZ : ClassId} {K : Nat} {r : Nat} {σ0 : ga_S} {o1 o2 : Nat} {res : gx_Dc × Int} (C : ga_C X cX5_crossing yX5_crossing wsX5_crossing [] (gt_rm 1 26) (D, vwCl, cI, cZ) 6) (hRet : ∀ (pc : Nat) (lv : Nat → Option ga_V) (σ' : ga_S) (z : Int), decode cX5_crossing pc = .ok (.ireturn, 1) → z = res.2 → (gx_D r o1 o2 res.1 σ' ∧ gt_F r (r + 65) σ0 σ') → ga_G X 0 0 K pc lv [.inl z] σ') (hr0 : r ≠ 0) (ho : (o1 = 1 ∧ o2 = 33) ∨ (o1 = 33 ∧ o2 = 1)) {T : gx_Dc} {σ : ga_S} {s0 : Int} {lv : Nat → Option ga_V} (hW : gx_D r o1 o2 T σ) (hF : gt_F r (r + 65) σ0 σ) (h : fX5_crossing_78 T s0 = some res) : ga_G X 0 0 K 78 lv [.inl s0] σ := by
  unfold fX5_crossing_78 at h
  cases h
  exact hRet _ _ _ _ dX5_crossing_78 rfl ⟨hW, hF⟩
set_option maxHeartbeats 4000000 in
theorem gX5_crossing_12 {X : ga_X} {D : va_G} {cI cZ : ClassId} {K : Nat} {r : Nat} {σ0 : ga_S} {o1 o2 : Nat} {res : gx_Dc × Int} (C : ga_C X cX5_crossing yX5_crossing wsX5_crossing [] (gt_rm 1 26) (D, vwCl, cI, cZ) 6) (hRet : ∀ (pc : Nat) (lv : Nat → Option ga_V) (σ' : ga_S) (z : Int), decode cX5_crossing pc = .ok (.ireturn, 1) → z = res.2 → (gx_D r o1 o2 res.1 σ' ∧ gt_F r (r + 65) σ0 σ') → ga_G X 0 0 K pc lv [.inl z] σ') (hr0 : r ≠ 0) (ho : (o1 = 1 ∧ o2 = 33) ∨ (o1 = 33 ∧ o2 = 1)) {T : gx_Dc} {σ : ga_S} {l1 l2 l3 l4 l5 : Int} {lv : Nat → Option ga_V} (hW : gx_D r o1 o2 T σ) (hF : gt_F r (r + 65) σ0 σ) (hl0 : lv 0 = some (.inr r)) (hl1 : lv 1 = some (.inl l1)) (hl2 : lv 2 = some (.inl l2)) (hl3 : lv 3 = some (.inl l3)) (hl4 : lv 4 = some (.inl l4)) (hl5 : lv 5 = some (.inl l5)) (h : fX5_crossing_12 T l1 l2 l3 l4 l5 = some res) : ga_G X 0 0 K 12 lv [] σ := by
  unfold fX5_crossing_12 at h
  refine ga_iload_n C dX5_crossing_12 rfl hl2 ?_
  obtain ⟨q13, hq, h⟩ := Option.bind_eq_some_iff.mp h
  refine gt_cSi (n := 1) (st := []) C (eX5_isLabel X.2.1 D cI cZ K hq) gX5_crossing_X5_isLabel rfl (by decide +kernel) rfl ⟨Nat.le_of_ble_eq_true rfl, Nat.le_of_ble_eq_true rfl⟩ (Nat.le_of_ble_eq_true rfl) rfl dX5_crossing_13 (fun σ' hp => ?_)
  subst hp
  refine ga_if_eq (tgt := 42) C dX5_crossing_16 (by decide) (fun c1 => ?_) (fun c1 => ?_)
  · have h := gt_ip h c1
    exact gX5_crossing_42 C hRet hr0 ho hW hF h
  · have h := gt_in h c1
    refine ga_iload_n C dX5_crossing_19 rfl hl3 ?_
    obtain ⟨q20, hq, h⟩ := Option.bind_eq_some_iff.mp h
    refine gt_cSi (n := 1) (st := []) C (eX5_isLabel X.2.1 D cI cZ K hq) gX5_crossing_X5_isLabel rfl (by decide +kernel) rfl ⟨Nat.le_of_ble_eq_true rfl, Nat.le_of_ble_eq_true rfl⟩ (Nat.le_of_ble_eq_true rfl) rfl dX5_crossing_20 (fun σ' hp => ?_)
    subst hp
    refine ga_if_eq (tgt := 42) C dX5_crossing_23 (by decide) (fun c1 => ?_) (fun c1 => ?_)
    · have h := gt_ip h c1
      exact gX5_crossing_42 C hRet hr0 ho hW hF h
    · have h := gt_in h c1
      refine ga_iload C dX5_crossing_26 hl4 ?_
      obtain ⟨q28, hq, h⟩ := Option.bind_eq_some_iff.mp h
      refine gt_cSi (n := 1) (st := []) C (eX5_isLabel X.2.1 D cI cZ K hq) gX5_crossing_X5_isLabel rfl (by decide +kernel) rfl ⟨Nat.le_of_ble_eq_true rfl, Nat.le_of_ble_eq_true rfl⟩ (Nat.le_of_ble_eq_true rfl) rfl dX5_crossing_28 (fun σ' hp => ?_)
      subst hp
      refine ga_if_eq (tgt := 42) C dX5_crossing_31 (by decide) (fun c1 => ?_) (fun c1 => ?_)
      · have h := gt_ip h c1
        exact gX5_crossing_42 C hRet hr0 ho hW hF h
      · have h := gt_in h c1
        refine ga_iload C dX5_crossing_34 hl5 ?_
        obtain ⟨q36, hq, h⟩ := Option.bind_eq_some_iff.mp h
        refine gt_cSi (n := 1) (st := []) C (eX5_isLabel X.2.1 D cI cZ K hq) gX5_crossing_X5_isLabel rfl (by decide +kernel) rfl ⟨Nat.le_of_ble_eq_true rfl, Nat.le_of_ble_eq_true rfl⟩ (Nat.le_of_ble_eq_true rfl) rfl dX5_crossing_36 (fun σ' hp => ?_)
        subst hp
        refine ga_if_ne (tgt := 44) C dX5_crossing_39 (by decide) (fun c1 => ?_) (fun c1 => ?_)
        · have h := gt_in h c1
          refine ga_aload_n C dX5_crossing_44 rfl hl0 hr0 ?_
          refine gt_geta C (iX5_crossing_X5) hW.1 0 rfl rfl (by decide) kX5_crossing_12 dX5_crossing_45 ?_
          refine gt_geta C (iX5_crossing_X0) hW.2.1.2.2.2.2.2.2.2 0 rfl rfl (by decide) kX5_crossing_30 dX5_crossing_48 ?_
          refine ga_iload_n C dX5_crossing_51 rfl hl1 ?_
          refine ga_iload_n C dX5_crossing_52 rfl hl2 ?_
          refine ga_iload_n C dX5_crossing_53 rfl hl3 ?_
          refine ga_iload C dX5_crossing_54 hl4 ?_
          refine ga_iload C dX5_crossing_56 hl5 ?_
          obtain ⟨q58, hq, h⟩ := Option.bind_eq_some_iff.mp h
          refine gt_cVi (n := 5) (st := []) C (eX4_append X.2.1 D cI cZ K (Nat.succ_ne_zero _) hW.2.1.1 hq) gX5_crossing_X4_append rfl (by decide +kernel) rfl ⟨Nat.le_of_ble_eq_true rfl, Nat.le_of_ble_eq_true rfl⟩ hW.2.1.1.1 rfl rfl (Nat.le_of_ble_eq_true rfl) rfl dX5_crossing_58 (fun σ' hp => ?_)
          obtain ⟨hw, hf⟩ := hp
          have hW := gx_DP ho hW (gx_W0 hW.2.1 hw hf) (gt_F.rf.tr hf (by omega) (by omega))
          have hF := hF.tr hf (by omega) (by omega)
          clear hf
          refine ga_if_eq (tgt := 77) C dX5_crossing_61 (by decide) (fun c1 => ?_) (fun c1 => ?_)
          · have h := gt_ip h c1
            refine ga_iconst C dX5_crossing_77 ⟨by decide, by decide⟩ ?_
            exact gX5_crossing_78 C hRet hr0 ho hW hF h
          · have h := gt_in h c1
            refine ga_aload_n C dX5_crossing_64 rfl hl0 hr0 ?_
            refine gt_geta C (iX5_crossing_X5) hW.1 0 rfl rfl (by decide) kX5_crossing_12 dX5_crossing_65 ?_
            refine gt_geta C (iX5_crossing_X0) hW.2.1.2.2.2.2.2.2.2 0 rfl rfl (by decide) kX5_crossing_30 dX5_crossing_68 ?_
            obtain ⟨q71, hq, h⟩ := Option.bind_eq_some_iff.mp h
            refine gt_cVi (n := 0) (st := []) C (eX4_crossings X.2.1 D cI cZ K (Nat.succ_ne_zero _) hW.2.1.1 hq) gX5_crossing_X4_crossings rfl (by decide +kernel) rfl ⟨Nat.le_of_ble_eq_true rfl, Nat.le_of_ble_eq_true rfl⟩ hW.2.1.1.1 rfl rfl (Nat.le_of_ble_eq_true rfl) rfl dX5_crossing_71 (fun σ' hp => ?_)
            subst hp
            refine ga_goto (tgt := 78) C dX5_crossing_74 (by decide) ?_
            exact gX5_crossing_78 C hRet hr0 ho hW hF h
        · have h := gt_ip h c1
          exact gX5_crossing_42 C hRet hr0 ho hW hF h
set_option maxHeartbeats 4000000 in
theorem gX5_crossing_0 {X : ga_X} {D : va_G} {cI cZ : ClassId} {K : Nat} {r : Nat} {σ0 : ga_S} {o1 o2 : Nat} {res : gx_Dc × Int} (C : ga_C X cX5_crossing yX5_crossing wsX5_crossing [] (gt_rm 1 26) (D, vwCl, cI, cZ) 6) (hRet : ∀ (pc : Nat) (lv : Nat → Option ga_V) (σ' : ga_S) (z : Int), decode cX5_crossing pc = .ok (.ireturn, 1) → z = res.2 → (gx_D r o1 o2 res.1 σ' ∧ gt_F r (r + 65) σ0 σ') → ga_G X 0 0 K pc lv [.inl z] σ') (hr0 : r ≠ 0) (ho : (o1 = 1 ∧ o2 = 33) ∨ (o1 = 33 ∧ o2 = 1)) {T : gx_Dc} {σ : ga_S} {l1 l2 l3 l4 l5 : Int} {lv : Nat → Option ga_V} (hW : gx_D r o1 o2 T σ) (hF : gt_F r (r + 65) σ0 σ) (hl0 : lv 0 = some (.inr r)) (hl1 : lv 1 = some (.inl l1)) (hl2 : lv 2 = some (.inl l2)) (hl3 : lv 3 = some (.inl l3)) (hl4 : lv 4 = some (.inl l4)) (hl5 : lv 5 = some (.inl l5)) (h : fX5_crossing T l1 l2 l3 l4 l5 = some res) : ga_G X 0 0 K 0 lv [] σ := by
  unfold fX5_crossing at h
  refine ga_iload_n C dX5_crossing_0 rfl hl1 ?_
  refine ga_iconst C dX5_crossing_1 ⟨by decide, by decide⟩ ?_
  refine ga_icmp_eq (tgt := 12) C dX5_crossing_2 (by decide) (fun c1 => ?_) (fun c1 => ?_)
  · have h := gt_ip h c1
    exact gX5_crossing_12 C hRet hr0 ho hW hF hl0 hl1 hl2 hl3 hl4 hl5 h
  · have h := gt_in h c1
    refine ga_iload_n C dX5_crossing_5 rfl hl1 ?_
    refine ga_iconst C dX5_crossing_6 ⟨by decide, by decide⟩ ?_
    refine ga_icmp_eq (tgt := 12) C dX5_crossing_7 (by decide) (fun c1 => ?_) (fun c1 => ?_)
    · have h := gt_ip h c1
      exact gX5_crossing_12 C hRet hr0 ho hW hF hl0 hl1 hl2 hl3 hl4 hl5 h
    · have h := gt_in h c1
      refine ga_iconst C dX5_crossing_10 ⟨by decide, by decide⟩ ?_
      cases h
      exact hRet _ _ _ _ dX5_crossing_11 rfl ⟨hW, hF⟩
set_option maxHeartbeats 4000000 in
theorem eX5_crossing (l : Launch) (D : va_G) (cI cZ : ClassId) (K : Nat) {r : Nat} (hr0 : r ≠ 0) {o1 o2 : Nat} (ho : (o1 = 1 ∧ o2 = 33) ∨ (o1 = 33 ∧ o2 = 1)) {σ : ga_S} {T : gx_Dc} (hW : gx_D r o1 o2 T σ) {l1 l2 l3 l4 l5 : Int} {res : gx_Dc × Int} (h : fX5_crossing T l1 l2 l3 l4 l5 = some res) : ga_Ev l (D, vwCl, cI, cZ) yX5_crossing wsX5_crossing (gt_rm 1 26) [] 0 0 K [.inr r, .inl l1, .inl l2, .inl l3, .inl l4, .inl l5] σ (fun σ' rv => (gx_D r o1 o2 res.1 σ' ∧ gt_F r (r + 65) σ σ') ∧ rv = some (.inl res.2)) := by
  refine ga_ofI (by decide +kernel) rfl gt_hcl (Nat.le_of_ble_eq_true rfl) (fun X hX C hret => ?_)
  exact gX5_crossing_0 C (fun pc lv σ' z d hz hp => hret pc lv σ' z d ⟨hp, by rw [hz]⟩) hr0 ho hW gt_F.rf rfl rfl rfl rfl rfl rfl h
-- X5_which: which()I
def fX5_which (T : gx_Dc) : Option (Int) :=
  some (T.2.2.1 3)
theorem iX5_which_X5 : ∀ w ∈ u_ws RX5 TX5 4, w ∈ wsX5_which := by decide +kernel
theorem kX5_which_23 : Cond.fieldLink yX5_which.cls 23 (TX5 3).1 (TX5 3).2.1 (TX5 3).2.2.1 ∈ wsX5_which := by decide +kernel
set_option maxHeartbeats 4000000 in
theorem gX5_which_0 {X : ga_X} {D : va_G} {cI cZ : ClassId} {K : Nat} {r : Nat} {o1 o2 : Nat} {res : Int} {T : gx_Dc} {σ : ga_S} (C : ga_C X cX5_which yX5_which wsX5_which [] (gt_rm 0 0) (D, vwCl, cI, cZ) 1) (hRet : ∀ (pc : Nat) (lv : Nat → Option ga_V) (σ' : ga_S) (z : Int), decode cX5_which pc = .ok (.ireturn, 1) → z = res → (σ' = σ) → ga_G X 0 0 K pc lv [.inl z] σ') (hr0 : r ≠ 0) (ho : (o1 = 1 ∧ o2 = 33) ∨ (o1 = 33 ∧ o2 = 1)) {lv : Nat → Option ga_V} (hW : gx_D r o1 o2 T σ) (hl0 : lv 0 = some (.inr r)) (h : fX5_which T = some res) : ga_G X 0 0 K 0 lv [] σ := by
  unfold fX5_which at h
  refine ga_aload_n C dX5_which_0 rfl hl0 hr0 ?_
  refine gt_geti C (iX5_which_X5) hW.1 3 rfl rfl (by decide) kX5_which_23 dX5_which_1 ?_
  cases h
  exact hRet _ _ _ _ dX5_which_4 rfl rfl
set_option maxHeartbeats 4000000 in
theorem eX5_which (l : Launch) (D : va_G) (cI cZ : ClassId) (K : Nat) {r : Nat} (hr0 : r ≠ 0) {o1 o2 : Nat} (ho : (o1 = 1 ∧ o2 = 33) ∨ (o1 = 33 ∧ o2 = 1)) {σ : ga_S} {T : gx_Dc} (hW : gx_D r o1 o2 T σ) {res : Int} (h : fX5_which T = some res) : ga_Ev l (D, vwCl, cI, cZ) yX5_which wsX5_which (gt_rm 0 0) [] 0 0 K [.inr r] σ (fun σ' rv => (σ' = σ) ∧ rv = some (.inl res)) := by
  refine ga_ofI (by decide +kernel) rfl gt_hcl (Nat.le_of_ble_eq_true rfl) (fun X hX C hret => ?_)
  exact gX5_which_0 C (fun pc lv σ' z d hz hp => hret pc lv σ' z d ⟨hp, by rw [hz]⟩) hr0 ho hW rfl h
-- X5_many: many(I)I
def fX5_many_191 (T : gx_Dc) (s0 : Int) : Option (Int) :=
  some s0
def fX5_many (T : gx_Dc) (l1 : Int) : Option (Int) :=
  (if l1 = 0 then (fX4_crossings T.2.1.1).bind (fun (q67 : Int) => some q67) else (if l1 = 1 then (fX1_count T.2.1.2.1).bind (fun (q78 : Int) => some q78) else (if l1 = 2 then (fX3_count T.2.1.2.2.2.2.1).bind (fun (q89 : Int) => (if (-2147483648 ≤ q89 + (T.2.2.1 2) ∧ q89 + (T.2.2.1 2) < 2147483648) then some (q89 + (T.2.2.1 2)) else none)) else (if l1 = 3 then (fX2_count T.2.1.2.2.1).bind (fun (q105 : Int) => (if (-2147483648 ≤ q105 + (T.2.2.1 2) ∧ q105 + (T.2.2.1 2) < 2147483648) then some (q105 + (T.2.2.1 2)) else none)) else (if l1 = 4 then some (T.2.2.1 2) else (if l1 = 5 then (fX4_sumOfSigns T.2.1.1).bind (fun (q126 : Int) => some q126) else (if l1 = 6 then (fX3_count T.2.1.2.2.2.2.2.2.1).bind (fun (q137 : Int) => some q137) else (if l1 = 7 then (fX2_count T.2.1.2.2.2.1).bind (fun (q148 : Int) => (if (-2147483648 ≤ q148 + (T.2.2.1 2) ∧ q148 + (T.2.2.1 2) < 2147483648) then some (q148 + (T.2.2.1 2)) else none)) else (if l1 = 8 then (fX3_count T.2.1.2.2.2.2.2.1).bind (fun (q164 : Int) => (if (-2147483648 ≤ q164 + (T.2.2.1 2) ∧ q164 + (T.2.2.1 2) < 2147483648) then some (q164 + (T.2.2.1 2)) else none)) else (if l1 = 9 then (fX1_alternate T.2.1.2.1).bind (fun (q180 : Int) => (if q180 = 0 then fX5_many_191 T (0 : Int) else fX5_many_191 T (1 : Int))) else (if l1 = 10 then (fX4_crossings T.1.1).bind (fun (q199 : Int) => some q199) else some (-1000 : Int))))))))))))
theorem iX5_many_X0 : ∀ w ∈ u_ws RX0 TX0 9, w ∈ wsX5_many := by decide +kernel
theorem iX5_many_X5 : ∀ w ∈ u_ws RX5 TX5 4, w ∈ wsX5_many := by decide +kernel
theorem kX5_many_30 : Cond.fieldLink yX5_many.cls 30 (TX0 0).1 (TX0 0).2.1 (TX0 0).2.2.1 ∈ wsX5_many := by decide +kernel
theorem kX5_many_52 : Cond.fieldLink yX5_many.cls 52 (TX0 1).1 (TX0 1).2.1 (TX0 1).2.2.1 ∈ wsX5_many := by decide +kernel
theorem kX5_many_61 : Cond.fieldLink yX5_many.cls 61 (TX0 4).1 (TX0 4).2.1 (TX0 4).2.2.1 ∈ wsX5_many := by decide +kernel
theorem kX5_many_68 : Cond.fieldLink yX5_many.cls 68 (TX0 2).1 (TX0 2).2.1 (TX0 2).2.2.1 ∈ wsX5_many := by decide +kernel
theorem kX5_many_78 : Cond.fieldLink yX5_many.cls 78 (TX0 6).1 (TX0 6).2.1 (TX0 6).2.2.1 ∈ wsX5_many := by decide +kernel
theorem kX5_many_81 : Cond.fieldLink yX5_many.cls 81 (TX0 3).1 (TX0 3).2.1 (TX0 3).2.2.1 ∈ wsX5_many := by decide +kernel
theorem kX5_many_84 : Cond.fieldLink yX5_many.cls 84 (TX0 5).1 (TX0 5).2.1 (TX0 5).2.2.1 ∈ wsX5_many := by decide +kernel
theorem kX5_many_12 : Cond.fieldLink yX5_many.cls 12 (TX5 0).1 (TX5 0).2.1 (TX5 0).2.2.1 ∈ wsX5_many := by decide +kernel
theorem kX5_many_16 : Cond.fieldLink yX5_many.cls 16 (TX5 1).1 (TX5 1).2.1 (TX5 1).2.2.1 ∈ wsX5_many := by decide +kernel
theorem kX5_many_19 : Cond.fieldLink yX5_many.cls 19 (TX5 2).1 (TX5 2).2.1 (TX5 2).2.2.1 ∈ wsX5_many := by decide +kernel
set_option maxHeartbeats 4000000 in
theorem gX5_many_191 {X : ga_X} {D : va_G} {cI cZ : ClassId} {K : Nat} {r : Nat} {o1 o2 : Nat} {res : Int} {T : gx_Dc} {σ : ga_S} (C : ga_C X cX5_many yX5_many wsX5_many [] (gt_rm 2 41) (D, vwCl, cI, cZ) 2) (hRet : ∀ (pc : Nat) (lv : Nat → Option ga_V) (σ' : ga_S) (z : Int), decode cX5_many pc = .ok (.ireturn, 1) → z = res → (σ' = σ) → ga_G X 0 0 K pc lv [.inl z] σ') (hr0 : r ≠ 0) (ho : (o1 = 1 ∧ o2 = 33) ∨ (o1 = 33 ∧ o2 = 1)) {s0 : Int} {lv : Nat → Option ga_V} (hW : gx_D r o1 o2 T σ) (h : fX5_many_191 T s0 = some res) : ga_G X 0 0 K 191 lv [.inl s0] σ := by
  unfold fX5_many_191 at h
  cases h
  exact hRet _ _ _ _ dX5_many_191 rfl rfl
set_option maxHeartbeats 4000000 in
theorem gX5_many_0 {X : ga_X} {D : va_G} {cI cZ : ClassId} {K : Nat} {r : Nat} {o1 o2 : Nat} {res : Int} {T : gx_Dc} {σ : ga_S} (C : ga_C X cX5_many yX5_many wsX5_many [] (gt_rm 2 41) (D, vwCl, cI, cZ) 2) (hRet : ∀ (pc : Nat) (lv : Nat → Option ga_V) (σ' : ga_S) (z : Int), decode cX5_many pc = .ok (.ireturn, 1) → z = res → (σ' = σ) → ga_G X 0 0 K pc lv [.inl z] σ') (hr0 : r ≠ 0) (ho : (o1 = 1 ∧ o2 = 33) ∨ (o1 = 33 ∧ o2 = 1)) {l1 : Int} {lv : Nat → Option ga_V} (hW : gx_D r o1 o2 T σ) (hl0 : lv 0 = some (.inr r)) (hl1 : lv 1 = some (.inl l1)) (h : fX5_many T l1 = some res) : ga_G X 0 0 K 0 lv [] σ := by
  unfold fX5_many at h
  refine ga_iload_n C dX5_many_0 rfl hl1 ?_
  by_cases c1 : l1 = 0
  · have h := gt_ip h c1
    refine ga_tabIn (tgt := 60) C dX5_many_1 (by rw [c1]; decide) (by rw [c1]; decide) (by rw [c1]; rfl) (by decide) ?_
    refine ga_aload_n C dX5_many_60 rfl hl0 hr0 ?_
    refine gt_geta C (iX5_many_X5) hW.1 1 rfl rfl (by decide) kX5_many_16 dX5_many_61 ?_
    refine gt_geta C (iX5_many_X0) hW.2.2.2.2.2.2.2.2.2 0 rfl rfl (by decide) kX5_many_30 dX5_many_64 ?_
    obtain ⟨q67, hq, h⟩ := Option.bind_eq_some_iff.mp h
    refine gt_cVi (n := 0) (st := []) C (eX4_crossings X.2.1 D cI cZ K (Nat.succ_ne_zero _) hW.2.2.1 hq) gX5_many_X4_crossings rfl (by decide +kernel) rfl ⟨Nat.le_of_ble_eq_true rfl, Nat.le_of_ble_eq_true rfl⟩ hW.2.2.1.1 rfl rfl (Nat.le_of_ble_eq_true rfl) rfl dX5_many_67 (fun σ' hp => ?_)
    subst hp
    cases h
    exact hRet _ _ _ _ dX5_many_70 rfl rfl
  · have h := gt_in h c1
    have c100 := c1
    by_cases c1 : l1 = 1
    · have h := gt_ip h c1
      refine ga_tabIn (tgt := 71) C dX5_many_1 (by rw [c1]; decide) (by rw [c1]; decide) (by rw [c1]; rfl) (by decide) ?_
      refine ga_aload_n C dX5_many_71 rfl hl0 hr0 ?_
      refine gt_geta C (iX5_many_X5) hW.1 1 rfl rfl (by decide) kX5_many_16 dX5_many_72 ?_
      refine gt_geta C (iX5_many_X0) hW.2.2.2.2.2.2.2.2.2 1 rfl rfl (by decide) kX5_many_52 dX5_many_75 ?_
      obtain ⟨q78, hq, h⟩ := Option.bind_eq_some_iff.mp h
      refine gt_cVi (n := 0) (st := []) C (eX1_count X.2.1 D cI cZ K (Nat.succ_ne_zero _) hW.2.2.2.1 hq) gX5_many_X1_count rfl (by decide +kernel) rfl ⟨Nat.le_of_ble_eq_true rfl, Nat.le_of_ble_eq_true rfl⟩ hW.2.2.2.1.1 rfl rfl (Nat.le_of_ble_eq_true rfl) rfl dX5_many_78 (fun σ' hp => ?_)
      subst hp
      cases h
      exact hRet _ _ _ _ dX5_many_81 rfl rfl
    · have h := gt_in h c1
      have c101 := c1
      by_cases c1 : l1 = 2
      · have h := gt_ip h c1
        refine ga_tabIn (tgt := 82) C dX5_many_1 (by rw [c1]; decide) (by rw [c1]; decide) (by rw [c1]; rfl) (by decide) ?_
        refine ga_aload_n C dX5_many_82 rfl hl0 hr0 ?_
        refine gt_geta C (iX5_many_X5) hW.1 1 rfl rfl (by decide) kX5_many_16 dX5_many_83 ?_
        refine gt_geta C (iX5_many_X0) hW.2.2.2.2.2.2.2.2.2 4 rfl rfl (by decide) kX5_many_61 dX5_many_86 ?_
        obtain ⟨q89, hq, h⟩ := Option.bind_eq_some_iff.mp h
        refine gt_cVi (n := 0) (st := []) C (eX3_count X.2.1 D cI cZ K (Nat.succ_ne_zero _) hW.2.2.2.2.2.2.1 hq) gX5_many_X3_count rfl (by decide +kernel) rfl ⟨Nat.le_of_ble_eq_true rfl, Nat.le_of_ble_eq_true rfl⟩ hW.2.2.2.2.2.2.1.1 rfl rfl (Nat.le_of_ble_eq_true rfl) rfl dX5_many_89 (fun σ' hp => ?_)
        subst hp
        obtain ⟨hg, h⟩ := gt_gd h
        have g96_0 := hg
        refine ga_aload_n C dX5_many_92 rfl hl0 hr0 ?_
        refine gt_geti C (iX5_many_X5) hW.1 2 rfl rfl (by decide) kX5_many_19 dX5_many_93 ?_
        refine ga_iadd C dX5_many_96 g96_0 ?_
        cases h
        exact hRet _ _ _ _ dX5_many_97 rfl rfl
      · have h := gt_in h c1
        have c102 := c1
        by_cases c1 : l1 = 3
        · have h := gt_ip h c1
          refine ga_tabIn (tgt := 98) C dX5_many_1 (by rw [c1]; decide) (by rw [c1]; decide) (by rw [c1]; rfl) (by decide) ?_
          refine ga_aload_n C dX5_many_98 rfl hl0 hr0 ?_
          refine gt_geta C (iX5_many_X5) hW.1 1 rfl rfl (by decide) kX5_many_16 dX5_many_99 ?_
          refine gt_geta C (iX5_many_X0) hW.2.2.2.2.2.2.2.2.2 2 rfl rfl (by decide) kX5_many_68 dX5_many_102 ?_
          obtain ⟨q105, hq, h⟩ := Option.bind_eq_some_iff.mp h
          refine gt_cVi (n := 0) (st := []) C (eX2_count X.2.1 D cI cZ K (Nat.succ_ne_zero _) hW.2.2.2.2.1 hq) gX5_many_X2_count rfl (by decide +kernel) rfl ⟨Nat.le_of_ble_eq_true rfl, Nat.le_of_ble_eq_true rfl⟩ hW.2.2.2.2.1.1 rfl rfl (Nat.le_of_ble_eq_true rfl) rfl dX5_many_105 (fun σ' hp => ?_)
          subst hp
          obtain ⟨hg, h⟩ := gt_gd h
          have g112_0 := hg
          refine ga_aload_n C dX5_many_108 rfl hl0 hr0 ?_
          refine gt_geti C (iX5_many_X5) hW.1 2 rfl rfl (by decide) kX5_many_19 dX5_many_109 ?_
          refine ga_iadd C dX5_many_112 g112_0 ?_
          cases h
          exact hRet _ _ _ _ dX5_many_113 rfl rfl
        · have h := gt_in h c1
          have c103 := c1
          by_cases c1 : l1 = 4
          · have h := gt_ip h c1
            refine ga_tabIn (tgt := 114) C dX5_many_1 (by rw [c1]; decide) (by rw [c1]; decide) (by rw [c1]; rfl) (by decide) ?_
            refine ga_aload_n C dX5_many_114 rfl hl0 hr0 ?_
            refine gt_geti C (iX5_many_X5) hW.1 2 rfl rfl (by decide) kX5_many_19 dX5_many_115 ?_
            cases h
            exact hRet _ _ _ _ dX5_many_118 rfl rfl
          · have h := gt_in h c1
            have c104 := c1
            by_cases c1 : l1 = 5
            · have h := gt_ip h c1
              refine ga_tabIn (tgt := 119) C dX5_many_1 (by rw [c1]; decide) (by rw [c1]; decide) (by rw [c1]; rfl) (by decide) ?_
              refine ga_aload_n C dX5_many_119 rfl hl0 hr0 ?_
              refine gt_geta C (iX5_many_X5) hW.1 1 rfl rfl (by decide) kX5_many_16 dX5_many_120 ?_
              refine gt_geta C (iX5_many_X0) hW.2.2.2.2.2.2.2.2.2 0 rfl rfl (by decide) kX5_many_30 dX5_many_123 ?_
              obtain ⟨q126, hq, h⟩ := Option.bind_eq_some_iff.mp h
              refine gt_cVi (n := 0) (st := []) C (eX4_sumOfSigns X.2.1 D cI cZ K (Nat.succ_ne_zero _) hW.2.2.1 hq) gX5_many_X4_sumOfSigns rfl (by decide +kernel) rfl ⟨Nat.le_of_ble_eq_true rfl, Nat.le_of_ble_eq_true rfl⟩ hW.2.2.1.1 rfl rfl (Nat.le_of_ble_eq_true rfl) rfl dX5_many_126 (fun σ' hp => ?_)
              subst hp
              cases h
              exact hRet _ _ _ _ dX5_many_129 rfl rfl
            · have h := gt_in h c1
              have c105 := c1
              by_cases c1 : l1 = 6
              · have h := gt_ip h c1
                refine ga_tabIn (tgt := 130) C dX5_many_1 (by rw [c1]; decide) (by rw [c1]; decide) (by rw [c1]; rfl) (by decide) ?_
                refine ga_aload_n C dX5_many_130 rfl hl0 hr0 ?_
                refine gt_geta C (iX5_many_X5) hW.1 1 rfl rfl (by decide) kX5_many_16 dX5_many_131 ?_
                refine gt_geta C (iX5_many_X0) hW.2.2.2.2.2.2.2.2.2 6 rfl rfl (by decide) kX5_many_78 dX5_many_134 ?_
                obtain ⟨q137, hq, h⟩ := Option.bind_eq_some_iff.mp h
                refine gt_cVi (n := 0) (st := []) C (eX3_count X.2.1 D cI cZ K (Nat.succ_ne_zero _) hW.2.2.2.2.2.2.2.2.1 hq) gX5_many_X3_count rfl (by decide +kernel) rfl ⟨Nat.le_of_ble_eq_true rfl, Nat.le_of_ble_eq_true rfl⟩ hW.2.2.2.2.2.2.2.2.1.1 rfl rfl (Nat.le_of_ble_eq_true rfl) rfl dX5_many_137 (fun σ' hp => ?_)
                subst hp
                cases h
                exact hRet _ _ _ _ dX5_many_140 rfl rfl
              · have h := gt_in h c1
                have c106 := c1
                by_cases c1 : l1 = 7
                · have h := gt_ip h c1
                  refine ga_tabIn (tgt := 141) C dX5_many_1 (by rw [c1]; decide) (by rw [c1]; decide) (by rw [c1]; rfl) (by decide) ?_
                  refine ga_aload_n C dX5_many_141 rfl hl0 hr0 ?_
                  refine gt_geta C (iX5_many_X5) hW.1 1 rfl rfl (by decide) kX5_many_16 dX5_many_142 ?_
                  refine gt_geta C (iX5_many_X0) hW.2.2.2.2.2.2.2.2.2 3 rfl rfl (by decide) kX5_many_81 dX5_many_145 ?_
                  obtain ⟨q148, hq, h⟩ := Option.bind_eq_some_iff.mp h
                  refine gt_cVi (n := 0) (st := []) C (eX2_count X.2.1 D cI cZ K (Nat.succ_ne_zero _) hW.2.2.2.2.2.1 hq) gX5_many_X2_count rfl (by decide +kernel) rfl ⟨Nat.le_of_ble_eq_true rfl, Nat.le_of_ble_eq_true rfl⟩ hW.2.2.2.2.2.1.1 rfl rfl (Nat.le_of_ble_eq_true rfl) rfl dX5_many_148 (fun σ' hp => ?_)
                  subst hp
                  obtain ⟨hg, h⟩ := gt_gd h
                  have g155_0 := hg
                  refine ga_aload_n C dX5_many_151 rfl hl0 hr0 ?_
                  refine gt_geti C (iX5_many_X5) hW.1 2 rfl rfl (by decide) kX5_many_19 dX5_many_152 ?_
                  refine ga_iadd C dX5_many_155 g155_0 ?_
                  cases h
                  exact hRet _ _ _ _ dX5_many_156 rfl rfl
                · have h := gt_in h c1
                  have c107 := c1
                  by_cases c1 : l1 = 8
                  · have h := gt_ip h c1
                    refine ga_tabIn (tgt := 157) C dX5_many_1 (by rw [c1]; decide) (by rw [c1]; decide) (by rw [c1]; rfl) (by decide) ?_
                    refine ga_aload_n C dX5_many_157 rfl hl0 hr0 ?_
                    refine gt_geta C (iX5_many_X5) hW.1 1 rfl rfl (by decide) kX5_many_16 dX5_many_158 ?_
                    refine gt_geta C (iX5_many_X0) hW.2.2.2.2.2.2.2.2.2 5 rfl rfl (by decide) kX5_many_84 dX5_many_161 ?_
                    obtain ⟨q164, hq, h⟩ := Option.bind_eq_some_iff.mp h
                    refine gt_cVi (n := 0) (st := []) C (eX3_count X.2.1 D cI cZ K (Nat.succ_ne_zero _) hW.2.2.2.2.2.2.2.1 hq) gX5_many_X3_count rfl (by decide +kernel) rfl ⟨Nat.le_of_ble_eq_true rfl, Nat.le_of_ble_eq_true rfl⟩ hW.2.2.2.2.2.2.2.1.1 rfl rfl (Nat.le_of_ble_eq_true rfl) rfl dX5_many_164 (fun σ' hp => ?_)
                    subst hp
                    obtain ⟨hg, h⟩ := gt_gd h
                    have g171_0 := hg
                    refine ga_aload_n C dX5_many_167 rfl hl0 hr0 ?_
                    refine gt_geti C (iX5_many_X5) hW.1 2 rfl rfl (by decide) kX5_many_19 dX5_many_168 ?_
                    refine ga_iadd C dX5_many_171 g171_0 ?_
                    cases h
                    exact hRet _ _ _ _ dX5_many_172 rfl rfl
                  · have h := gt_in h c1
                    have c108 := c1
                    by_cases c1 : l1 = 9
                    · have h := gt_ip h c1
                      refine ga_tabIn (tgt := 173) C dX5_many_1 (by rw [c1]; decide) (by rw [c1]; decide) (by rw [c1]; rfl) (by decide) ?_
                      refine ga_aload_n C dX5_many_173 rfl hl0 hr0 ?_
                      refine gt_geta C (iX5_many_X5) hW.1 1 rfl rfl (by decide) kX5_many_16 dX5_many_174 ?_
                      refine gt_geta C (iX5_many_X0) hW.2.2.2.2.2.2.2.2.2 1 rfl rfl (by decide) kX5_many_52 dX5_many_177 ?_
                      obtain ⟨q180, hq, h⟩ := Option.bind_eq_some_iff.mp h
                      refine gt_cVi (n := 0) (st := []) C (eX1_alternate X.2.1 D cI cZ K (Nat.succ_ne_zero _) hW.2.2.2.1 hq) gX5_many_X1_alternate rfl (by decide +kernel) rfl ⟨Nat.le_of_ble_eq_true rfl, Nat.le_of_ble_eq_true rfl⟩ hW.2.2.2.1.1 rfl rfl (Nat.le_of_ble_eq_true rfl) rfl dX5_many_180 (fun σ' hp => ?_)
                      subst hp
                      refine ga_if_eq (tgt := 190) C dX5_many_183 (by decide) (fun c1 => ?_) (fun c1 => ?_)
                      · have h := gt_ip h c1
                        refine ga_iconst C dX5_many_190 ⟨by decide, by decide⟩ ?_
                        exact gX5_many_191 C hRet hr0 ho hW h
                      · have h := gt_in h c1
                        refine ga_iconst C dX5_many_186 ⟨by decide, by decide⟩ ?_
                        refine ga_goto (tgt := 191) C dX5_many_187 (by decide) ?_
                        exact gX5_many_191 C hRet hr0 ho hW h
                    · have h := gt_in h c1
                      have c109 := c1
                      by_cases c1 : l1 = 10
                      · have h := gt_ip h c1
                        refine ga_tabIn (tgt := 192) C dX5_many_1 (by rw [c1]; decide) (by rw [c1]; decide) (by rw [c1]; rfl) (by decide) ?_
                        refine ga_aload_n C dX5_many_192 rfl hl0 hr0 ?_
                        refine gt_geta C (iX5_many_X5) hW.1 0 rfl rfl (by decide) kX5_many_12 dX5_many_193 ?_
                        refine gt_geta C (iX5_many_X0) hW.2.1.2.2.2.2.2.2.2 0 rfl rfl (by decide) kX5_many_30 dX5_many_196 ?_
                        obtain ⟨q199, hq, h⟩ := Option.bind_eq_some_iff.mp h
                        refine gt_cVi (n := 0) (st := []) C (eX4_crossings X.2.1 D cI cZ K (Nat.succ_ne_zero _) hW.2.1.1 hq) gX5_many_X4_crossings rfl (by decide +kernel) rfl ⟨Nat.le_of_ble_eq_true rfl, Nat.le_of_ble_eq_true rfl⟩ hW.2.1.1.1 rfl rfl (Nat.le_of_ble_eq_true rfl) rfl dX5_many_199 (fun σ' hp => ?_)
                        subst hp
                        cases h
                        exact hRet _ _ _ _ dX5_many_202 rfl rfl
                      · have h := gt_in h c1
                        have c110 := c1
                        refine ga_tabOut (tgt := 203) C dX5_many_1 (by omega) (by decide) ?_
                        refine ga_sipush C dX5_many_203 ⟨by decide, by decide⟩ (by decide) ?_
                        cases h
                        exact hRet _ _ _ _ dX5_many_206 rfl rfl
set_option maxHeartbeats 4000000 in
theorem eX5_many (l : Launch) (D : va_G) (cI cZ : ClassId) (K : Nat) {r : Nat} (hr0 : r ≠ 0) {o1 o2 : Nat} (ho : (o1 = 1 ∧ o2 = 33) ∨ (o1 = 33 ∧ o2 = 1)) {σ : ga_S} {T : gx_Dc} (hW : gx_D r o1 o2 T σ) {l1 : Int} {res : Int} (h : fX5_many T l1 = some res) : ga_Ev l (D, vwCl, cI, cZ) yX5_many wsX5_many (gt_rm 2 41) [] 0 0 K [.inr r, .inl l1] σ (fun σ' rv => (σ' = σ) ∧ rv = some (.inl res)) := by
  refine ga_ofI (by decide +kernel) rfl gt_hcl (Nat.le_of_ble_eq_true rfl) (fun X hX C hret => ?_)
  exact gX5_many_0 C (fun pc lv σ' z d hz hp => hret pc lv σ' z d ⟨hp, by rw [hz]⟩) hr0 ho hW rfl rfl h
-- X5_look: look(II)I
def fX5_look_64 (T : gx_Dc) (l1 l2 : Int) : Option (Int) :=
  (if (-2147483648 ≤ (4 : Int) * l1 ∧ (4 : Int) * l1 < 2147483648) ∧ (-2147483648 ≤ ((4 : Int) * l1) + l2 ∧ ((4 : Int) * l1) + l2 < 2147483648) then (fX4_label T.2.1.1 (((4 : Int) * l1) + l2)).bind (fun (q76 : Int) => some q76) else none)
def fX5_look (T : gx_Dc) (l1 l2 : Int) : Option (Int) :=
  (fX4_has T.2.1.1 l1).bind (fun (q8 : Int) => (if q8 = 0 then some (-1000 : Int) else (if l2 = 0 then fX5_look_64 T l1 l2 else (if l2 = 1 then fX5_look_64 T l1 l2 else (if l2 = 2 then fX5_look_64 T l1 l2 else (if l2 = 3 then fX5_look_64 T l1 l2 else (if l2 = 4 then (fX4_sign T.2.1.1 l1).bind (fun (q88 : Int) => some q88) else (if l2 = 5 then (fX2_numberOf T.2.1.2.2.1 l1).bind (fun (q100 : Int) => some q100) else (if l2 = 6 then (fX0_lowerComponent (T.2.1.1, T.2.1.2.1, T.2.1.2.2.1, T.2.1.2.2.2.1, T.2.1.2.2.2.2.1, T.2.1.2.2.2.2.2.1, T.2.1.2.2.2.2.2.2.1, T.2.1.2.2.2.2.2.2.2) l1).bind (fun (q109 : Int) => some q109) else (if l2 = 7 then (fX0_upperComponent (T.2.1.1, T.2.1.2.1, T.2.1.2.2.1, T.2.1.2.2.2.1, T.2.1.2.2.2.2.1, T.2.1.2.2.2.2.2.1, T.2.1.2.2.2.2.2.2.1, T.2.1.2.2.2.2.2.2.2) l1).bind (fun (q118 : Int) => some q118) else some (-1000 : Int)))))))))))
theorem iX5_look_X0 : ∀ w ∈ u_ws RX0 TX0 9, w ∈ wsX5_look := by decide +kernel
theorem iX5_look_X5 : ∀ w ∈ u_ws RX5 TX5 4, w ∈ wsX5_look := by decide +kernel
theorem kX5_look_30 : Cond.fieldLink yX5_look.cls 30 (TX0 0).1 (TX0 0).2.1 (TX0 0).2.2.1 ∈ wsX5_look := by decide +kernel
theorem kX5_look_68 : Cond.fieldLink yX5_look.cls 68 (TX0 2).1 (TX0 2).2.1 (TX0 2).2.2.1 ∈ wsX5_look := by decide +kernel
theorem kX5_look_16 : Cond.fieldLink yX5_look.cls 16 (TX5 1).1 (TX5 1).2.1 (TX5 1).2.2.1 ∈ wsX5_look := by decide +kernel
set_option maxHeartbeats 4000000 in
theorem gX5_look_64 {X : ga_X} {D : va_G} {cI cZ : ClassId} {K : Nat} {r : Nat} {o1 o2 : Nat} {res : Int} {T : gx_Dc} {σ : ga_S} (C : ga_C X cX5_look yX5_look wsX5_look [] (gt_rm 4 84) (D, vwCl, cI, cZ) 3) (hRet : ∀ (pc : Nat) (lv : Nat → Option ga_V) (σ' : ga_S) (z : Int), decode cX5_look pc = .ok (.ireturn, 1) → z = res → (σ' = σ) → ga_G X 0 0 K pc lv [.inl z] σ') (hr0 : r ≠ 0) (ho : (o1 = 1 ∧ o2 = 33) ∨ (o1 = 33 ∧ o2 = 1)) {l1 l2 : Int} {lv : Nat → Option ga_V} (hW : gx_D r o1 o2 T σ) (hl0 : lv 0 = some (.inr r)) (hl1 : lv 1 = some (.inl l1)) (hl2 : lv 2 = some (.inl l2)) (h : fX5_look_64 T l1 l2 = some res) : ga_G X 0 0 K 64 lv [] σ := by
  unfold fX5_look_64 at h
  obtain ⟨hg, h⟩ := gt_gd h
  obtain ⟨g73_0, g75_1⟩ := hg
  refine ga_aload_n C dX5_look_64 rfl hl0 hr0 ?_
  refine gt_geta C (iX5_look_X5) hW.1 1 rfl rfl (by decide) kX5_look_16 dX5_look_65 ?_
  refine gt_geta C (iX5_look_X0) hW.2.2.2.2.2.2.2.2.2 0 rfl rfl (by decide) kX5_look_30 dX5_look_68 ?_
  refine ga_iconst C dX5_look_71 ⟨by decide, by decide⟩ ?_
  refine ga_iload_n C dX5_look_72 rfl hl1 ?_
  refine ga_imul C dX5_look_73 g73_0 ?_
  refine ga_iload_n C dX5_look_74 rfl hl2 ?_
  refine ga_iadd C dX5_look_75 g75_1 ?_
  obtain ⟨q76, hq, h⟩ := Option.bind_eq_some_iff.mp h
  refine gt_cVi (n := 1) (st := []) C (eX4_label X.2.1 D cI cZ K (Nat.succ_ne_zero _) hW.2.2.1 hq) gX5_look_X4_label rfl (by decide +kernel) rfl ⟨Nat.le_of_ble_eq_true rfl, Nat.le_of_ble_eq_true rfl⟩ hW.2.2.1.1 rfl rfl (Nat.le_of_ble_eq_true rfl) rfl dX5_look_76 (fun σ' hp => ?_)
  subst hp
  cases h
  exact hRet _ _ _ _ dX5_look_79 rfl rfl
set_option maxHeartbeats 4000000 in
theorem gX5_look_0 {X : ga_X} {D : va_G} {cI cZ : ClassId} {K : Nat} {r : Nat} {o1 o2 : Nat} {res : Int} {T : gx_Dc} {σ : ga_S} (C : ga_C X cX5_look yX5_look wsX5_look [] (gt_rm 4 84) (D, vwCl, cI, cZ) 3) (hRet : ∀ (pc : Nat) (lv : Nat → Option ga_V) (σ' : ga_S) (z : Int), decode cX5_look pc = .ok (.ireturn, 1) → z = res → (σ' = σ) → ga_G X 0 0 K pc lv [.inl z] σ') (hr0 : r ≠ 0) (ho : (o1 = 1 ∧ o2 = 33) ∨ (o1 = 33 ∧ o2 = 1)) {l1 l2 : Int} {lv : Nat → Option ga_V} (hW : gx_D r o1 o2 T σ) (hl0 : lv 0 = some (.inr r)) (hl1 : lv 1 = some (.inl l1)) (hl2 : lv 2 = some (.inl l2)) (h : fX5_look T l1 l2 = some res) : ga_G X 0 0 K 0 lv [] σ := by
  unfold fX5_look at h
  refine ga_aload_n C dX5_look_0 rfl hl0 hr0 ?_
  refine gt_geta C (iX5_look_X5) hW.1 1 rfl rfl (by decide) kX5_look_16 dX5_look_1 ?_
  refine gt_geta C (iX5_look_X0) hW.2.2.2.2.2.2.2.2.2 0 rfl rfl (by decide) kX5_look_30 dX5_look_4 ?_
  refine ga_iload_n C dX5_look_7 rfl hl1 ?_
  obtain ⟨q8, hq, h⟩ := Option.bind_eq_some_iff.mp h
  refine gt_cVi (n := 1) (st := []) C (eX4_has X.2.1 D cI cZ K (Nat.succ_ne_zero _) hW.2.2.1 hq) gX5_look_X4_has rfl (by decide +kernel) rfl ⟨Nat.le_of_ble_eq_true rfl, Nat.le_of_ble_eq_true rfl⟩ hW.2.2.1.1 rfl rfl (Nat.le_of_ble_eq_true rfl) rfl dX5_look_8 (fun σ' hp => ?_)
  subst hp
  refine ga_if_ne (tgt := 18) C dX5_look_11 (by decide) (fun c1 => ?_) (fun c1 => ?_)
  · have h := gt_in h c1
    refine ga_iload_n C dX5_look_18 rfl hl2 ?_
    by_cases c1 : l2 = 0
    · have h := gt_ip h c1
      refine ga_tabIn (tgt := 64) C dX5_look_19 (by rw [c1]; decide) (by rw [c1]; decide) (by rw [c1]; rfl) (by decide) ?_
      exact gX5_look_64 C hRet hr0 ho hW hl0 hl1 hl2 h
    · have h := gt_in h c1
      have c100 := c1
      by_cases c1 : l2 = 1
      · have h := gt_ip h c1
        refine ga_tabIn (tgt := 64) C dX5_look_19 (by rw [c1]; decide) (by rw [c1]; decide) (by rw [c1]; rfl) (by decide) ?_
        exact gX5_look_64 C hRet hr0 ho hW hl0 hl1 hl2 h
      · have h := gt_in h c1
        have c101 := c1
        by_cases c1 : l2 = 2
        · have h := gt_ip h c1
          refine ga_tabIn (tgt := 64) C dX5_look_19 (by rw [c1]; decide) (by rw [c1]; decide) (by rw [c1]; rfl) (by decide) ?_
          exact gX5_look_64 C hRet hr0 ho hW hl0 hl1 hl2 h
        · have h := gt_in h c1
          have c102 := c1
          by_cases c1 : l2 = 3
          · have h := gt_ip h c1
            refine ga_tabIn (tgt := 64) C dX5_look_19 (by rw [c1]; decide) (by rw [c1]; decide) (by rw [c1]; rfl) (by decide) ?_
            exact gX5_look_64 C hRet hr0 ho hW hl0 hl1 hl2 h
          · have h := gt_in h c1
            have c103 := c1
            by_cases c1 : l2 = 4
            · have h := gt_ip h c1
              refine ga_tabIn (tgt := 80) C dX5_look_19 (by rw [c1]; decide) (by rw [c1]; decide) (by rw [c1]; rfl) (by decide) ?_
              refine ga_aload_n C dX5_look_80 rfl hl0 hr0 ?_
              refine gt_geta C (iX5_look_X5) hW.1 1 rfl rfl (by decide) kX5_look_16 dX5_look_81 ?_
              refine gt_geta C (iX5_look_X0) hW.2.2.2.2.2.2.2.2.2 0 rfl rfl (by decide) kX5_look_30 dX5_look_84 ?_
              refine ga_iload_n C dX5_look_87 rfl hl1 ?_
              obtain ⟨q88, hq, h⟩ := Option.bind_eq_some_iff.mp h
              refine gt_cVi (n := 1) (st := []) C (eX4_sign X.2.1 D cI cZ K (Nat.succ_ne_zero _) hW.2.2.1 hq) gX5_look_X4_sign rfl (by decide +kernel) rfl ⟨Nat.le_of_ble_eq_true rfl, Nat.le_of_ble_eq_true rfl⟩ hW.2.2.1.1 rfl rfl (Nat.le_of_ble_eq_true rfl) rfl dX5_look_88 (fun σ' hp => ?_)
              subst hp
              cases h
              exact hRet _ _ _ _ dX5_look_91 rfl rfl
            · have h := gt_in h c1
              have c104 := c1
              by_cases c1 : l2 = 5
              · have h := gt_ip h c1
                refine ga_tabIn (tgt := 92) C dX5_look_19 (by rw [c1]; decide) (by rw [c1]; decide) (by rw [c1]; rfl) (by decide) ?_
                refine ga_aload_n C dX5_look_92 rfl hl0 hr0 ?_
                refine gt_geta C (iX5_look_X5) hW.1 1 rfl rfl (by decide) kX5_look_16 dX5_look_93 ?_
                refine gt_geta C (iX5_look_X0) hW.2.2.2.2.2.2.2.2.2 2 rfl rfl (by decide) kX5_look_68 dX5_look_96 ?_
                refine ga_iload_n C dX5_look_99 rfl hl1 ?_
                obtain ⟨q100, hq, h⟩ := Option.bind_eq_some_iff.mp h
                refine gt_cVi (n := 1) (st := []) C (eX2_numberOf X.2.1 D cI cZ K (Nat.succ_ne_zero _) hW.2.2.2.2.1 hq) gX5_look_X2_numberOf rfl (by decide +kernel) rfl ⟨Nat.le_of_ble_eq_true rfl, Nat.le_of_ble_eq_true rfl⟩ hW.2.2.2.2.1.1 rfl rfl (Nat.le_of_ble_eq_true rfl) rfl dX5_look_100 (fun σ' hp => ?_)
                subst hp
                cases h
                exact hRet _ _ _ _ dX5_look_103 rfl rfl
              · have h := gt_in h c1
                have c105 := c1
                by_cases c1 : l2 = 6
                · have h := gt_ip h c1
                  refine ga_tabIn (tgt := 104) C dX5_look_19 (by rw [c1]; decide) (by rw [c1]; decide) (by rw [c1]; rfl) (by decide) ?_
                  refine ga_aload_n C dX5_look_104 rfl hl0 hr0 ?_
                  refine gt_geta C (iX5_look_X5) hW.1 1 rfl rfl (by decide) kX5_look_16 dX5_look_105 ?_
                  refine ga_iload_n C dX5_look_108 rfl hl1 ?_
                  obtain ⟨q109, hq, h⟩ := Option.bind_eq_some_iff.mp h
                  refine gt_cVi (n := 1) (st := []) C (eX0_lowerComponent X.2.1 D cI cZ K (by omega) hW.2.2 hq) gX5_look_X0_lowerComponent rfl (by decide +kernel) rfl ⟨Nat.le_of_ble_eq_true rfl, Nat.le_of_ble_eq_true rfl⟩ hW.2.2.2.2.2.2.2.2.2.1 rfl rfl (Nat.le_of_ble_eq_true rfl) rfl dX5_look_109 (fun σ' hp => ?_)
                  subst hp
                  cases h
                  exact hRet _ _ _ _ dX5_look_112 rfl rfl
                · have h := gt_in h c1
                  have c106 := c1
                  by_cases c1 : l2 = 7
                  · have h := gt_ip h c1
                    refine ga_tabIn (tgt := 113) C dX5_look_19 (by rw [c1]; decide) (by rw [c1]; decide) (by rw [c1]; rfl) (by decide) ?_
                    refine ga_aload_n C dX5_look_113 rfl hl0 hr0 ?_
                    refine gt_geta C (iX5_look_X5) hW.1 1 rfl rfl (by decide) kX5_look_16 dX5_look_114 ?_
                    refine ga_iload_n C dX5_look_117 rfl hl1 ?_
                    obtain ⟨q118, hq, h⟩ := Option.bind_eq_some_iff.mp h
                    refine gt_cVi (n := 1) (st := []) C (eX0_upperComponent X.2.1 D cI cZ K (by omega) hW.2.2 hq) gX5_look_X0_upperComponent rfl (by decide +kernel) rfl ⟨Nat.le_of_ble_eq_true rfl, Nat.le_of_ble_eq_true rfl⟩ hW.2.2.2.2.2.2.2.2.2.1 rfl rfl (Nat.le_of_ble_eq_true rfl) rfl dX5_look_118 (fun σ' hp => ?_)
                    subst hp
                    cases h
                    exact hRet _ _ _ _ dX5_look_121 rfl rfl
                  · have h := gt_in h c1
                    have c107 := c1
                    refine ga_tabOut (tgt := 122) C dX5_look_19 (by omega) (by decide) ?_
                    refine ga_sipush C dX5_look_122 ⟨by decide, by decide⟩ (by decide) ?_
                    cases h
                    exact hRet _ _ _ _ dX5_look_125 rfl rfl
  · have h := gt_ip h c1
    refine ga_sipush C dX5_look_14 ⟨by decide, by decide⟩ (by decide) ?_
    cases h
    exact hRet _ _ _ _ dX5_look_17 rfl rfl
set_option maxHeartbeats 4000000 in
theorem eX5_look (l : Launch) (D : va_G) (cI cZ : ClassId) (K : Nat) {r : Nat} (hr0 : r ≠ 0) {o1 o2 : Nat} (ho : (o1 = 1 ∧ o2 = 33) ∨ (o1 = 33 ∧ o2 = 1)) {σ : ga_S} {T : gx_Dc} (hW : gx_D r o1 o2 T σ) {l1 l2 : Int} {res : Int} (h : fX5_look T l1 l2 = some res) : ga_Ev l (D, vwCl, cI, cZ) yX5_look wsX5_look (gt_rm 4 84) [] 0 0 K [.inr r, .inl l1, .inl l2] σ (fun σ' rv => (σ' = σ) ∧ rv = some (.inl res)) := by
  refine ga_ofI (by decide +kernel) rfl gt_hcl (Nat.le_of_ble_eq_true rfl) (fun X hX C hret => ?_)
  exact gX5_look_0 C (fun pc lv σ' z d hz hp => hret pc lv σ' z d ⟨hp, by rw [hz]⟩) hr0 ho hW rfl rfl rfl h
-- X5_edge: edge(II)I
def fX5_edge (T : gx_Dc) (l1 l2 : Int) : Option (Int) :=
  (fX1_rank T.2.1.2.1 l1).bind (fun (q10 : Int) => (if q10 = (-1 : Int) then some (-1 : Int) else (if l2 = 0 then (fX1_from T.2.1.2.1 q10).bind (fun (q79 : Int) => some (Int.tdiv q79 (4 : Int))) else (if l2 = 1 then (fX1_from T.2.1.2.1 q10).bind (fun (q88 : Int) => (if 0 ≤ q88 then some (q88 % (4 : Int)) else none)) else (if l2 = 2 then (fX1_to T.2.1.2.1 q10).bind (fun (q97 : Int) => some (Int.tdiv q97 (4 : Int))) else (if l2 = 3 then (fX1_to T.2.1.2.1 q10).bind (fun (q106 : Int) => (if 0 ≤ q106 then some (q106 % (4 : Int)) else none)) else (if l2 = 4 then (fX3_next T.2.1.2.2.2.2.1 q10).bind (fun (q122 : Int) => (fX1_label T.2.1.2.1 q122).bind (fun (q125 : Int) => some q125)) else (if l2 = 5 then (fX3_roundOf T.2.1.2.2.2.2.1 q10).bind (fun (q138 : Int) => some q138) else (if l2 = 6 then (if (-2147483648 ≤ (2 : Int) * q10 ∧ (2 : Int) * q10 < 2147483648) then (fX3_roundOf T.2.1.2.2.2.2.2.2.1 ((2 : Int) * q10)).bind (fun (q153 : Int) => some q153) else none) else (if l2 = 7 then (if (-2147483648 ≤ (2 : Int) * q10 ∧ (2 : Int) * q10 < 2147483648) ∧ (-2147483648 ≤ ((2 : Int) * q10) + (1 : Int) ∧ ((2 : Int) * q10) + (1 : Int) < 2147483648) then (fX3_roundOf T.2.1.2.2.2.2.2.2.1 (((2 : Int) * q10) + (1 : Int))).bind (fun (q170 : Int) => some q170) else none) else (if l2 = 8 then (fX2_least T.2.1.2.2.2.1 q10).bind (fun (q184 : Int) => (fX1_label T.2.1.2.1 q184).bind (fun (q187 : Int) => some q187)) else some (-1 : Int))))))))))))
theorem iX5_edge_X0 : ∀ w ∈ u_ws RX0 TX0 9, w ∈ wsX5_edge := by decide +kernel
theorem iX5_edge_X5 : ∀ w ∈ u_ws RX5 TX5 4, w ∈ wsX5_edge := by decide +kernel
theorem kX5_edge_52 : Cond.fieldLink yX5_edge.cls 52 (TX0 1).1 (TX0 1).2.1 (TX0 1).2.2.1 ∈ wsX5_edge := by decide +kernel
theorem kX5_edge_61 : Cond.fieldLink yX5_edge.cls 61 (TX0 4).1 (TX0 4).2.1 (TX0 4).2.2.1 ∈ wsX5_edge := by decide +kernel
theorem kX5_edge_78 : Cond.fieldLink yX5_edge.cls 78 (TX0 6).1 (TX0 6).2.1 (TX0 6).2.2.1 ∈ wsX5_edge := by decide +kernel
theorem kX5_edge_81 : Cond.fieldLink yX5_edge.cls 81 (TX0 3).1 (TX0 3).2.1 (TX0 3).2.2.1 ∈ wsX5_edge := by decide +kernel
theorem kX5_edge_16 : Cond.fieldLink yX5_edge.cls 16 (TX5 1).1 (TX5 1).2.1 (TX5 1).2.2.1 ∈ wsX5_edge := by decide +kernel
set_option maxHeartbeats 4000000 in
theorem gX5_edge_0 {X : ga_X} {D : va_G} {cI cZ : ClassId} {K : Nat} {r : Nat} {o1 o2 : Nat} {res : Int} {T : gx_Dc} {σ : ga_S} (C : ga_C X cX5_edge yX5_edge wsX5_edge [] (gt_rm 2 44) (D, vwCl, cI, cZ) 5) (hRet : ∀ (pc : Nat) (lv : Nat → Option ga_V) (σ' : ga_S) (z : Int), decode cX5_edge pc = .ok (.ireturn, 1) → z = res → (σ' = σ) → ga_G X 0 0 K pc lv [.inl z] σ') (hr0 : r ≠ 0) (ho : (o1 = 1 ∧ o2 = 33) ∨ (o1 = 33 ∧ o2 = 1)) {l1 l2 : Int} {lv : Nat → Option ga_V} (hW : gx_D r o1 o2 T σ) (hl0 : lv 0 = some (.inr r)) (hl1 : lv 1 = some (.inl l1)) (hl2 : lv 2 = some (.inl l2)) (h : fX5_edge T l1 l2 = some res) : ga_G X 0 0 K 0 lv [] σ := by
  unfold fX5_edge at h
  refine ga_aload_n C dX5_edge_0 rfl hl0 hr0 ?_
  refine gt_geta C (iX5_edge_X5) hW.1 1 rfl rfl (by decide) kX5_edge_16 dX5_edge_1 ?_
  refine gt_geta C (iX5_edge_X0) hW.2.2.2.2.2.2.2.2.2 1 rfl rfl (by decide) kX5_edge_52 dX5_edge_4 ?_
  refine ga_astore_n C dX5_edge_7 rfl (by decide) (Nat.succ_ne_zero _) ?_
  refine ga_aload_n C dX5_edge_8 rfl gt_us (Nat.succ_ne_zero _) ?_
  refine ga_iload_n C dX5_edge_9 rfl (gt_un (by decide) hl1) ?_
  obtain ⟨q10, hq, h⟩ := Option.bind_eq_some_iff.mp h
  refine gt_cVi (n := 1) (st := []) C (eX1_rank X.2.1 D cI cZ K (Nat.succ_ne_zero _) hW.2.2.2.1 hq) gX5_edge_X1_rank rfl (by decide +kernel) rfl ⟨Nat.le_of_ble_eq_true rfl, Nat.le_of_ble_eq_true rfl⟩ hW.2.2.2.1.1 rfl rfl (Nat.le_of_ble_eq_true rfl) rfl dX5_edge_10 (fun σ' hp => ?_)
  subst hp
  refine ga_istore C dX5_edge_13 (by decide) ?_
  refine ga_iload C dX5_edge_15 gt_us ?_
  refine ga_iconst C dX5_edge_17 ⟨by decide, by decide⟩ ?_
  refine ga_icmp_ne (tgt := 23) C dX5_edge_18 (by decide) (fun c1 => ?_) (fun c1 => ?_)
  · have h := gt_in h c1
    refine ga_iload_n C dX5_edge_23 rfl (gt_un (by decide) (gt_un (by decide) hl2)) ?_
    by_cases c1 : l2 = 0
    · have h := gt_ip h c1
      refine ga_tabIn (tgt := 76) C dX5_edge_24 (by rw [c1]; decide) (by rw [c1]; decide) (by rw [c1]; rfl) (by decide) ?_
      refine ga_aload_n C dX5_edge_76 rfl (gt_un (by decide) gt_us) (Nat.succ_ne_zero _) ?_
      refine ga_iload C dX5_edge_77 gt_us ?_
      obtain ⟨q79, hq, h⟩ := Option.bind_eq_some_iff.mp h
      refine gt_cVi (n := 1) (st := []) C (eX1_from X.2.1 D cI cZ K (Nat.succ_ne_zero _) hW.2.2.2.1 hq) gX5_edge_X1_from rfl (by decide +kernel) rfl ⟨Nat.le_of_ble_eq_true rfl, Nat.le_of_ble_eq_true rfl⟩ hW.2.2.2.1.1 rfl rfl (Nat.le_of_ble_eq_true rfl) rfl dX5_edge_79 (fun σ' hp => ?_)
      subst hp
      refine ga_iconst C dX5_edge_82 ⟨by decide, by decide⟩ ?_
      refine ga_idiv C dX5_edge_83 (by decide) ?_
      cases h
      exact hRet _ _ _ _ dX5_edge_84 rfl rfl
    · have h := gt_in h c1
      have c100 := c1
      by_cases c1 : l2 = 1
      · have h := gt_ip h c1
        refine ga_tabIn (tgt := 85) C dX5_edge_24 (by rw [c1]; decide) (by rw [c1]; decide) (by rw [c1]; rfl) (by decide) ?_
        refine ga_aload_n C dX5_edge_85 rfl (gt_un (by decide) gt_us) (Nat.succ_ne_zero _) ?_
        refine ga_iload C dX5_edge_86 gt_us ?_
        obtain ⟨q88, hq, h⟩ := Option.bind_eq_some_iff.mp h
        refine gt_cVi (n := 1) (st := []) C (eX1_from X.2.1 D cI cZ K (Nat.succ_ne_zero _) hW.2.2.2.1 hq) gX5_edge_X1_from rfl (by decide +kernel) rfl ⟨Nat.le_of_ble_eq_true rfl, Nat.le_of_ble_eq_true rfl⟩ hW.2.2.2.1.1 rfl rfl (Nat.le_of_ble_eq_true rfl) rfl dX5_edge_88 (fun σ' hp => ?_)
        subst hp
        obtain ⟨hg, h⟩ := gt_gd h
        have g92_0 := hg
        refine ga_iconst C dX5_edge_91 ⟨by decide, by decide⟩ ?_
        refine ga_irem C dX5_edge_92 (by decide) g92_0 ?_
        cases h
        exact hRet _ _ _ _ dX5_edge_93 rfl rfl
      · have h := gt_in h c1
        have c101 := c1
        by_cases c1 : l2 = 2
        · have h := gt_ip h c1
          refine ga_tabIn (tgt := 94) C dX5_edge_24 (by rw [c1]; decide) (by rw [c1]; decide) (by rw [c1]; rfl) (by decide) ?_
          refine ga_aload_n C dX5_edge_94 rfl (gt_un (by decide) gt_us) (Nat.succ_ne_zero _) ?_
          refine ga_iload C dX5_edge_95 gt_us ?_
          obtain ⟨q97, hq, h⟩ := Option.bind_eq_some_iff.mp h
          refine gt_cVi (n := 1) (st := []) C (eX1_to X.2.1 D cI cZ K (Nat.succ_ne_zero _) hW.2.2.2.1 hq) gX5_edge_X1_to rfl (by decide +kernel) rfl ⟨Nat.le_of_ble_eq_true rfl, Nat.le_of_ble_eq_true rfl⟩ hW.2.2.2.1.1 rfl rfl (Nat.le_of_ble_eq_true rfl) rfl dX5_edge_97 (fun σ' hp => ?_)
          subst hp
          refine ga_iconst C dX5_edge_100 ⟨by decide, by decide⟩ ?_
          refine ga_idiv C dX5_edge_101 (by decide) ?_
          cases h
          exact hRet _ _ _ _ dX5_edge_102 rfl rfl
        · have h := gt_in h c1
          have c102 := c1
          by_cases c1 : l2 = 3
          · have h := gt_ip h c1
            refine ga_tabIn (tgt := 103) C dX5_edge_24 (by rw [c1]; decide) (by rw [c1]; decide) (by rw [c1]; rfl) (by decide) ?_
            refine ga_aload_n C dX5_edge_103 rfl (gt_un (by decide) gt_us) (Nat.succ_ne_zero _) ?_
            refine ga_iload C dX5_edge_104 gt_us ?_
            obtain ⟨q106, hq, h⟩ := Option.bind_eq_some_iff.mp h
            refine gt_cVi (n := 1) (st := []) C (eX1_to X.2.1 D cI cZ K (Nat.succ_ne_zero _) hW.2.2.2.1 hq) gX5_edge_X1_to rfl (by decide +kernel) rfl ⟨Nat.le_of_ble_eq_true rfl, Nat.le_of_ble_eq_true rfl⟩ hW.2.2.2.1.1 rfl rfl (Nat.le_of_ble_eq_true rfl) rfl dX5_edge_106 (fun σ' hp => ?_)
            subst hp
            obtain ⟨hg, h⟩ := gt_gd h
            have g110_0 := hg
            refine ga_iconst C dX5_edge_109 ⟨by decide, by decide⟩ ?_
            refine ga_irem C dX5_edge_110 (by decide) g110_0 ?_
            cases h
            exact hRet _ _ _ _ dX5_edge_111 rfl rfl
          · have h := gt_in h c1
            have c103 := c1
            by_cases c1 : l2 = 4
            · have h := gt_ip h c1
              refine ga_tabIn (tgt := 112) C dX5_edge_24 (by rw [c1]; decide) (by rw [c1]; decide) (by rw [c1]; rfl) (by decide) ?_
              refine ga_aload_n C dX5_edge_112 rfl (gt_un (by decide) gt_us) (Nat.succ_ne_zero _) ?_
              refine ga_aload_n C dX5_edge_113 rfl (gt_un (by decide) (gt_un (by decide) hl0)) hr0 ?_
              refine gt_geta C (iX5_edge_X5) hW.1 1 rfl rfl (by decide) kX5_edge_16 dX5_edge_114 ?_
              refine gt_geta C (iX5_edge_X0) hW.2.2.2.2.2.2.2.2.2 4 rfl rfl (by decide) kX5_edge_61 dX5_edge_117 ?_
              refine ga_iload C dX5_edge_120 gt_us ?_
              obtain ⟨q122, hq, h⟩ := Option.bind_eq_some_iff.mp h
              refine gt_cVi (n := 1) (st := [.inr ((r + o2) + 4)]) C (eX3_next X.2.1 D cI cZ K (Nat.succ_ne_zero _) hW.2.2.2.2.2.2.1 hq) gX5_edge_X3_next rfl (by decide +kernel) rfl ⟨Nat.le_of_ble_eq_true rfl, Nat.le_of_ble_eq_true rfl⟩ hW.2.2.2.2.2.2.1.1 rfl rfl (Nat.le_of_ble_eq_true rfl) rfl dX5_edge_122 (fun σ' hp => ?_)
              subst hp
              obtain ⟨q125, hq, h⟩ := Option.bind_eq_some_iff.mp h
              refine gt_cVi (n := 1) (st := []) C (eX1_label X.2.1 D cI cZ K (Nat.succ_ne_zero _) hW.2.2.2.1 hq) gX5_edge_X1_label rfl (by decide +kernel) rfl ⟨Nat.le_of_ble_eq_true rfl, Nat.le_of_ble_eq_true rfl⟩ hW.2.2.2.1.1 rfl rfl (Nat.le_of_ble_eq_true rfl) rfl dX5_edge_125 (fun σ' hp => ?_)
              subst hp
              cases h
              exact hRet _ _ _ _ dX5_edge_128 rfl rfl
            · have h := gt_in h c1
              have c104 := c1
              by_cases c1 : l2 = 5
              · have h := gt_ip h c1
                refine ga_tabIn (tgt := 129) C dX5_edge_24 (by rw [c1]; decide) (by rw [c1]; decide) (by rw [c1]; rfl) (by decide) ?_
                refine ga_aload_n C dX5_edge_129 rfl (gt_un (by decide) (gt_un (by decide) hl0)) hr0 ?_
                refine gt_geta C (iX5_edge_X5) hW.1 1 rfl rfl (by decide) kX5_edge_16 dX5_edge_130 ?_
                refine gt_geta C (iX5_edge_X0) hW.2.2.2.2.2.2.2.2.2 4 rfl rfl (by decide) kX5_edge_61 dX5_edge_133 ?_
                refine ga_iload C dX5_edge_136 gt_us ?_
                obtain ⟨q138, hq, h⟩ := Option.bind_eq_some_iff.mp h
                refine gt_cVi (n := 1) (st := []) C (eX3_roundOf X.2.1 D cI cZ K (Nat.succ_ne_zero _) hW.2.2.2.2.2.2.1 hq) gX5_edge_X3_roundOf rfl (by decide +kernel) rfl ⟨Nat.le_of_ble_eq_true rfl, Nat.le_of_ble_eq_true rfl⟩ hW.2.2.2.2.2.2.1.1 rfl rfl (Nat.le_of_ble_eq_true rfl) rfl dX5_edge_138 (fun σ' hp => ?_)
                subst hp
                cases h
                exact hRet _ _ _ _ dX5_edge_141 rfl rfl
              · have h := gt_in h c1
                have c105 := c1
                by_cases c1 : l2 = 6
                · have h := gt_ip h c1
                  refine ga_tabIn (tgt := 142) C dX5_edge_24 (by rw [c1]; decide) (by rw [c1]; decide) (by rw [c1]; rfl) (by decide) ?_
                  obtain ⟨hg, h⟩ := gt_gd h
                  have g152_0 := hg
                  refine ga_aload_n C dX5_edge_142 rfl (gt_un (by decide) (gt_un (by decide) hl0)) hr0 ?_
                  refine gt_geta C (iX5_edge_X5) hW.1 1 rfl rfl (by decide) kX5_edge_16 dX5_edge_143 ?_
                  refine gt_geta C (iX5_edge_X0) hW.2.2.2.2.2.2.2.2.2 6 rfl rfl (by decide) kX5_edge_78 dX5_edge_146 ?_
                  refine ga_iconst C dX5_edge_149 ⟨by decide, by decide⟩ ?_
                  refine ga_iload C dX5_edge_150 gt_us ?_
                  refine ga_imul C dX5_edge_152 g152_0 ?_
                  obtain ⟨q153, hq, h⟩ := Option.bind_eq_some_iff.mp h
                  refine gt_cVi (n := 1) (st := []) C (eX3_roundOf X.2.1 D cI cZ K (Nat.succ_ne_zero _) hW.2.2.2.2.2.2.2.2.1 hq) gX5_edge_X3_roundOf rfl (by decide +kernel) rfl ⟨Nat.le_of_ble_eq_true rfl, Nat.le_of_ble_eq_true rfl⟩ hW.2.2.2.2.2.2.2.2.1.1 rfl rfl (Nat.le_of_ble_eq_true rfl) rfl dX5_edge_153 (fun σ' hp => ?_)
                  subst hp
                  cases h
                  exact hRet _ _ _ _ dX5_edge_156 rfl rfl
                · have h := gt_in h c1
                  have c106 := c1
                  by_cases c1 : l2 = 7
                  · have h := gt_ip h c1
                    refine ga_tabIn (tgt := 157) C dX5_edge_24 (by rw [c1]; decide) (by rw [c1]; decide) (by rw [c1]; rfl) (by decide) ?_
                    obtain ⟨hg, h⟩ := gt_gd h
                    obtain ⟨g167_0, g169_1⟩ := hg
                    refine ga_aload_n C dX5_edge_157 rfl (gt_un (by decide) (gt_un (by decide) hl0)) hr0 ?_
                    refine gt_geta C (iX5_edge_X5) hW.1 1 rfl rfl (by decide) kX5_edge_16 dX5_edge_158 ?_
                    refine gt_geta C (iX5_edge_X0) hW.2.2.2.2.2.2.2.2.2 6 rfl rfl (by decide) kX5_edge_78 dX5_edge_161 ?_
                    refine ga_iconst C dX5_edge_164 ⟨by decide, by decide⟩ ?_
                    refine ga_iload C dX5_edge_165 gt_us ?_
                    refine ga_imul C dX5_edge_167 g167_0 ?_
                    refine ga_iconst C dX5_edge_168 ⟨by decide, by decide⟩ ?_
                    refine ga_iadd C dX5_edge_169 g169_1 ?_
                    obtain ⟨q170, hq, h⟩ := Option.bind_eq_some_iff.mp h
                    refine gt_cVi (n := 1) (st := []) C (eX3_roundOf X.2.1 D cI cZ K (Nat.succ_ne_zero _) hW.2.2.2.2.2.2.2.2.1 hq) gX5_edge_X3_roundOf rfl (by decide +kernel) rfl ⟨Nat.le_of_ble_eq_true rfl, Nat.le_of_ble_eq_true rfl⟩ hW.2.2.2.2.2.2.2.2.1.1 rfl rfl (Nat.le_of_ble_eq_true rfl) rfl dX5_edge_170 (fun σ' hp => ?_)
                    subst hp
                    cases h
                    exact hRet _ _ _ _ dX5_edge_173 rfl rfl
                  · have h := gt_in h c1
                    have c107 := c1
                    by_cases c1 : l2 = 8
                    · have h := gt_ip h c1
                      refine ga_tabIn (tgt := 174) C dX5_edge_24 (by rw [c1]; decide) (by rw [c1]; decide) (by rw [c1]; rfl) (by decide) ?_
                      refine ga_aload_n C dX5_edge_174 rfl (gt_un (by decide) gt_us) (Nat.succ_ne_zero _) ?_
                      refine ga_aload_n C dX5_edge_175 rfl (gt_un (by decide) (gt_un (by decide) hl0)) hr0 ?_
                      refine gt_geta C (iX5_edge_X5) hW.1 1 rfl rfl (by decide) kX5_edge_16 dX5_edge_176 ?_
                      refine gt_geta C (iX5_edge_X0) hW.2.2.2.2.2.2.2.2.2 3 rfl rfl (by decide) kX5_edge_81 dX5_edge_179 ?_
                      refine ga_iload C dX5_edge_182 gt_us ?_
                      obtain ⟨q184, hq, h⟩ := Option.bind_eq_some_iff.mp h
                      refine gt_cVi (n := 1) (st := [.inr ((r + o2) + 4)]) C (eX2_least X.2.1 D cI cZ K (Nat.succ_ne_zero _) hW.2.2.2.2.2.1 hq) gX5_edge_X2_least rfl (by decide +kernel) rfl ⟨Nat.le_of_ble_eq_true rfl, Nat.le_of_ble_eq_true rfl⟩ hW.2.2.2.2.2.1.1 rfl rfl (Nat.le_of_ble_eq_true rfl) rfl dX5_edge_184 (fun σ' hp => ?_)
                      subst hp
                      obtain ⟨q187, hq, h⟩ := Option.bind_eq_some_iff.mp h
                      refine gt_cVi (n := 1) (st := []) C (eX1_label X.2.1 D cI cZ K (Nat.succ_ne_zero _) hW.2.2.2.1 hq) gX5_edge_X1_label rfl (by decide +kernel) rfl ⟨Nat.le_of_ble_eq_true rfl, Nat.le_of_ble_eq_true rfl⟩ hW.2.2.2.1.1 rfl rfl (Nat.le_of_ble_eq_true rfl) rfl dX5_edge_187 (fun σ' hp => ?_)
                      subst hp
                      cases h
                      exact hRet _ _ _ _ dX5_edge_190 rfl rfl
                    · have h := gt_in h c1
                      have c108 := c1
                      refine ga_tabOut (tgt := 191) C dX5_edge_24 (by omega) (by decide) ?_
                      refine ga_iconst C dX5_edge_191 ⟨by decide, by decide⟩ ?_
                      cases h
                      exact hRet _ _ _ _ dX5_edge_192 rfl rfl
  · have h := gt_ip h c1
    refine ga_iconst C dX5_edge_21 ⟨by decide, by decide⟩ ?_
    cases h
    exact hRet _ _ _ _ dX5_edge_22 rfl rfl
set_option maxHeartbeats 4000000 in
theorem eX5_edge (l : Launch) (D : va_G) (cI cZ : ClassId) (K : Nat) {r : Nat} (hr0 : r ≠ 0) {o1 o2 : Nat} (ho : (o1 = 1 ∧ o2 = 33) ∨ (o1 = 33 ∧ o2 = 1)) {σ : ga_S} {T : gx_Dc} (hW : gx_D r o1 o2 T σ) {l1 l2 : Int} {res : Int} (h : fX5_edge T l1 l2 = some res) : ga_Ev l (D, vwCl, cI, cZ) yX5_edge wsX5_edge (gt_rm 2 44) [] 0 0 K [.inr r, .inl l1, .inl l2] σ (fun σ' rv => (σ' = σ) ∧ rv = some (.inl res)) := by
  refine ga_ofI (by decide +kernel) rfl gt_hcl (Nat.le_of_ble_eq_true rfl) (fun X hX C hret => ?_)
  exact gX5_edge_0 C (fun pc lv σ' z d hz hp => hret pc lv σ' z d ⟨hp, by rw [hz]⟩) hr0 ho hW rfl rfl rfl h
-- X5_hasComponent: hasComponent(I)Z
def fX5_hasComponent_28 (T : gx_Dc) (s0 : Int) : Option (Int) :=
  (if (s0 = 0 ∨ s0 = 1) then some s0 else none)
def fX5_hasComponent_27 (T : gx_Dc) : Option (Int) :=
  fX5_hasComponent_28 T (0 : Int)
def fX5_hasComponent (T : gx_Dc) (l1 : Int) : Option (Int) :=
  (if l1 < 0 then fX5_hasComponent_27 T else (fX3_count T.2.1.2.2.2.2.1).bind (fun (q12 : Int) => (if (-2147483648 ≤ q12 + (T.2.2.1 2) ∧ q12 + (T.2.2.1 2) < 2147483648) then (if (q12 + (T.2.2.1 2)) ≤ l1 then fX5_hasComponent_27 T else fX5_hasComponent_28 T (1 : Int)) else none)))
theorem iX5_hasComponent_X0 : ∀ w ∈ u_ws RX0 TX0 9, w ∈ wsX5_hasComponent := by decide +kernel
theorem iX5_hasComponent_X5 : ∀ w ∈ u_ws RX5 TX5 4, w ∈ wsX5_hasComponent := by decide +kernel
theorem kX5_hasComponent_61 : Cond.fieldLink yX5_hasComponent.cls 61 (TX0 4).1 (TX0 4).2.1 (TX0 4).2.2.1 ∈ wsX5_hasComponent := by decide +kernel
theorem kX5_hasComponent_16 : Cond.fieldLink yX5_hasComponent.cls 16 (TX5 1).1 (TX5 1).2.1 (TX5 1).2.2.1 ∈ wsX5_hasComponent := by decide +kernel
theorem kX5_hasComponent_19 : Cond.fieldLink yX5_hasComponent.cls 19 (TX5 2).1 (TX5 2).2.1 (TX5 2).2.2.1 ∈ wsX5_hasComponent := by decide +kernel
set_option maxHeartbeats 4000000 in
theorem gX5_hasComponent_28 {X : ga_X} {D : va_G} {cI cZ : ClassId} {K : Nat} {r : Nat} {o1 o2 : Nat} {res : Int} {T : gx_Dc} {σ : ga_S} (C : ga_C X cX5_hasComponent yX5_hasComponent wsX5_hasComponent [] (gt_rm 1 20) (D, vwCl, cI, cZ) 2) (hRet : ∀ (pc : Nat) (lv : Nat → Option ga_V) (σ' : ga_S) (z : Int), decode cX5_hasComponent pc = .ok (.ireturn, 1) → (z = 0 ∨ z = 1) → z = res → (σ' = σ) → ga_G X 0 0 K pc lv [.inl z] σ') (hr0 : r ≠ 0) (ho : (o1 = 1 ∧ o2 = 33) ∨ (o1 = 33 ∧ o2 = 1)) {s0 : Int} {lv : Nat → Option ga_V} (hW : gx_D r o1 o2 T σ) (h : fX5_hasComponent_28 T s0 = some res) : ga_G X 0 0 K 28 lv [.inl s0] σ := by
  unfold fX5_hasComponent_28 at h
  obtain ⟨hg, h⟩ := gt_gd h
  have g28_0 := hg
  cases h
  exact hRet _ _ _ _ dX5_hasComponent_28 g28_0 rfl rfl
set_option maxHeartbeats 4000000 in
theorem gX5_hasComponent_27 {X : ga_X} {D : va_G} {cI cZ : ClassId} {K : Nat} {r : Nat} {o1 o2 : Nat} {res : Int} {T : gx_Dc} {σ : ga_S} (C : ga_C X cX5_hasComponent yX5_hasComponent wsX5_hasComponent [] (gt_rm 1 20) (D, vwCl, cI, cZ) 2) (hRet : ∀ (pc : Nat) (lv : Nat → Option ga_V) (σ' : ga_S) (z : Int), decode cX5_hasComponent pc = .ok (.ireturn, 1) → (z = 0 ∨ z = 1) → z = res → (σ' = σ) → ga_G X 0 0 K pc lv [.inl z] σ') (hr0 : r ≠ 0) (ho : (o1 = 1 ∧ o2 = 33) ∨ (o1 = 33 ∧ o2 = 1)) {lv : Nat → Option ga_V} (hW : gx_D r o1 o2 T σ) (h : fX5_hasComponent_27 T = some res) : ga_G X 0 0 K 27 lv [] σ := by
  unfold fX5_hasComponent_27 at h
  refine ga_iconst C dX5_hasComponent_27 ⟨by decide, by decide⟩ ?_
  exact gX5_hasComponent_28 C hRet hr0 ho hW h
set_option maxHeartbeats 4000000 in
theorem gX5_hasComponent_0 {X : ga_X} {D : va_G} {cI cZ : ClassId} {K : Nat} {r : Nat} {o1 o2 : Nat} {res : Int} {T : gx_Dc} {σ : ga_S} (C : ga_C X cX5_hasComponent yX5_hasComponent wsX5_hasComponent [] (gt_rm 1 20) (D, vwCl, cI, cZ) 2) (hRet : ∀ (pc : Nat) (lv : Nat → Option ga_V) (σ' : ga_S) (z : Int), decode cX5_hasComponent pc = .ok (.ireturn, 1) → (z = 0 ∨ z = 1) → z = res → (σ' = σ) → ga_G X 0 0 K pc lv [.inl z] σ') (hr0 : r ≠ 0) (ho : (o1 = 1 ∧ o2 = 33) ∨ (o1 = 33 ∧ o2 = 1)) {l1 : Int} {lv : Nat → Option ga_V} (hW : gx_D r o1 o2 T σ) (hl0 : lv 0 = some (.inr r)) (hl1 : lv 1 = some (.inl l1)) (h : fX5_hasComponent T l1 = some res) : ga_G X 0 0 K 0 lv [] σ := by
  unfold fX5_hasComponent at h
  refine ga_iload_n C dX5_hasComponent_0 rfl hl1 ?_
  refine ga_if_lt (tgt := 27) C dX5_hasComponent_1 (by decide) (fun c1 => ?_) (fun c1 => ?_)
  · have h := gt_ip h c1
    exact gX5_hasComponent_27 C hRet hr0 ho hW h
  · have h := gt_in h c1
    refine ga_iload_n C dX5_hasComponent_4 rfl hl1 ?_
    refine ga_aload_n C dX5_hasComponent_5 rfl hl0 hr0 ?_
    refine gt_geta C (iX5_hasComponent_X5) hW.1 1 rfl rfl (by decide) kX5_hasComponent_16 dX5_hasComponent_6 ?_
    refine gt_geta C (iX5_hasComponent_X0) hW.2.2.2.2.2.2.2.2.2 4 rfl rfl (by decide) kX5_hasComponent_61 dX5_hasComponent_9 ?_
    obtain ⟨q12, hq, h⟩ := Option.bind_eq_some_iff.mp h
    refine gt_cVi (n := 0) (st := [.inl l1]) C (eX3_count X.2.1 D cI cZ K (Nat.succ_ne_zero _) hW.2.2.2.2.2.2.1 hq) gX5_hasComponent_X3_count rfl (by decide +kernel) rfl ⟨Nat.le_of_ble_eq_true rfl, Nat.le_of_ble_eq_true rfl⟩ hW.2.2.2.2.2.2.1.1 rfl rfl (Nat.le_of_ble_eq_true rfl) rfl dX5_hasComponent_12 (fun σ' hp => ?_)
    subst hp
    obtain ⟨hg, h⟩ := gt_gd h
    have g19_0 := hg
    refine ga_aload_n C dX5_hasComponent_15 rfl hl0 hr0 ?_
    refine gt_geti C (iX5_hasComponent_X5) hW.1 2 rfl rfl (by decide) kX5_hasComponent_19 dX5_hasComponent_16 ?_
    refine ga_iadd C dX5_hasComponent_19 g19_0 ?_
    refine ga_icmp_ge (tgt := 27) C dX5_hasComponent_20 (by decide) (fun c1 => ?_) (fun c1 => ?_)
    · have h := gt_ip h c1
      exact gX5_hasComponent_27 C hRet hr0 ho hW h
    · have h := gt_in h c1
      refine ga_iconst C dX5_hasComponent_23 ⟨by decide, by decide⟩ ?_
      refine ga_goto (tgt := 28) C dX5_hasComponent_24 (by decide) ?_
      exact gX5_hasComponent_28 C hRet hr0 ho hW h
set_option maxHeartbeats 4000000 in
theorem eX5_hasComponent (l : Launch) (D : va_G) (cI cZ : ClassId) (K : Nat) {r : Nat} (hr0 : r ≠ 0) {o1 o2 : Nat} (ho : (o1 = 1 ∧ o2 = 33) ∨ (o1 = 33 ∧ o2 = 1)) {σ : ga_S} {T : gx_Dc} (hW : gx_D r o1 o2 T σ) {l1 : Int} {res : Int} (h : fX5_hasComponent T l1 = some res) : ga_Ev l (D, vwCl, cI, cZ) yX5_hasComponent wsX5_hasComponent (gt_rm 1 20) [] 0 0 K [.inr r, .inl l1] σ (fun σ' rv => (σ' = σ) ∧ rv = some (.inl res)) := by
  refine ga_ofZ (by decide +kernel) rfl gt_hcl (Nat.le_of_ble_eq_true rfl) (fun X hX C hret => ?_)
  exact gX5_hasComponent_0 C (fun pc lv σ' z d h01 hz hp => hret pc lv σ' z d h01 ⟨hp, by rw [hz]⟩) hr0 ho hW rfl rfl h
-- X5_tellCircle: tellCircle(II)I
def fX5_tellCircle_32 (T : gx_Dc) : Option (Int) :=
  some (0 : Int)
def fX5_tellCircle (T : gx_Dc) (l1 l2 : Int) : Option (Int) :=
  (if l2 = 0 then fX5_tellCircle_32 T else (if l2 = 1 then fX5_tellCircle_32 T else (if l2 = 2 then fX5_tellCircle_32 T else (if l2 = 3 then (fX2_count T.2.1.2.2.1).bind (fun (q41 : Int) => (if (-2147483648 ≤ q41 + l1 ∧ q41 + l1 < 2147483648) then some (q41 + l1) else none)) else some (-1000 : Int)))))
theorem iX5_tellCircle_X0 : ∀ w ∈ u_ws RX0 TX0 9, w ∈ wsX5_tellCircle := by decide +kernel
theorem iX5_tellCircle_X5 : ∀ w ∈ u_ws RX5 TX5 4, w ∈ wsX5_tellCircle := by decide +kernel
theorem kX5_tellCircle_68 : Cond.fieldLink yX5_tellCircle.cls 68 (TX0 2).1 (TX0 2).2.1 (TX0 2).2.2.1 ∈ wsX5_tellCircle := by decide +kernel
theorem kX5_tellCircle_16 : Cond.fieldLink yX5_tellCircle.cls 16 (TX5 1).1 (TX5 1).2.1 (TX5 1).2.2.1 ∈ wsX5_tellCircle := by decide +kernel
set_option maxHeartbeats 4000000 in
theorem gX5_tellCircle_32 {X : ga_X} {D : va_G} {cI cZ : ClassId} {K : Nat} {r : Nat} {o1 o2 : Nat} {res : Int} {T : gx_Dc} {σ : ga_S} (C : ga_C X cX5_tellCircle yX5_tellCircle wsX5_tellCircle [] (gt_rm 1 20) (D, vwCl, cI, cZ) 3) (hRet : ∀ (pc : Nat) (lv : Nat → Option ga_V) (σ' : ga_S) (z : Int), decode cX5_tellCircle pc = .ok (.ireturn, 1) → z = res → (σ' = σ) → ga_G X 0 0 K pc lv [.inl z] σ') (hr0 : r ≠ 0) (ho : (o1 = 1 ∧ o2 = 33) ∨ (o1 = 33 ∧ o2 = 1)) {lv : Nat → Option ga_V} (hW : gx_D r o1 o2 T σ) (h : fX5_tellCircle_32 T = some res) : ga_G X 0 0 K 32 lv [] σ := by
  unfold fX5_tellCircle_32 at h
  refine ga_iconst C dX5_tellCircle_32 ⟨by decide, by decide⟩ ?_
  cases h
  exact hRet _ _ _ _ dX5_tellCircle_33 rfl rfl
set_option maxHeartbeats 4000000 in
theorem gX5_tellCircle_0 {X : ga_X} {D : va_G} {cI cZ : ClassId} {K : Nat} {r : Nat} {o1 o2 : Nat} {res : Int} {T : gx_Dc} {σ : ga_S} (C : ga_C X cX5_tellCircle yX5_tellCircle wsX5_tellCircle [] (gt_rm 1 20) (D, vwCl, cI, cZ) 3) (hRet : ∀ (pc : Nat) (lv : Nat → Option ga_V) (σ' : ga_S) (z : Int), decode cX5_tellCircle pc = .ok (.ireturn, 1) → z = res → (σ' = σ) → ga_G X 0 0 K pc lv [.inl z] σ') (hr0 : r ≠ 0) (ho : (o1 = 1 ∧ o2 = 33) ∨ (o1 = 33 ∧ o2 = 1)) {l1 l2 : Int} {lv : Nat → Option ga_V} (hW : gx_D r o1 o2 T σ) (hl0 : lv 0 = some (.inr r)) (hl1 : lv 1 = some (.inl l1)) (hl2 : lv 2 = some (.inl l2)) (h : fX5_tellCircle T l1 l2 = some res) : ga_G X 0 0 K 0 lv [] σ := by
  unfold fX5_tellCircle at h
  refine ga_iload_n C dX5_tellCircle_0 rfl hl2 ?_
  by_cases c1 : l2 = 0
  · have h := gt_ip h c1
    refine ga_tabIn (tgt := 32) C dX5_tellCircle_1 (by rw [c1]; decide) (by rw [c1]; decide) (by rw [c1]; rfl) (by decide) ?_
    exact gX5_tellCircle_32 C hRet hr0 ho hW h
  · have h := gt_in h c1
    have c100 := c1
    by_cases c1 : l2 = 1
    · have h := gt_ip h c1
      refine ga_tabIn (tgt := 32) C dX5_tellCircle_1 (by rw [c1]; decide) (by rw [c1]; decide) (by rw [c1]; rfl) (by decide) ?_
      exact gX5_tellCircle_32 C hRet hr0 ho hW h
    · have h := gt_in h c1
      have c101 := c1
      by_cases c1 : l2 = 2
      · have h := gt_ip h c1
        refine ga_tabIn (tgt := 32) C dX5_tellCircle_1 (by rw [c1]; decide) (by rw [c1]; decide) (by rw [c1]; rfl) (by decide) ?_
        exact gX5_tellCircle_32 C hRet hr0 ho hW h
      · have h := gt_in h c1
        have c102 := c1
        by_cases c1 : l2 = 3
        · have h := gt_ip h c1
          refine ga_tabIn (tgt := 34) C dX5_tellCircle_1 (by rw [c1]; decide) (by rw [c1]; decide) (by rw [c1]; rfl) (by decide) ?_
          refine ga_aload_n C dX5_tellCircle_34 rfl hl0 hr0 ?_
          refine gt_geta C (iX5_tellCircle_X5) hW.1 1 rfl rfl (by decide) kX5_tellCircle_16 dX5_tellCircle_35 ?_
          refine gt_geta C (iX5_tellCircle_X0) hW.2.2.2.2.2.2.2.2.2 2 rfl rfl (by decide) kX5_tellCircle_68 dX5_tellCircle_38 ?_
          obtain ⟨q41, hq, h⟩ := Option.bind_eq_some_iff.mp h
          refine gt_cVi (n := 0) (st := []) C (eX2_count X.2.1 D cI cZ K (Nat.succ_ne_zero _) hW.2.2.2.2.1 hq) gX5_tellCircle_X2_count rfl (by decide +kernel) rfl ⟨Nat.le_of_ble_eq_true rfl, Nat.le_of_ble_eq_true rfl⟩ hW.2.2.2.2.1.1 rfl rfl (Nat.le_of_ble_eq_true rfl) rfl dX5_tellCircle_41 (fun σ' hp => ?_)
          subst hp
          obtain ⟨hg, h⟩ := gt_gd h
          have g45_0 := hg
          refine ga_iload_n C dX5_tellCircle_44 rfl hl1 ?_
          refine ga_iadd C dX5_tellCircle_45 g45_0 ?_
          cases h
          exact hRet _ _ _ _ dX5_tellCircle_46 rfl rfl
        · have h := gt_in h c1
          have c103 := c1
          refine ga_tabOut (tgt := 47) C dX5_tellCircle_1 (by omega) (by decide) ?_
          refine ga_sipush C dX5_tellCircle_47 ⟨by decide, by decide⟩ (by decide) ?_
          cases h
          exact hRet _ _ _ _ dX5_tellCircle_50 rfl rfl
set_option maxHeartbeats 4000000 in
theorem eX5_tellCircle (l : Launch) (D : va_G) (cI cZ : ClassId) (K : Nat) {r : Nat} (hr0 : r ≠ 0) {o1 o2 : Nat} (ho : (o1 = 1 ∧ o2 = 33) ∨ (o1 = 33 ∧ o2 = 1)) {σ : ga_S} {T : gx_Dc} (hW : gx_D r o1 o2 T σ) {l1 l2 : Int} {res : Int} (h : fX5_tellCircle T l1 l2 = some res) : ga_Ev l (D, vwCl, cI, cZ) yX5_tellCircle wsX5_tellCircle (gt_rm 1 20) [] 0 0 K [.inr r, .inl l1, .inl l2] σ (fun σ' rv => (σ' = σ) ∧ rv = some (.inl res)) := by
  refine ga_ofI (by decide +kernel) rfl gt_hcl (Nat.le_of_ble_eq_true rfl) (fun X hX C hret => ?_)
  exact gX5_tellCircle_0 C (fun pc lv σ' z d hz hp => hret pc lv σ' z d ⟨hp, by rw [hz]⟩) hr0 ho hW rfl rfl rfl h
-- X5_component: component(II)I
def fX5_component_46 (T : gx_Dc) (s0 : Int) : Option (Int) :=
  some s0
def fX5_component (T : gx_Dc) (l1 l2 : Int) : Option (Int) :=
  (fX5_hasComponent ((T.1.1, T.1.2.1, T.1.2.2.1, T.1.2.2.2.1, T.1.2.2.2.2.1, T.1.2.2.2.2.2.1, T.1.2.2.2.2.2.2.1, T.1.2.2.2.2.2.2.2), (T.2.1.1, T.2.1.2.1, T.2.1.2.2.1, T.2.1.2.2.2.1, T.2.1.2.2.2.2.1, T.2.1.2.2.2.2.2.1, T.2.1.2.2.2.2.2.2.1, T.2.1.2.2.2.2.2.2.2), T.2.2) l1).bind (fun (q2 : Int) => (if q2 = 0 then some (-1000 : Int) else (if l2 < (10 : Int) then (fX3_count T.2.1.2.2.2.2.1).bind (fun (q55 : Int) => (if l1 < q55 then (if l2 = 0 then (fX3_first T.2.1.2.2.2.2.1 l1).bind (fun (q127 : Int) => (fX1_label T.2.1.2.1 q127).bind (fun (q130 : Int) => some q130)) else (if l2 = 1 then (fX3_size T.2.1.2.2.2.2.1 l1).bind (fun (q142 : Int) => some q142) else (if l2 = 2 then (fX0_sumOfOwnSigns (T.2.1.1, T.2.1.2.1, T.2.1.2.2.1, T.2.1.2.2.2.1, T.2.1.2.2.2.2.1, T.2.1.2.2.2.2.2.1, T.2.1.2.2.2.2.2.2.1, T.2.1.2.2.2.2.2.2.2) l1).bind (fun (q151 : Int) => some q151) else (if l2 = 3 then (fX0_pieceOfComponent (T.2.1.1, T.2.1.2.1, T.2.1.2.2.1, T.2.1.2.2.2.1, T.2.1.2.2.2.2.1, T.2.1.2.2.2.2.2.1, T.2.1.2.2.2.2.2.2.1, T.2.1.2.2.2.2.2.2.2) l1).bind (fun (q160 : Int) => some q160) else some (-1000 : Int))))) else (fX3_count T.2.1.2.2.2.2.1).bind (fun (q70 : Int) => (if (-2147483648 ≤ l1 - q70 ∧ l1 - q70 < 2147483648) then (fX5_tellCircle ((T.1.1, T.1.2.1, T.1.2.2.1, T.1.2.2.2.1, T.1.2.2.2.2.1, T.1.2.2.2.2.2.1, T.1.2.2.2.2.2.2.1, T.1.2.2.2.2.2.2.2), (T.2.1.1, T.2.1.2.1, T.2.1.2.2.1, T.2.1.2.2.2.1, T.2.1.2.2.2.2.1, T.2.1.2.2.2.2.2.1, T.2.1.2.2.2.2.2.2.1, T.2.1.2.2.2.2.2.2.2), T.2.2) (l1 - q70) l2).bind (fun (q75 : Int) => some q75) else none)))) else (if (-2147483648 ≤ l2 - (10 : Int) ∧ l2 - (10 : Int) < 2147483648) then (fX5_hasComponent ((T.1.1, T.1.2.1, T.1.2.2.1, T.1.2.2.2.1, T.1.2.2.2.2.1, T.1.2.2.2.2.2.1, T.1.2.2.2.2.2.2.1, T.1.2.2.2.2.2.2.2), (T.2.1.1, T.2.1.2.1, T.2.1.2.2.1, T.2.1.2.2.2.1, T.2.1.2.2.2.2.1, T.2.1.2.2.2.2.2.1, T.2.1.2.2.2.2.2.2.1, T.2.1.2.2.2.2.2.2.2), T.2.2) (l2 - (10 : Int))).bind (fun (q25 : Int) => (if q25 = 0 then fX5_component_46 T (-1000 : Int) else (fX0_linking (T.2.1.1, T.2.1.2.1, T.2.1.2.2.1, T.2.1.2.2.2.1, T.2.1.2.2.2.2.1, T.2.1.2.2.2.2.2.1, T.2.1.2.2.2.2.2.2.1, T.2.1.2.2.2.2.2.2.2) l1 (l2 - (10 : Int))).bind (fun (q37 : Int) => fX5_component_46 T q37))) else none))))
theorem iX5_component_X0 : ∀ w ∈ u_ws RX0 TX0 9, w ∈ wsX5_component := by decide +kernel
theorem iX5_component_X5 : ∀ w ∈ u_ws RX5 TX5 4, w ∈ wsX5_component := by decide +kernel
theorem kX5_component_52 : Cond.fieldLink yX5_component.cls 52 (TX0 1).1 (TX0 1).2.1 (TX0 1).2.2.1 ∈ wsX5_component := by decide +kernel
theorem kX5_component_61 : Cond.fieldLink yX5_component.cls 61 (TX0 4).1 (TX0 4).2.1 (TX0 4).2.2.1 ∈ wsX5_component := by decide +kernel
theorem kX5_component_16 : Cond.fieldLink yX5_component.cls 16 (TX5 1).1 (TX5 1).2.1 (TX5 1).2.2.1 ∈ wsX5_component := by decide +kernel
set_option maxHeartbeats 4000000 in
theorem gX5_component_46 {X : ga_X} {D : va_G} {cI cZ : ClassId} {K : Nat} {r : Nat} {o1 o2 : Nat} {res : Int} {T : gx_Dc} {σ : ga_S} (C : ga_C X cX5_component yX5_component wsX5_component [] (gt_rm 6 130) (D, vwCl, cI, cZ) 4) (hRet : ∀ (pc : Nat) (lv : Nat → Option ga_V) (σ' : ga_S) (z : Int), decode cX5_component pc = .ok (.ireturn, 1) → z = res → (σ' = σ) → ga_G X 0 0 K pc lv [.inl z] σ') (hr0 : r ≠ 0) (ho : (o1 = 1 ∧ o2 = 33) ∨ (o1 = 33 ∧ o2 = 1)) {s0 : Int} {lv : Nat → Option ga_V} (hW : gx_D r o1 o2 T σ) (h : fX5_component_46 T s0 = some res) : ga_G X 0 0 K 46 lv [.inl s0] σ := by
  unfold fX5_component_46 at h
  cases h
  exact hRet _ _ _ _ dX5_component_46 rfl rfl
set_option maxHeartbeats 4000000 in
theorem gX5_component_0 {X : ga_X} {D : va_G} {cI cZ : ClassId} {K : Nat} {r : Nat} {o1 o2 : Nat} {res : Int} {T : gx_Dc} {σ : ga_S} (C : ga_C X cX5_component yX5_component wsX5_component [] (gt_rm 6 130) (D, vwCl, cI, cZ) 4) (hRet : ∀ (pc : Nat) (lv : Nat → Option ga_V) (σ' : ga_S) (z : Int), decode cX5_component pc = .ok (.ireturn, 1) → z = res → (σ' = σ) → ga_G X 0 0 K pc lv [.inl z] σ') (hr0 : r ≠ 0) (ho : (o1 = 1 ∧ o2 = 33) ∨ (o1 = 33 ∧ o2 = 1)) {l1 l2 : Int} {lv : Nat → Option ga_V} (hW : gx_D r o1 o2 T σ) (hl0 : lv 0 = some (.inr r)) (hl1 : lv 1 = some (.inl l1)) (hl2 : lv 2 = some (.inl l2)) (h : fX5_component T l1 l2 = some res) : ga_G X 0 0 K 0 lv [] σ := by
  unfold fX5_component at h
  refine ga_aload_n C dX5_component_0 rfl hl0 hr0 ?_
  refine ga_iload_n C dX5_component_1 rfl hl1 ?_
  obtain ⟨q2, hq, h⟩ := Option.bind_eq_some_iff.mp h
  refine gt_cVi (n := 1) (st := []) C (eX5_hasComponent X.2.1 D cI cZ K hr0 ho hW hq) gX5_component_X5_hasComponent rfl (by decide +kernel) rfl ⟨Nat.le_of_ble_eq_true rfl, Nat.le_of_ble_eq_true rfl⟩ hW.1.1 rfl rfl (Nat.le_of_ble_eq_true rfl) rfl dX5_component_2 (fun σ' hp => ?_)
  subst hp
  refine ga_if_ne (tgt := 12) C dX5_component_5 (by decide) (fun c1 => ?_) (fun c1 => ?_)
  · have h := gt_in h c1
    refine ga_iload_n C dX5_component_12 rfl hl2 ?_
    refine ga_bipush C dX5_component_13 ⟨by decide, by decide⟩ (by decide) ?_
    refine ga_icmp_lt (tgt := 47) C dX5_component_15 (by decide) (fun c1 => ?_) (fun c1 => ?_)
    · have h := gt_ip h c1
      refine ga_iload_n C dX5_component_47 rfl hl1 ?_
      refine ga_aload_n C dX5_component_48 rfl hl0 hr0 ?_
      refine gt_geta C (iX5_component_X5) hW.1 1 rfl rfl (by decide) kX5_component_16 dX5_component_49 ?_
      refine gt_geta C (iX5_component_X0) hW.2.2.2.2.2.2.2.2.2 4 rfl rfl (by decide) kX5_component_61 dX5_component_52 ?_
      obtain ⟨q55, hq, h⟩ := Option.bind_eq_some_iff.mp h
      refine gt_cVi (n := 0) (st := [.inl l1]) C (eX3_count X.2.1 D cI cZ K (Nat.succ_ne_zero _) hW.2.2.2.2.2.2.1 hq) gX5_component_X3_count rfl (by decide +kernel) rfl ⟨Nat.le_of_ble_eq_true rfl, Nat.le_of_ble_eq_true rfl⟩ hW.2.2.2.2.2.2.1.1 rfl rfl (Nat.le_of_ble_eq_true rfl) rfl dX5_component_55 (fun σ' hp => ?_)
      subst hp
      refine ga_icmp_lt (tgt := 79) C dX5_component_58 (by decide) (fun c1 => ?_) (fun c1 => ?_)
      · have h := gt_ip h c1
        refine ga_iload_n C dX5_component_79 rfl hl2 ?_
        by_cases c1 : l2 = 0
        · have h := gt_ip h c1
          refine ga_tabIn (tgt := 112) C dX5_component_80 (by rw [c1]; decide) (by rw [c1]; decide) (by rw [c1]; rfl) (by decide) ?_
          refine ga_aload_n C dX5_component_112 rfl hl0 hr0 ?_
          refine gt_geta C (iX5_component_X5) hW.1 1 rfl rfl (by decide) kX5_component_16 dX5_component_113 ?_
          refine gt_geta C (iX5_component_X0) hW.2.2.2.2.2.2.2.2.2 1 rfl rfl (by decide) kX5_component_52 dX5_component_116 ?_
          refine ga_aload_n C dX5_component_119 rfl hl0 hr0 ?_
          refine gt_geta C (iX5_component_X5) hW.1 1 rfl rfl (by decide) kX5_component_16 dX5_component_120 ?_
          refine gt_geta C (iX5_component_X0) hW.2.2.2.2.2.2.2.2.2 4 rfl rfl (by decide) kX5_component_61 dX5_component_123 ?_
          refine ga_iload_n C dX5_component_126 rfl hl1 ?_
          obtain ⟨q127, hq, h⟩ := Option.bind_eq_some_iff.mp h
          refine gt_cVi (n := 1) (st := [.inr ((r + o2) + 4)]) C (eX3_first X.2.1 D cI cZ K (Nat.succ_ne_zero _) hW.2.2.2.2.2.2.1 hq) gX5_component_X3_first rfl (by decide +kernel) rfl ⟨Nat.le_of_ble_eq_true rfl, Nat.le_of_ble_eq_true rfl⟩ hW.2.2.2.2.2.2.1.1 rfl rfl (Nat.le_of_ble_eq_true rfl) rfl dX5_component_127 (fun σ' hp => ?_)
          subst hp
          obtain ⟨q130, hq, h⟩ := Option.bind_eq_some_iff.mp h
          refine gt_cVi (n := 1) (st := []) C (eX1_label X.2.1 D cI cZ K (Nat.succ_ne_zero _) hW.2.2.2.1 hq) gX5_component_X1_label rfl (by decide +kernel) rfl ⟨Nat.le_of_ble_eq_true rfl, Nat.le_of_ble_eq_true rfl⟩ hW.2.2.2.1.1 rfl rfl (Nat.le_of_ble_eq_true rfl) rfl dX5_component_130 (fun σ' hp => ?_)
          subst hp
          cases h
          exact hRet _ _ _ _ dX5_component_133 rfl rfl
        · have h := gt_in h c1
          have c100 := c1
          by_cases c1 : l2 = 1
          · have h := gt_ip h c1
            refine ga_tabIn (tgt := 134) C dX5_component_80 (by rw [c1]; decide) (by rw [c1]; decide) (by rw [c1]; rfl) (by decide) ?_
            refine ga_aload_n C dX5_component_134 rfl hl0 hr0 ?_
            refine gt_geta C (iX5_component_X5) hW.1 1 rfl rfl (by decide) kX5_component_16 dX5_component_135 ?_
            refine gt_geta C (iX5_component_X0) hW.2.2.2.2.2.2.2.2.2 4 rfl rfl (by decide) kX5_component_61 dX5_component_138 ?_
            refine ga_iload_n C dX5_component_141 rfl hl1 ?_
            obtain ⟨q142, hq, h⟩ := Option.bind_eq_some_iff.mp h
            refine gt_cVi (n := 1) (st := []) C (eX3_size X.2.1 D cI cZ K (Nat.succ_ne_zero _) hW.2.2.2.2.2.2.1 hq) gX5_component_X3_size rfl (by decide +kernel) rfl ⟨Nat.le_of_ble_eq_true rfl, Nat.le_of_ble_eq_true rfl⟩ hW.2.2.2.2.2.2.1.1 rfl rfl (Nat.le_of_ble_eq_true rfl) rfl dX5_component_142 (fun σ' hp => ?_)
            subst hp
            cases h
            exact hRet _ _ _ _ dX5_component_145 rfl rfl
          · have h := gt_in h c1
            have c101 := c1
            by_cases c1 : l2 = 2
            · have h := gt_ip h c1
              refine ga_tabIn (tgt := 146) C dX5_component_80 (by rw [c1]; decide) (by rw [c1]; decide) (by rw [c1]; rfl) (by decide) ?_
              refine ga_aload_n C dX5_component_146 rfl hl0 hr0 ?_
              refine gt_geta C (iX5_component_X5) hW.1 1 rfl rfl (by decide) kX5_component_16 dX5_component_147 ?_
              refine ga_iload_n C dX5_component_150 rfl hl1 ?_
              obtain ⟨q151, hq, h⟩ := Option.bind_eq_some_iff.mp h
              refine gt_cVi (n := 1) (st := []) C (eX0_sumOfOwnSigns X.2.1 D cI cZ K (by omega) hW.2.2 hq) gX5_component_X0_sumOfOwnSigns rfl (by decide +kernel) rfl ⟨Nat.le_of_ble_eq_true rfl, Nat.le_of_ble_eq_true rfl⟩ hW.2.2.2.2.2.2.2.2.2.1 rfl rfl (Nat.le_of_ble_eq_true rfl) rfl dX5_component_151 (fun σ' hp => ?_)
              subst hp
              cases h
              exact hRet _ _ _ _ dX5_component_154 rfl rfl
            · have h := gt_in h c1
              have c102 := c1
              by_cases c1 : l2 = 3
              · have h := gt_ip h c1
                refine ga_tabIn (tgt := 155) C dX5_component_80 (by rw [c1]; decide) (by rw [c1]; decide) (by rw [c1]; rfl) (by decide) ?_
                refine ga_aload_n C dX5_component_155 rfl hl0 hr0 ?_
                refine gt_geta C (iX5_component_X5) hW.1 1 rfl rfl (by decide) kX5_component_16 dX5_component_156 ?_
                refine ga_iload_n C dX5_component_159 rfl hl1 ?_
                obtain ⟨q160, hq, h⟩ := Option.bind_eq_some_iff.mp h
                refine gt_cVi (n := 1) (st := []) C (eX0_pieceOfComponent X.2.1 D cI cZ K (by omega) hW.2.2 hq) gX5_component_X0_pieceOfComponent rfl (by decide +kernel) rfl ⟨Nat.le_of_ble_eq_true rfl, Nat.le_of_ble_eq_true rfl⟩ hW.2.2.2.2.2.2.2.2.2.1 rfl rfl (Nat.le_of_ble_eq_true rfl) rfl dX5_component_160 (fun σ' hp => ?_)
                subst hp
                cases h
                exact hRet _ _ _ _ dX5_component_163 rfl rfl
              · have h := gt_in h c1
                have c103 := c1
                refine ga_tabOut (tgt := 164) C dX5_component_80 (by omega) (by decide) ?_
                refine ga_sipush C dX5_component_164 ⟨by decide, by decide⟩ (by decide) ?_
                cases h
                exact hRet _ _ _ _ dX5_component_167 rfl rfl
      · have h := gt_in h c1
        refine ga_aload_n C dX5_component_61 rfl hl0 hr0 ?_
        refine ga_iload_n C dX5_component_62 rfl hl1 ?_
        refine ga_aload_n C dX5_component_63 rfl hl0 hr0 ?_
        refine gt_geta C (iX5_component_X5) hW.1 1 rfl rfl (by decide) kX5_component_16 dX5_component_64 ?_
        refine gt_geta C (iX5_component_X0) hW.2.2.2.2.2.2.2.2.2 4 rfl rfl (by decide) kX5_component_61 dX5_component_67 ?_
        obtain ⟨q70, hq, h⟩ := Option.bind_eq_some_iff.mp h
        refine gt_cVi (n := 0) (st := [.inl l1, .inr r]) C (eX3_count X.2.1 D cI cZ K (Nat.succ_ne_zero _) hW.2.2.2.2.2.2.1 hq) gX5_component_X3_count rfl (by decide +kernel) rfl ⟨Nat.le_of_ble_eq_true rfl, Nat.le_of_ble_eq_true rfl⟩ hW.2.2.2.2.2.2.1.1 rfl rfl (Nat.le_of_ble_eq_true rfl) rfl dX5_component_70 (fun σ' hp => ?_)
        subst hp
        obtain ⟨hg, h⟩ := gt_gd h
        have g73_0 := hg
        refine ga_isub C dX5_component_73 g73_0 ?_
        refine ga_iload_n C dX5_component_74 rfl hl2 ?_
        obtain ⟨q75, hq, h⟩ := Option.bind_eq_some_iff.mp h
        refine gt_cVi (n := 2) (st := []) C (eX5_tellCircle X.2.1 D cI cZ K hr0 ho hW hq) gX5_component_X5_tellCircle rfl (by decide +kernel) rfl ⟨Nat.le_of_ble_eq_true rfl, Nat.le_of_ble_eq_true rfl⟩ hW.1.1 rfl rfl (Nat.le_of_ble_eq_true rfl) rfl dX5_component_75 (fun σ' hp => ?_)
        subst hp
        cases h
        exact hRet _ _ _ _ dX5_component_78 rfl rfl
    · have h := gt_in h c1
      obtain ⟨hg, h⟩ := gt_gd h
      have g21_0 := hg
      refine ga_iload_n C dX5_component_18 rfl hl2 ?_
      refine ga_bipush C dX5_component_19 ⟨by decide, by decide⟩ (by decide) ?_
      refine ga_isub C dX5_component_21 g21_0 ?_
      refine ga_istore_n C dX5_component_22 rfl (by decide) ?_
      refine ga_aload_n C dX5_component_23 rfl (gt_un (by decide) hl0) hr0 ?_
      refine ga_iload_n C dX5_component_24 rfl gt_us ?_
      obtain ⟨q25, hq, h⟩ := Option.bind_eq_some_iff.mp h
      refine gt_cVi (n := 1) (st := []) C (eX5_hasComponent X.2.1 D cI cZ K hr0 ho hW hq) gX5_component_X5_hasComponent rfl (by decide +kernel) rfl ⟨Nat.le_of_ble_eq_true rfl, Nat.le_of_ble_eq_true rfl⟩ hW.1.1 rfl rfl (Nat.le_of_ble_eq_true rfl) rfl dX5_component_25 (fun σ' hp => ?_)
      subst hp
      refine ga_if_eq (tgt := 43) C dX5_component_28 (by decide) (fun c1 => ?_) (fun c1 => ?_)
      · have h := gt_ip h c1
        refine ga_sipush C dX5_component_43 ⟨by decide, by decide⟩ (by decide) ?_
        exact gX5_component_46 C hRet hr0 ho hW h
      · have h := gt_in h c1
        refine ga_aload_n C dX5_component_31 rfl (gt_un (by decide) hl0) hr0 ?_
        refine gt_geta C (iX5_component_X5) hW.1 1 rfl rfl (by decide) kX5_component_16 dX5_component_32 ?_
        refine ga_iload_n C dX5_component_35 rfl (gt_un (by decide) hl1) ?_
        refine ga_iload_n C dX5_component_36 rfl gt_us ?_
        obtain ⟨q37, hq, h⟩ := Option.bind_eq_some_iff.mp h
        refine gt_cVi (n := 2) (st := []) C (eX0_linking X.2.1 D cI cZ K (by omega) hW.2.2 hq) gX5_component_X0_linking rfl (by decide +kernel) rfl ⟨Nat.le_of_ble_eq_true rfl, Nat.le_of_ble_eq_true rfl⟩ hW.2.2.2.2.2.2.2.2.2.1 rfl rfl (Nat.le_of_ble_eq_true rfl) rfl dX5_component_37 (fun σ' hp => ?_)
        subst hp
        refine ga_goto (tgt := 46) C dX5_component_40 (by decide) ?_
        exact gX5_component_46 C hRet hr0 ho hW h
  · have h := gt_ip h c1
    refine ga_sipush C dX5_component_8 ⟨by decide, by decide⟩ (by decide) ?_
    cases h
    exact hRet _ _ _ _ dX5_component_11 rfl rfl
set_option maxHeartbeats 4000000 in
theorem eX5_component (l : Launch) (D : va_G) (cI cZ : ClassId) (K : Nat) {r : Nat} (hr0 : r ≠ 0) {o1 o2 : Nat} (ho : (o1 = 1 ∧ o2 = 33) ∨ (o1 = 33 ∧ o2 = 1)) {σ : ga_S} {T : gx_Dc} (hW : gx_D r o1 o2 T σ) {l1 l2 : Int} {res : Int} (h : fX5_component T l1 l2 = some res) : ga_Ev l (D, vwCl, cI, cZ) yX5_component wsX5_component (gt_rm 6 130) [] 0 0 K [.inr r, .inl l1, .inl l2] σ (fun σ' rv => (σ' = σ) ∧ rv = some (.inl res)) := by
  refine ga_ofI (by decide +kernel) rfl gt_hcl (Nat.le_of_ble_eq_true rfl) (fun X hX C hret => ?_)
  exact gX5_component_0 C (fun pc lv σ' z d hz hp => hret pc lv σ' z d ⟨hp, by rw [hz]⟩) hr0 ho hW rfl rfl rfl h
-- X5_face: face(II)I
def fX5_face_28 (T : gx_Dc) : Option (Int) :=
  some (0 : Int)
def fX5_face_75 (T : gx_Dc) (s0 : Int) : Option (Int) :=
  some s0
def fX5_face (T : gx_Dc) (l1 l2 : Int) : Option (Int) :=
  (fX3_size T.2.1.2.2.2.2.2.2.1 l1).bind (fun (q8 : Int) => (if l2 = (-1 : Int) then some q8 else (if l2 < 0 then fX5_face_28 T else (if l2 < q8 then (fX3_member T.2.1.2.2.2.2.2.2.1 l1 l2).bind (fun (q39 : Int) => (fX1_label T.2.1.2.1 (Int.tdiv q39 (2 : Int))).bind (fun (q55 : Int) => (if 0 ≤ q39 then (if (q39 % (2 : Int)) = 0 then fX5_face_75 T q55 else (if (-2147483648 ≤ (-q55) ∧ (-q55) < 2147483648) then fX5_face_75 T (-q55) else none)) else none))) else fX5_face_28 T))))
theorem iX5_face_X0 : ∀ w ∈ u_ws RX0 TX0 9, w ∈ wsX5_face := by decide +kernel
theorem iX5_face_X5 : ∀ w ∈ u_ws RX5 TX5 4, w ∈ wsX5_face := by decide +kernel
theorem kX5_face_52 : Cond.fieldLink yX5_face.cls 52 (TX0 1).1 (TX0 1).2.1 (TX0 1).2.2.1 ∈ wsX5_face := by decide +kernel
theorem kX5_face_78 : Cond.fieldLink yX5_face.cls 78 (TX0 6).1 (TX0 6).2.1 (TX0 6).2.2.1 ∈ wsX5_face := by decide +kernel
theorem kX5_face_16 : Cond.fieldLink yX5_face.cls 16 (TX5 1).1 (TX5 1).2.1 (TX5 1).2.2.1 ∈ wsX5_face := by decide +kernel
set_option maxHeartbeats 4000000 in
theorem gX5_face_28 {X : ga_X} {D : va_G} {cI cZ : ClassId} {K : Nat} {r : Nat} {o1 o2 : Nat} {res : Int} {T : gx_Dc} {σ : ga_S} (C : ga_C X cX5_face yX5_face wsX5_face [] (gt_rm 3 66) (D, vwCl, cI, cZ) 6) (hRet : ∀ (pc : Nat) (lv : Nat → Option ga_V) (σ' : ga_S) (z : Int), decode cX5_face pc = .ok (.ireturn, 1) → z = res → (σ' = σ) → ga_G X 0 0 K pc lv [.inl z] σ') (hr0 : r ≠ 0) (ho : (o1 = 1 ∧ o2 = 33) ∨ (o1 = 33 ∧ o2 = 1)) {lv : Nat → Option ga_V} (hW : gx_D r o1 o2 T σ) (h : fX5_face_28 T = some res) : ga_G X 0 0 K 28 lv [] σ := by
  unfold fX5_face_28 at h
  refine ga_iconst C dX5_face_28 ⟨by decide, by decide⟩ ?_
  cases h
  exact hRet _ _ _ _ dX5_face_29 rfl rfl
set_option maxHeartbeats 4000000 in
theorem gX5_face_75 {X : ga_X} {D : va_G} {cI cZ : ClassId} {K : Nat} {r : Nat} {o1 o2 : Nat} {res : Int} {T : gx_Dc} {σ : ga_S} (C : ga_C X cX5_face yX5_face wsX5_face [] (gt_rm 3 66) (D, vwCl, cI, cZ) 6) (hRet : ∀ (pc : Nat) (lv : Nat → Option ga_V) (σ' : ga_S) (z : Int), decode cX5_face pc = .ok (.ireturn, 1) → z = res → (σ' = σ) → ga_G X 0 0 K pc lv [.inl z] σ') (hr0 : r ≠ 0) (ho : (o1 = 1 ∧ o2 = 33) ∨ (o1 = 33 ∧ o2 = 1)) {s0 : Int} {lv : Nat → Option ga_V} (hW : gx_D r o1 o2 T σ) (h : fX5_face_75 T s0 = some res) : ga_G X 0 0 K 75 lv [.inl s0] σ := by
  unfold fX5_face_75 at h
  cases h
  exact hRet _ _ _ _ dX5_face_75 rfl rfl
set_option maxHeartbeats 4000000 in
theorem gX5_face_0 {X : ga_X} {D : va_G} {cI cZ : ClassId} {K : Nat} {r : Nat} {o1 o2 : Nat} {res : Int} {T : gx_Dc} {σ : ga_S} (C : ga_C X cX5_face yX5_face wsX5_face [] (gt_rm 3 66) (D, vwCl, cI, cZ) 6) (hRet : ∀ (pc : Nat) (lv : Nat → Option ga_V) (σ' : ga_S) (z : Int), decode cX5_face pc = .ok (.ireturn, 1) → z = res → (σ' = σ) → ga_G X 0 0 K pc lv [.inl z] σ') (hr0 : r ≠ 0) (ho : (o1 = 1 ∧ o2 = 33) ∨ (o1 = 33 ∧ o2 = 1)) {l1 l2 : Int} {lv : Nat → Option ga_V} (hW : gx_D r o1 o2 T σ) (hl0 : lv 0 = some (.inr r)) (hl1 : lv 1 = some (.inl l1)) (hl2 : lv 2 = some (.inl l2)) (h : fX5_face T l1 l2 = some res) : ga_G X 0 0 K 0 lv [] σ := by
  unfold fX5_face at h
  refine ga_aload_n C dX5_face_0 rfl hl0 hr0 ?_
  refine gt_geta C (iX5_face_X5) hW.1 1 rfl rfl (by decide) kX5_face_16 dX5_face_1 ?_
  refine gt_geta C (iX5_face_X0) hW.2.2.2.2.2.2.2.2.2 6 rfl rfl (by decide) kX5_face_78 dX5_face_4 ?_
  refine ga_iload_n C dX5_face_7 rfl hl1 ?_
  obtain ⟨q8, hq, h⟩ := Option.bind_eq_some_iff.mp h
  refine gt_cVi (n := 1) (st := []) C (eX3_size X.2.1 D cI cZ K (Nat.succ_ne_zero _) hW.2.2.2.2.2.2.2.2.1 hq) gX5_face_X3_size rfl (by decide +kernel) rfl ⟨Nat.le_of_ble_eq_true rfl, Nat.le_of_ble_eq_true rfl⟩ hW.2.2.2.2.2.2.2.2.1.1 rfl rfl (Nat.le_of_ble_eq_true rfl) rfl dX5_face_8 (fun σ' hp => ?_)
  subst hp
  refine ga_istore_n C dX5_face_11 rfl (by decide) ?_
  refine ga_iload_n C dX5_face_12 rfl (gt_un (by decide) hl2) ?_
  refine ga_iconst C dX5_face_13 ⟨by decide, by decide⟩ ?_
  refine ga_icmp_ne (tgt := 19) C dX5_face_14 (by decide) (fun c1 => ?_) (fun c1 => ?_)
  · have h := gt_in h c1
    refine ga_iload_n C dX5_face_19 rfl (gt_un (by decide) hl2) ?_
    refine ga_if_lt (tgt := 28) C dX5_face_20 (by decide) (fun c1 => ?_) (fun c1 => ?_)
    · have h := gt_ip h c1
      exact gX5_face_28 C hRet hr0 ho hW h
    · have h := gt_in h c1
      refine ga_iload_n C dX5_face_23 rfl (gt_un (by decide) hl2) ?_
      refine ga_iload_n C dX5_face_24 rfl gt_us ?_
      refine ga_icmp_lt (tgt := 30) C dX5_face_25 (by decide) (fun c1 => ?_) (fun c1 => ?_)
      · have h := gt_ip h c1
        refine ga_aload_n C dX5_face_30 rfl (gt_un (by decide) hl0) hr0 ?_
        refine gt_geta C (iX5_face_X5) hW.1 1 rfl rfl (by decide) kX5_face_16 dX5_face_31 ?_
        refine gt_geta C (iX5_face_X0) hW.2.2.2.2.2.2.2.2.2 6 rfl rfl (by decide) kX5_face_78 dX5_face_34 ?_
        refine ga_iload_n C dX5_face_37 rfl (gt_un (by decide) hl1) ?_
        refine ga_iload_n C dX5_face_38 rfl (gt_un (by decide) hl2) ?_
        obtain ⟨q39, hq, h⟩ := Option.bind_eq_some_iff.mp h
        refine gt_cVi (n := 2) (st := []) C (eX3_member X.2.1 D cI cZ K (Nat.succ_ne_zero _) hW.2.2.2.2.2.2.2.2.1 hq) gX5_face_X3_member rfl (by decide +kernel) rfl ⟨Nat.le_of_ble_eq_true rfl, Nat.le_of_ble_eq_true rfl⟩ hW.2.2.2.2.2.2.2.2.1.1 rfl rfl (Nat.le_of_ble_eq_true rfl) rfl dX5_face_39 (fun σ' hp => ?_)
        subst hp
        refine ga_istore C dX5_face_42 (by decide) ?_
        refine ga_aload_n C dX5_face_44 rfl (gt_un (by decide) (gt_un (by decide) hl0)) hr0 ?_
        refine gt_geta C (iX5_face_X5) hW.1 1 rfl rfl (by decide) kX5_face_16 dX5_face_45 ?_
        refine gt_geta C (iX5_face_X0) hW.2.2.2.2.2.2.2.2.2 1 rfl rfl (by decide) kX5_face_52 dX5_face_48 ?_
        refine ga_iload C dX5_face_51 gt_us ?_
        refine ga_iconst C dX5_face_53 ⟨by decide, by decide⟩ ?_
        refine ga_idiv C dX5_face_54 (by decide) ?_
        obtain ⟨q55, hq, h⟩ := Option.bind_eq_some_iff.mp h
        refine gt_cVi (n := 1) (st := []) C (eX1_label X.2.1 D cI cZ K (Nat.succ_ne_zero _) hW.2.2.2.1 hq) gX5_face_X1_label rfl (by decide +kernel) rfl ⟨Nat.le_of_ble_eq_true rfl, Nat.le_of_ble_eq_true rfl⟩ hW.2.2.2.1.1 rfl rfl (Nat.le_of_ble_eq_true rfl) rfl dX5_face_55 (fun σ' hp => ?_)
        subst hp
        obtain ⟨hg, h⟩ := gt_gd h
        have g63_0 := hg
        refine ga_istore C dX5_face_58 (by decide) ?_
        refine ga_iload C dX5_face_60 (gt_un (by decide) gt_us) ?_
        refine ga_iconst C dX5_face_62 ⟨by decide, by decide⟩ ?_
        refine ga_irem C dX5_face_63 (by decide) g63_0 ?_
        refine ga_if_ne (tgt := 72) C dX5_face_64 (by decide) (fun c1 => ?_) (fun c1 => ?_)
        · have h := gt_in h c1
          obtain ⟨hg, h⟩ := gt_gd h
          have g74_0 := hg
          refine ga_iload C dX5_face_72 gt_us ?_
          refine ga_ineg C dX5_face_74 g74_0 ?_
          exact gX5_face_75 C hRet hr0 ho hW h
        · have h := gt_ip h c1
          refine ga_iload C dX5_face_67 gt_us ?_
          refine ga_goto (tgt := 75) C dX5_face_69 (by decide) ?_
          exact gX5_face_75 C hRet hr0 ho hW h
      · have h := gt_in h c1
        exact gX5_face_28 C hRet hr0 ho hW h
  · have h := gt_ip h c1
    refine ga_iload_n C dX5_face_17 rfl gt_us ?_
    cases h
    exact hRet _ _ _ _ dX5_face_18 rfl rfl
set_option maxHeartbeats 4000000 in
theorem eX5_face (l : Launch) (D : va_G) (cI cZ : ClassId) (K : Nat) {r : Nat} (hr0 : r ≠ 0) {o1 o2 : Nat} (ho : (o1 = 1 ∧ o2 = 33) ∨ (o1 = 33 ∧ o2 = 1)) {σ : ga_S} {T : gx_Dc} (hW : gx_D r o1 o2 T σ) {l1 l2 : Int} {res : Int} (h : fX5_face T l1 l2 = some res) : ga_Ev l (D, vwCl, cI, cZ) yX5_face wsX5_face (gt_rm 3 66) [] 0 0 K [.inr r, .inl l1, .inl l2] σ (fun σ' rv => (σ' = σ) ∧ rv = some (.inl res)) := by
  refine ga_ofI (by decide +kernel) rfl gt_hcl (Nat.le_of_ble_eq_true rfl) (fun X hX C hret => ?_)
  exact gX5_face_0 C (fun pc lv σ' z d hz hp => hret pc lv σ' z d ⟨hp, by rw [hz]⟩) hr0 ho hW rfl rfl rfl h
-- X5_mirror: mirror()V
def fX5_mirror (T : gx_Dc) : Option (gx_Dc) :=
  (fX4_exchangeAllStrands T.2.1.1).bind (fun (q7 : gt_T) => (fX0_survey (q7, T.2.1.2.1, T.2.1.2.2.1, T.2.1.2.2.2.1, T.2.1.2.2.2.2.1, T.2.1.2.2.2.2.2.1, T.2.1.2.2.2.2.2.2.1, T.2.1.2.2.2.2.2.2.2)).bind (fun (q14 : gx_Ch × Int) => some ((T.1.1, T.1.2.1, T.1.2.2.1, T.1.2.2.2.1, T.1.2.2.2.2.1, T.1.2.2.2.2.2.1, T.1.2.2.2.2.2.2.1, T.1.2.2.2.2.2.2.2), (q14.1.1, q14.1.2.1, q14.1.2.2.1, q14.1.2.2.2.1, q14.1.2.2.2.2.1, q14.1.2.2.2.2.2.1, q14.1.2.2.2.2.2.2.1, q14.1.2.2.2.2.2.2.2), T.2.2)))
theorem iX5_mirror_X0 : ∀ w ∈ u_ws RX0 TX0 9, w ∈ wsX5_mirror := by decide +kernel
theorem iX5_mirror_X5 : ∀ w ∈ u_ws RX5 TX5 4, w ∈ wsX5_mirror := by decide +kernel
theorem kX5_mirror_30 : Cond.fieldLink yX5_mirror.cls 30 (TX0 0).1 (TX0 0).2.1 (TX0 0).2.2.1 ∈ wsX5_mirror := by decide +kernel
theorem kX5_mirror_16 : Cond.fieldLink yX5_mirror.cls 16 (TX5 1).1 (TX5 1).2.1 (TX5 1).2.2.1 ∈ wsX5_mirror := by decide +kernel
set_option maxHeartbeats 4000000 in
theorem gX5_mirror_0 {X : ga_X} {D : va_G} {cI cZ : ClassId} {K : Nat} {r : Nat} {σ0 : ga_S} {o1 o2 : Nat} {res : gx_Dc} (C : ga_C X cX5_mirror yX5_mirror wsX5_mirror [] (gt_rm 6 127) (D, vwCl, cI, cZ) 1) (hRet : ∀ (pc : Nat) (lv : Nat → Option ga_V) (σ' : ga_S), decode cX5_mirror pc = .ok (.return_, 1) → (gx_D r o1 o2 res σ' ∧ gt_F r (r + 65) σ0 σ') → ga_G X 0 0 K pc lv [] σ') (hr0 : r ≠ 0) (ho : (o1 = 1 ∧ o2 = 33) ∨ (o1 = 33 ∧ o2 = 1)) {T : gx_Dc} {σ : ga_S} {lv : Nat → Option ga_V} (hW : gx_D r o1 o2 T σ) (hF : gt_F r (r + 65) σ0 σ) (hl0 : lv 0 = some (.inr r)) (h : fX5_mirror T = some res) : ga_G X 0 0 K 0 lv [] σ := by
  unfold fX5_mirror at h
  refine ga_aload_n C dX5_mirror_0 rfl hl0 hr0 ?_
  refine gt_geta C (iX5_mirror_X5) hW.1 1 rfl rfl (by decide) kX5_mirror_16 dX5_mirror_1 ?_
  refine gt_geta C (iX5_mirror_X0) hW.2.2.2.2.2.2.2.2.2 0 rfl rfl (by decide) kX5_mirror_30 dX5_mirror_4 ?_
  obtain ⟨q7, hq, h⟩ := Option.bind_eq_some_iff.mp h
  refine gt_cVv (n := 0) (st := []) C (eX4_exchangeAllStrands X.2.1 D cI cZ K (Nat.succ_ne_zero _) hW.2.2.1 hq) gX5_mirror_X4_exchangeAllStrands rfl (by decide +kernel) rfl ⟨Nat.le_of_ble_eq_true rfl, Nat.le_of_ble_eq_true rfl⟩ hW.2.2.1.1 rfl rfl (Nat.le_of_ble_eq_true rfl) rfl dX5_mirror_7 (fun σ' hp => ?_)
  obtain ⟨hw, hf⟩ := hp
  have hW := gx_DH ho hW (gx_W0 hW.2.2 hw hf) (gt_F.rf.tr hf (by omega) (by omega))
  have hF := hF.tr hf (by omega) (by omega)
  clear hf
  refine ga_aload_n C dX5_mirror_10 rfl hl0 hr0 ?_
  refine gt_geta C (iX5_mirror_X5) hW.1 1 rfl rfl (by decide) kX5_mirror_16 dX5_mirror_11 ?_
  obtain ⟨q14, hq, h⟩ := Option.bind_eq_some_iff.mp h
  refine gt_cVi (n := 0) (st := []) C (eX0_survey X.2.1 D cI cZ K (by omega) hW.2.2 hq) gX5_mirror_X0_survey rfl (by decide +kernel) rfl ⟨Nat.le_of_ble_eq_true rfl, Nat.le_of_ble_eq_true rfl⟩ hW.2.2.2.2.2.2.2.2.2.1 rfl rfl (Nat.le_of_ble_eq_true rfl) rfl dX5_mirror_14 (fun σ' hp => ?_)
  obtain ⟨hw, hf⟩ := hp
  have hW := gx_DH ho hW hw hf
  have hF := hF.tr hf (by omega) (by omega)
  clear hf
  refine ga_pop C dX5_mirror_17 ?_
  cases h
  exact hRet _ _ _ dX5_mirror_18 ⟨hW, hF⟩
set_option maxHeartbeats 4000000 in
theorem eX5_mirror (l : Launch) (D : va_G) (cI cZ : ClassId) (K : Nat) {r : Nat} (hr0 : r ≠ 0) {o1 o2 : Nat} (ho : (o1 = 1 ∧ o2 = 33) ∨ (o1 = 33 ∧ o2 = 1)) {σ : ga_S} {T : gx_Dc} (hW : gx_D r o1 o2 T σ) {res : gx_Dc} (h : fX5_mirror T = some res) : ga_Ev l (D, vwCl, cI, cZ) yX5_mirror wsX5_mirror (gt_rm 6 127) [] 0 0 K [.inr r] σ (fun σ' rv => (gx_D r o1 o2 res σ' ∧ gt_F r (r + 65) σ σ') ∧ rv = none) := by
  refine ga_ofV (by decide +kernel) rfl gt_hcl (Nat.le_of_ble_eq_true rfl) (fun X hX C hret => ?_)
  exact gX5_mirror_0 C (fun pc lv σ' d hp => hret pc lv σ' d ⟨hp, rfl⟩) hr0 ho hW gt_F.rf rfl h
-- X5_reverse: reverse(I)Z
def fX5_reverse (T : gx_Dc) (l1 : Int) : Option (gx_Dc × Int) :=
  (fX5_hasComponent ((T.1.1, T.1.2.1, T.1.2.2.1, T.1.2.2.2.1, T.1.2.2.2.2.1, T.1.2.2.2.2.2.1, T.1.2.2.2.2.2.2.1, T.1.2.2.2.2.2.2.2), (T.2.1.1, T.2.1.2.1, T.2.1.2.2.1, T.2.1.2.2.2.1, T.2.1.2.2.2.2.1, T.2.1.2.2.2.2.2.1, T.2.1.2.2.2.2.2.2.1, T.2.1.2.2.2.2.2.2.2), T.2.2) l1).bind (fun (q2 : Int) => (if q2 = 0 then (if ((0 : Int) = 0 ∨ (0 : Int) = 1) then some (((T.1.1, T.1.2.1, T.1.2.2.1, T.1.2.2.2.1, T.1.2.2.2.2.1, T.1.2.2.2.2.2.1, T.1.2.2.2.2.2.2.1, T.1.2.2.2.2.2.2.2), (T.2.1.1, T.2.1.2.1, T.2.1.2.2.1, T.2.1.2.2.2.1, T.2.1.2.2.2.2.1, T.2.1.2.2.2.2.2.1, T.2.1.2.2.2.2.2.2.1, T.2.1.2.2.2.2.2.2.2), T.2.2), (0 : Int)) else none) else (fX0_turnComponent (T.2.1.1, T.2.1.2.1, T.2.1.2.2.1, T.2.1.2.2.2.1, T.2.1.2.2.2.2.1, T.2.1.2.2.2.2.2.1, T.2.1.2.2.2.2.2.2.1, T.2.1.2.2.2.2.2.2.2) l1).bind (fun (q15 : gx_Ch) => (fX0_survey (q15.1, q15.2.1, q15.2.2.1, q15.2.2.2.1, q15.2.2.2.2.1, q15.2.2.2.2.2.1, q15.2.2.2.2.2.2.1, q15.2.2.2.2.2.2.2)).bind (fun (q22 : gx_Ch × Int) => (if ((1 : Int) = 0 ∨ (1 : Int) = 1) then some (((T.1.1, T.1.2.1, T.1.2.2.1, T.1.2.2.2.1, T.1.2.2.2.2.1, T.1.2.2.2.2.2.1, T.1.2.2.2.2.2.2.1, T.1.2.2.2.2.2.2.2), (q22.1.1, q22.1.2.1, q22.1.2.2.1, q22.1.2.2.2.1, q22.1.2.2.2.2.1, q22.1.2.2.2.2.2.1, q22.1.2.2.2.2.2.2.1, q22.1.2.2.2.2.2.2.2), T.2.2), (1 : Int)) else none)))))
theorem iX5_reverse_X5 : ∀ w ∈ u_ws RX5 TX5 4, w ∈ wsX5_reverse := by decide +kernel
theorem kX5_reverse_16 : Cond.fieldLink yX5_reverse.cls 16 (TX5 1).1 (TX5 1).2.1 (TX5 1).2.2.1 ∈ wsX5_reverse := by decide +kernel
set_option maxHeartbeats 4000000 in
theorem gX5_reverse_0 {X : ga_X} {D : va_G} {cI cZ : ClassId} {K : Nat} {r : Nat} {σ0 : ga_S} {o1 o2 : Nat} {res : gx_Dc × Int} (C : ga_C X cX5_reverse yX5_reverse wsX5_reverse [] (gt_rm 6 127) (D, vwCl, cI, cZ) 2) (hRet : ∀ (pc : Nat) (lv : Nat → Option ga_V) (σ' : ga_S) (z : Int), decode cX5_reverse pc = .ok (.ireturn, 1) → (z = 0 ∨ z = 1) → z = res.2 → (gx_D r o1 o2 res.1 σ' ∧ gt_F r (r + 65) σ0 σ') → ga_G X 0 0 K pc lv [.inl z] σ') (hr0 : r ≠ 0) (ho : (o1 = 1 ∧ o2 = 33) ∨ (o1 = 33 ∧ o2 = 1)) {T : gx_Dc} {σ : ga_S} {l1 : Int} {lv : Nat → Option ga_V} (hW : gx_D r o1 o2 T σ) (hF : gt_F r (r + 65) σ0 σ) (hl0 : lv 0 = some (.inr r)) (hl1 : lv 1 = some (.inl l1)) (h : fX5_reverse T l1 = some res) : ga_G X 0 0 K 0 lv [] σ := by
  unfold fX5_reverse at h
  refine ga_aload_n C dX5_reverse_0 rfl hl0 hr0 ?_
  refine ga_iload_n C dX5_reverse_1 rfl hl1 ?_
  obtain ⟨q2, hq, h⟩ := Option.bind_eq_some_iff.mp h
  refine gt_cVi (n := 1) (st := []) C (eX5_hasComponent X.2.1 D cI cZ K hr0 ho hW hq) gX5_reverse_X5_hasComponent rfl (by decide +kernel) rfl ⟨Nat.le_of_ble_eq_true rfl, Nat.le_of_ble_eq_true rfl⟩ hW.1.1 rfl rfl (Nat.le_of_ble_eq_true rfl) rfl dX5_reverse_2 (fun σ' hp => ?_)
  subst hp
  refine ga_if_ne (tgt := 10) C dX5_reverse_5 (by decide) (fun c1 => ?_) (fun c1 => ?_)
  · have h := gt_in h c1
    refine ga_aload_n C dX5_reverse_10 rfl hl0 hr0 ?_
    refine gt_geta C (iX5_reverse_X5) hW.1 1 rfl rfl (by decide) kX5_reverse_16 dX5_reverse_11 ?_
    refine ga_iload_n C dX5_reverse_14 rfl hl1 ?_
    obtain ⟨q15, hq, h⟩ := Option.bind_eq_some_iff.mp h
    refine gt_cVv (n := 1) (st := []) C (eX0_turnComponent X.2.1 D cI cZ K (by omega) hW.2.2 hq) gX5_reverse_X0_turnComponent rfl (by decide +kernel) rfl ⟨Nat.le_of_ble_eq_true rfl, Nat.le_of_ble_eq_true rfl⟩ hW.2.2.2.2.2.2.2.2.2.1 rfl rfl (Nat.le_of_ble_eq_true rfl) rfl dX5_reverse_15 (fun σ' hp => ?_)
    obtain ⟨hw, hf⟩ := hp
    have hW := gx_DH ho hW hw hf
    have hF := hF.tr hf (by omega) (by omega)
    clear hf
    refine ga_aload_n C dX5_reverse_18 rfl hl0 hr0 ?_
    refine gt_geta C (iX5_reverse_X5) hW.1 1 rfl rfl (by decide) kX5_reverse_16 dX5_reverse_19 ?_
    obtain ⟨q22, hq, h⟩ := Option.bind_eq_some_iff.mp h
    refine gt_cVi (n := 0) (st := []) C (eX0_survey X.2.1 D cI cZ K (by omega) hW.2.2 hq) gX5_reverse_X0_survey rfl (by decide +kernel) rfl ⟨Nat.le_of_ble_eq_true rfl, Nat.le_of_ble_eq_true rfl⟩ hW.2.2.2.2.2.2.2.2.2.1 rfl rfl (Nat.le_of_ble_eq_true rfl) rfl dX5_reverse_22 (fun σ' hp => ?_)
    obtain ⟨hw, hf⟩ := hp
    have hW := gx_DH ho hW hw hf
    have hF := hF.tr hf (by omega) (by omega)
    clear hf
    obtain ⟨hg, h⟩ := gt_gd h
    have g27_0 := hg
    refine ga_pop C dX5_reverse_25 ?_
    refine ga_iconst C dX5_reverse_26 ⟨by decide, by decide⟩ ?_
    cases h
    exact hRet _ _ _ _ dX5_reverse_27 g27_0 rfl ⟨hW, hF⟩
  · have h := gt_ip h c1
    obtain ⟨hg, h⟩ := gt_gd h
    have g9_0 := hg
    refine ga_iconst C dX5_reverse_8 ⟨by decide, by decide⟩ ?_
    cases h
    exact hRet _ _ _ _ dX5_reverse_9 g9_0 rfl ⟨hW, hF⟩
set_option maxHeartbeats 4000000 in
theorem eX5_reverse (l : Launch) (D : va_G) (cI cZ : ClassId) (K : Nat) {r : Nat} (hr0 : r ≠ 0) {o1 o2 : Nat} (ho : (o1 = 1 ∧ o2 = 33) ∨ (o1 = 33 ∧ o2 = 1)) {σ : ga_S} {T : gx_Dc} (hW : gx_D r o1 o2 T σ) {l1 : Int} {res : gx_Dc × Int} (h : fX5_reverse T l1 = some res) : ga_Ev l (D, vwCl, cI, cZ) yX5_reverse wsX5_reverse (gt_rm 6 127) [] 0 0 K [.inr r, .inl l1] σ (fun σ' rv => (gx_D r o1 o2 res.1 σ' ∧ gt_F r (r + 65) σ σ') ∧ rv = some (.inl res.2)) := by
  refine ga_ofZ (by decide +kernel) rfl gt_hcl (Nat.le_of_ble_eq_true rfl) (fun X hX C hret => ?_)
  exact gX5_reverse_0 C (fun pc lv σ' z d h01 hz hp => hret pc lv σ' z d h01 ⟨hp, by rw [hz]⟩) hr0 ho hW gt_F.rf rfl rfl h
-- X5_number: number()V
def fX5_number (T : gx_Dc) : Option (gx_Dc) :=
  (fX0_labelAnew (T.2.1.1, T.2.1.2.1, T.2.1.2.2.1, T.2.1.2.2.2.1, T.2.1.2.2.2.2.1, T.2.1.2.2.2.2.2.1, T.2.1.2.2.2.2.2.2.1, T.2.1.2.2.2.2.2.2.2)).bind (fun (q4 : gx_Ch) => (fX0_survey (q4.1, q4.2.1, q4.2.2.1, q4.2.2.2.1, q4.2.2.2.2.1, q4.2.2.2.2.2.1, q4.2.2.2.2.2.2.1, q4.2.2.2.2.2.2.2)).bind (fun (q11 : gx_Ch × Int) => some ((T.1.1, T.1.2.1, T.1.2.2.1, T.1.2.2.2.1, T.1.2.2.2.2.1, T.1.2.2.2.2.2.1, T.1.2.2.2.2.2.2.1, T.1.2.2.2.2.2.2.2), (q11.1.1, q11.1.2.1, q11.1.2.2.1, q11.1.2.2.2.1, q11.1.2.2.2.2.1, q11.1.2.2.2.2.2.1, q11.1.2.2.2.2.2.2.1, q11.1.2.2.2.2.2.2.2), T.2.2)))
theorem iX5_number_X5 : ∀ w ∈ u_ws RX5 TX5 4, w ∈ wsX5_number := by decide +kernel
theorem kX5_number_16 : Cond.fieldLink yX5_number.cls 16 (TX5 1).1 (TX5 1).2.1 (TX5 1).2.2.1 ∈ wsX5_number := by decide +kernel
set_option maxHeartbeats 4000000 in
theorem gX5_number_0 {X : ga_X} {D : va_G} {cI cZ : ClassId} {K : Nat} {r : Nat} {σ0 : ga_S} {o1 o2 : Nat} {res : gx_Dc} (C : ga_C X cX5_number yX5_number wsX5_number [] (gt_rm 6 127) (D, vwCl, cI, cZ) 1) (hRet : ∀ (pc : Nat) (lv : Nat → Option ga_V) (σ' : ga_S), decode cX5_number pc = .ok (.return_, 1) → (gx_D r o1 o2 res σ' ∧ gt_F r (r + 65) σ0 σ') → ga_G X 0 0 K pc lv [] σ') (hr0 : r ≠ 0) (ho : (o1 = 1 ∧ o2 = 33) ∨ (o1 = 33 ∧ o2 = 1)) {T : gx_Dc} {σ : ga_S} {lv : Nat → Option ga_V} (hW : gx_D r o1 o2 T σ) (hF : gt_F r (r + 65) σ0 σ) (hl0 : lv 0 = some (.inr r)) (h : fX5_number T = some res) : ga_G X 0 0 K 0 lv [] σ := by
  unfold fX5_number at h
  refine ga_aload_n C dX5_number_0 rfl hl0 hr0 ?_
  refine gt_geta C (iX5_number_X5) hW.1 1 rfl rfl (by decide) kX5_number_16 dX5_number_1 ?_
  obtain ⟨q4, hq, h⟩ := Option.bind_eq_some_iff.mp h
  refine gt_cVv (n := 0) (st := []) C (eX0_labelAnew X.2.1 D cI cZ K (by omega) hW.2.2 hq) gX5_number_X0_labelAnew rfl (by decide +kernel) rfl ⟨Nat.le_of_ble_eq_true rfl, Nat.le_of_ble_eq_true rfl⟩ hW.2.2.2.2.2.2.2.2.2.1 rfl rfl (Nat.le_of_ble_eq_true rfl) rfl dX5_number_4 (fun σ' hp => ?_)
  obtain ⟨hw, hf⟩ := hp
  have hW := gx_DH ho hW hw hf
  have hF := hF.tr hf (by omega) (by omega)
  clear hf
  refine ga_aload_n C dX5_number_7 rfl hl0 hr0 ?_
  refine gt_geta C (iX5_number_X5) hW.1 1 rfl rfl (by decide) kX5_number_16 dX5_number_8 ?_
  obtain ⟨q11, hq, h⟩ := Option.bind_eq_some_iff.mp h
  refine gt_cVi (n := 0) (st := []) C (eX0_survey X.2.1 D cI cZ K (by omega) hW.2.2 hq) gX5_number_X0_survey rfl (by decide +kernel) rfl ⟨Nat.le_of_ble_eq_true rfl, Nat.le_of_ble_eq_true rfl⟩ hW.2.2.2.2.2.2.2.2.2.1 rfl rfl (Nat.le_of_ble_eq_true rfl) rfl dX5_number_11 (fun σ' hp => ?_)
  obtain ⟨hw, hf⟩ := hp
  have hW := gx_DH ho hW hw hf
  have hF := hF.tr hf (by omega) (by omega)
  clear hf
  refine ga_pop C dX5_number_14 ?_
  cases h
  exact hRet _ _ _ dX5_number_15 ⟨hW, hF⟩
set_option maxHeartbeats 4000000 in
theorem eX5_number (l : Launch) (D : va_G) (cI cZ : ClassId) (K : Nat) {r : Nat} (hr0 : r ≠ 0) {o1 o2 : Nat} (ho : (o1 = 1 ∧ o2 = 33) ∨ (o1 = 33 ∧ o2 = 1)) {σ : ga_S} {T : gx_Dc} (hW : gx_D r o1 o2 T σ) {res : gx_Dc} (h : fX5_number T = some res) : ga_Ev l (D, vwCl, cI, cZ) yX5_number wsX5_number (gt_rm 6 127) [] 0 0 K [.inr r] σ (fun σ' rv => (gx_D r o1 o2 res σ' ∧ gt_F r (r + 65) σ σ') ∧ rv = none) := by
  refine ga_ofV (by decide +kernel) rfl gt_hcl (Nat.le_of_ble_eq_true rfl) (fun X hX C hret => ?_)
  exact gX5_number_0 C (fun pc lv σ' d hp => hret pc lv σ' d ⟨hp, rfl⟩) hr0 ho hW gt_F.rf rfl h
-- X5_change: change(I)Z
def fX5_change (T : gx_Dc) (l1 : Int) : Option (gx_Dc × Int) :=
  (fX4_has T.2.1.1 l1).bind (fun (q8 : Int) => (if q8 = 0 then (if ((0 : Int) = 0 ∨ (0 : Int) = 1) then some (((T.1.1, T.1.2.1, T.1.2.2.1, T.1.2.2.2.1, T.1.2.2.2.2.1, T.1.2.2.2.2.2.1, T.1.2.2.2.2.2.2.1, T.1.2.2.2.2.2.2.2), (T.2.1.1, T.2.1.2.1, T.2.1.2.2.1, T.2.1.2.2.2.1, T.2.1.2.2.2.2.1, T.2.1.2.2.2.2.2.1, T.2.1.2.2.2.2.2.2.1, T.2.1.2.2.2.2.2.2.2), T.2.2), (0 : Int)) else none) else (fX4_exchangeStrands T.2.1.1 l1).bind (fun (q24 : gt_T) => (fX0_survey (q24, T.2.1.2.1, T.2.1.2.2.1, T.2.1.2.2.2.1, T.2.1.2.2.2.2.1, T.2.1.2.2.2.2.2.1, T.2.1.2.2.2.2.2.2.1, T.2.1.2.2.2.2.2.2.2)).bind (fun (q31 : gx_Ch × Int) => (if ((1 : Int) = 0 ∨ (1 : Int) = 1) then some (((T.1.1, T.1.2.1, T.1.2.2.1, T.1.2.2.2.1, T.1.2.2.2.2.1, T.1.2.2.2.2.2.1, T.1.2.2.2.2.2.2.1, T.1.2.2.2.2.2.2.2), (q31.1.1, q31.1.2.1, q31.1.2.2.1, q31.1.2.2.2.1, q31.1.2.2.2.2.1, q31.1.2.2.2.2.2.1, q31.1.2.2.2.2.2.2.1, q31.1.2.2.2.2.2.2.2), T.2.2), (1 : Int)) else none)))))
theorem iX5_change_X0 : ∀ w ∈ u_ws RX0 TX0 9, w ∈ wsX5_change := by decide +kernel
theorem iX5_change_X5 : ∀ w ∈ u_ws RX5 TX5 4, w ∈ wsX5_change := by decide +kernel
theorem kX5_change_30 : Cond.fieldLink yX5_change.cls 30 (TX0 0).1 (TX0 0).2.1 (TX0 0).2.2.1 ∈ wsX5_change := by decide +kernel
theorem kX5_change_16 : Cond.fieldLink yX5_change.cls 16 (TX5 1).1 (TX5 1).2.1 (TX5 1).2.2.1 ∈ wsX5_change := by decide +kernel
set_option maxHeartbeats 4000000 in
theorem gX5_change_0 {X : ga_X} {D : va_G} {cI cZ : ClassId} {K : Nat} {r : Nat} {σ0 : ga_S} {o1 o2 : Nat} {res : gx_Dc × Int} (C : ga_C X cX5_change yX5_change wsX5_change [] (gt_rm 6 127) (D, vwCl, cI, cZ) 2) (hRet : ∀ (pc : Nat) (lv : Nat → Option ga_V) (σ' : ga_S) (z : Int), decode cX5_change pc = .ok (.ireturn, 1) → (z = 0 ∨ z = 1) → z = res.2 → (gx_D r o1 o2 res.1 σ' ∧ gt_F r (r + 65) σ0 σ') → ga_G X 0 0 K pc lv [.inl z] σ') (hr0 : r ≠ 0) (ho : (o1 = 1 ∧ o2 = 33) ∨ (o1 = 33 ∧ o2 = 1)) {T : gx_Dc} {σ : ga_S} {l1 : Int} {lv : Nat → Option ga_V} (hW : gx_D r o1 o2 T σ) (hF : gt_F r (r + 65) σ0 σ) (hl0 : lv 0 = some (.inr r)) (hl1 : lv 1 = some (.inl l1)) (h : fX5_change T l1 = some res) : ga_G X 0 0 K 0 lv [] σ := by
  unfold fX5_change at h
  refine ga_aload_n C dX5_change_0 rfl hl0 hr0 ?_
  refine gt_geta C (iX5_change_X5) hW.1 1 rfl rfl (by decide) kX5_change_16 dX5_change_1 ?_
  refine gt_geta C (iX5_change_X0) hW.2.2.2.2.2.2.2.2.2 0 rfl rfl (by decide) kX5_change_30 dX5_change_4 ?_
  refine ga_iload_n C dX5_change_7 rfl hl1 ?_
  obtain ⟨q8, hq, h⟩ := Option.bind_eq_some_iff.mp h
  refine gt_cVi (n := 1) (st := []) C (eX4_has X.2.1 D cI cZ K (Nat.succ_ne_zero _) hW.2.2.1 hq) gX5_change_X4_has rfl (by decide +kernel) rfl ⟨Nat.le_of_ble_eq_true rfl, Nat.le_of_ble_eq_true rfl⟩ hW.2.2.1.1 rfl rfl (Nat.le_of_ble_eq_true rfl) rfl dX5_change_8 (fun σ' hp => ?_)
  subst hp
  refine ga_if_ne (tgt := 16) C dX5_change_11 (by decide) (fun c1 => ?_) (fun c1 => ?_)
  · have h := gt_in h c1
    refine ga_aload_n C dX5_change_16 rfl hl0 hr0 ?_
    refine gt_geta C (iX5_change_X5) hW.1 1 rfl rfl (by decide) kX5_change_16 dX5_change_17 ?_
    refine gt_geta C (iX5_change_X0) hW.2.2.2.2.2.2.2.2.2 0 rfl rfl (by decide) kX5_change_30 dX5_change_20 ?_
    refine ga_iload_n C dX5_change_23 rfl hl1 ?_
    obtain ⟨q24, hq, h⟩ := Option.bind_eq_some_iff.mp h
    refine gt_cVv (n := 1) (st := []) C (eX4_exchangeStrands X.2.1 D cI cZ K (Nat.succ_ne_zero _) hW.2.2.1 hq) gX5_change_X4_exchangeStrands rfl (by decide +kernel) rfl ⟨Nat.le_of_ble_eq_true rfl, Nat.le_of_ble_eq_true rfl⟩ hW.2.2.1.1 rfl rfl (Nat.le_of_ble_eq_true rfl) rfl dX5_change_24 (fun σ' hp => ?_)
    obtain ⟨hw, hf⟩ := hp
    have hW := gx_DH ho hW (gx_W0 hW.2.2 hw hf) (gt_F.rf.tr hf (by omega) (by omega))
    have hF := hF.tr hf (by omega) (by omega)
    clear hf
    refine ga_aload_n C dX5_change_27 rfl hl0 hr0 ?_
    refine gt_geta C (iX5_change_X5) hW.1 1 rfl rfl (by decide) kX5_change_16 dX5_change_28 ?_
    obtain ⟨q31, hq, h⟩ := Option.bind_eq_some_iff.mp h
    refine gt_cVi (n := 0) (st := []) C (eX0_survey X.2.1 D cI cZ K (by omega) hW.2.2 hq) gX5_change_X0_survey rfl (by decide +kernel) rfl ⟨Nat.le_of_ble_eq_true rfl, Nat.le_of_ble_eq_true rfl⟩ hW.2.2.2.2.2.2.2.2.2.1 rfl rfl (Nat.le_of_ble_eq_true rfl) rfl dX5_change_31 (fun σ' hp => ?_)
    obtain ⟨hw, hf⟩ := hp
    have hW := gx_DH ho hW hw hf
    have hF := hF.tr hf (by omega) (by omega)
    clear hf
    obtain ⟨hg, h⟩ := gt_gd h
    have g36_0 := hg
    refine ga_pop C dX5_change_34 ?_
    refine ga_iconst C dX5_change_35 ⟨by decide, by decide⟩ ?_
    cases h
    exact hRet _ _ _ _ dX5_change_36 g36_0 rfl ⟨hW, hF⟩
  · have h := gt_ip h c1
    obtain ⟨hg, h⟩ := gt_gd h
    have g15_0 := hg
    refine ga_iconst C dX5_change_14 ⟨by decide, by decide⟩ ?_
    cases h
    exact hRet _ _ _ _ dX5_change_15 g15_0 rfl ⟨hW, hF⟩
set_option maxHeartbeats 4000000 in
theorem eX5_change (l : Launch) (D : va_G) (cI cZ : ClassId) (K : Nat) {r : Nat} (hr0 : r ≠ 0) {o1 o2 : Nat} (ho : (o1 = 1 ∧ o2 = 33) ∨ (o1 = 33 ∧ o2 = 1)) {σ : ga_S} {T : gx_Dc} (hW : gx_D r o1 o2 T σ) {l1 : Int} {res : gx_Dc × Int} (h : fX5_change T l1 = some res) : ga_Ev l (D, vwCl, cI, cZ) yX5_change wsX5_change (gt_rm 6 127) [] 0 0 K [.inr r, .inl l1] σ (fun σ' rv => (gx_D r o1 o2 res.1 σ' ∧ gt_F r (r + 65) σ σ') ∧ rv = some (.inl res.2)) := by
  refine ga_ofZ (by decide +kernel) rfl gt_hcl (Nat.le_of_ble_eq_true rfl) (fun X hX C hret => ?_)
  exact gX5_change_0 C (fun pc lv σ' z d h01 hz hp => hret pc lv σ' z d h01 ⟨hp, by rw [hz]⟩) hr0 ho hW gt_F.rf rfl rfl h
