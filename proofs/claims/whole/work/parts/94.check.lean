/-! check, by hand: it changes places of the two charts. -/
theorem iX5_check_X5 : ∀ w ∈ u_ws RX5 TX5 4, w ∈ wsX5_check := by decide +kernel
theorem iX5_check_X0 : ∀ w ∈ u_ws RX0 TX0 9, w ∈ wsX5_check := by decide +kernel
theorem kX5_check_12 : Cond.fieldLink yX5_check.cls 12 (TX5 0).1 (TX5 0).2.1 (TX5 0).2.2.1 ∈ wsX5_check := by decide +kernel
theorem kX5_check_16 : Cond.fieldLink yX5_check.cls 16 (TX5 1).1 (TX5 1).2.1 (TX5 1).2.2.1 ∈ wsX5_check := by decide +kernel
theorem kX5_check_19 : Cond.fieldLink yX5_check.cls 19 (TX5 2).1 (TX5 2).2.1 (TX5 2).2.2.1 ∈ wsX5_check := by decide +kernel
theorem kX5_check_23 : Cond.fieldLink yX5_check.cls 23 (TX5 3).1 (TX5 3).2.1 (TX5 3).2.2.1 ∈ wsX5_check := by decide +kernel
theorem kX5_check_30 : Cond.fieldLink yX5_check.cls 30 (TX0 0).1 (TX0 0).2.1 (TX0 0).2.2.1 ∈ wsX5_check := by decide +kernel
def gm_oo (o1 o2 : Nat) : Prop := (o1 = 1 ∧ o2 = 33) ∨ (o1 = 33 ∧ o2 = 1)
theorem gm_nf {C : String} {x : Nat} (hx : x ≠ 0) (ad : Nat → Nat) : narrow (.object C) (ga_v ad (.inr x)) = ga_v ad (.inr x) ∧ fits (.object C) (ga_v ad (.inr x)) = true := by
  cases x with
  | zero => exact absurd rfl hx
  | succ x => exact ⟨rfl, rfl⟩
set_option maxHeartbeats 4000000 in
theorem gX5_check_58 {X : ga_X} {D : va_G} {cI cZ : ClassId} {K : Nat} {r : Nat} {σ0 : ga_S} {o1 o2 : Nat} {res : gx_Dc × Int} (C : ga_C X cX5_check yX5_check wsX5_check [] (gt_rm 6 127) (D, vwCl, cI, cZ) 4) (hRet : ∀ (pc : Nat) (lv : Nat → Option ga_V) (σ' : ga_S) (z : Int), decode cX5_check pc = .ok (.ireturn, 1) → z = res.2 → ((∃ p1 p2, gm_oo p1 p2 ∧ gx_D r p1 p2 res.1 σ') ∧ gt_F r (r + 65) σ0 σ') → ga_G X 0 0 K pc lv [.inl z] σ') (hr0 : r ≠ 0) (ho : (o1 = 1 ∧ o2 = 33) ∨ (o1 = 33 ∧ o2 = 1)) {T : gx_Dc} {σ : ga_S} {v : Int} {lv : Nat → Option ga_V} (hW : gx_D r o1 o2 T σ) (hF : gt_F r (r + 65) σ0 σ) (hl0 : lv 0 = some (.inr r)) (hl2 : lv 2 = some (.inl v)) (h : res = ((((va_up T.1.1.1 2 0, T.1.1.2), T.1.2), T.2.1, T.2.2), v)) : ga_G X 0 0 K 58 lv [] σ := by
  refine ga_aload_n C dX5_check_58 rfl hl0 hr0 ?_
  refine gt_geta C iX5_check_X5 hW.1 0 rfl rfl (by decide) kX5_check_12 dX5_check_59 ?_
  refine gt_geta C iX5_check_X0 hW.2.1.2.2.2.2.2.2.2 0 rfl rfl (by decide) kX5_check_30 dX5_check_62 ?_
  refine gt_cVv (n := 0) (st := []) C (eX4_clear X.2.1 D cI cZ K (Nat.succ_ne_zero _) hW.2.1.1 (res := (va_up T.1.1.1 2 0, T.1.1.2)) rfl) gX5_check_X4_clear rfl (by decide +kernel) rfl ⟨Nat.le_of_ble_eq_true rfl, Nat.le_of_ble_eq_true rfl⟩ hW.2.1.1.1 rfl rfl (Nat.le_of_ble_eq_true rfl) rfl dX5_check_65 (fun σ' hp => ?_)
  obtain ⟨hw, hf⟩ := hp
  have hW' := gx_DP ho hW (gx_W0 hW.2.1 hw hf) (gt_F.rf.tr hf (by omega) (by omega))
  have hF' := hF.tr hf (by omega) (by omega)
  refine ga_iload_n C dX5_check_68 rfl hl2 ?_
  exact hRet _ _ _ _ dX5_check_69 (by rw [h]) ⟨⟨o1, o2, ho, by rw [h]; exact hW'⟩, hF'⟩
set_option maxHeartbeats 4000000 in
theorem gX5_check_0 {X : ga_X} {D : va_G} {cI cZ : ClassId} {K : Nat} {r : Nat} {σ0 : ga_S} {o1 o2 : Nat} {res : gx_Dc × Int} (C : ga_C X cX5_check yX5_check wsX5_check [] (gt_rm 6 127) (D, vwCl, cI, cZ) 4) (hRet : ∀ (pc : Nat) (lv : Nat → Option ga_V) (σ' : ga_S) (z : Int), decode cX5_check pc = .ok (.ireturn, 1) → z = res.2 → ((∃ p1 p2, gm_oo p1 p2 ∧ gx_D r p1 p2 res.1 σ') ∧ gt_F r (r + 65) σ0 σ') → ga_G X 0 0 K pc lv [.inl z] σ') (hr0 : r ≠ 0) (ho : (o1 = 1 ∧ o2 = 33) ∨ (o1 = 33 ∧ o2 = 1)) {T : gx_Dc} {σ : ga_S} {l1 : Int} {lv : Nat → Option ga_V} (hW : gx_D r o1 o2 T σ) (hF : gt_F r (r + 65) σ0 σ) (hl0 : lv 0 = some (.inr r)) (hl1 : lv 1 = some (.inl l1)) (h : fX5_check T l1 = some res) : ga_G X 0 0 K 0 lv [] σ := by
  unfold fX5_check at h
  have no : some (T, (-1 : Int)) = some res → ga_G X 0 0 K 10 lv [] σ := fun h => by
    cases h
    refine ga_iconst C dX5_check_10 ⟨by decide, by decide⟩ ?_
    exact hRet _ _ _ _ dX5_check_11 rfl ⟨⟨o1, o2, ho, hW⟩, hF⟩
  refine ga_iload_n C dX5_check_0 rfl hl1 ?_
  refine ga_if_lt C dX5_check_1 rfl (fun c1 => no (by rw [if_pos c1] at h; exact h)) (fun c1 => ?_)
  rw [if_neg c1] at h
  refine ga_iload_n C dX5_check_4 rfl hl1 ?_
  refine ga_bipush C dX5_check_5 ⟨by decide, by decide⟩ (by decide) ?_
  refine ga_icmp_le C dX5_check_7 rfl (fun c2 => ?_) (fun c2 => no (by rw [if_pos (by omega)] at h; exact h))
  rw [if_neg (by omega)] at h
  obtain ⟨q, hq, h⟩ := Option.bind_eq_some_iff.mp h
  refine ga_aload_n C dX5_check_12 rfl hl0 hr0 ?_
  refine gt_geta C iX5_check_X5 hW.1 0 rfl rfl (by decide) kX5_check_12 dX5_check_13 ?_
  refine gt_cVi (n := 0) (st := []) C (eX0_survey X.2.1 D cI cZ K (by omega) hW.2.1 hq) gX5_check_X0_survey rfl (by decide +kernel) rfl ⟨Nat.le_of_ble_eq_true rfl, Nat.le_of_ble_eq_true rfl⟩ hW.2.1.2.2.2.2.2.2.2.1 rfl rfl (Nat.le_of_ble_eq_true rfl) rfl dX5_check_16 (fun σ1 hp => ?_)
  obtain ⟨hw, hf⟩ := hp
  have hW := gx_DP ho hW hw hf
  have hF := hF.tr hf (by omega) (by omega)
  clear hf
  refine ga_istore_n (i := 2) C dX5_check_19 rfl (by decide) ?_
  have hl0 : va_up lv 2 (some (.inl q.2)) 0 = some (.inr r) := hl0
  have hl1 : va_up lv 2 (some (.inl q.2)) 1 = some (.inl l1) := hl1
  have hl2 : va_up lv 2 (some (.inl q.2)) 2 = some (.inl q.2) := rfl
  generalize va_up lv 2 (some (.inl q.2)) = lv at hl0 hl1 hl2 ⊢
  refine ga_aload_n C dX5_check_20 rfl hl0 hr0 ?_
  refine ga_aload_n C dX5_check_21 rfl hl0 hr0 ?_
  refine gt_geta C iX5_check_X5 hW.1 0 rfl rfl (by decide) kX5_check_12 dX5_check_22 ?_
  refine gt_cVi (n := 0) (st := [.inr r]) C (eX0_wrong X.2.1 D cI cZ K (by omega) hW.2.1 (res := q.1.2.2.2.2.2.2.2.1 8) rfl) gX5_check_X0_wrong rfl (by decide +kernel) rfl ⟨Nat.le_of_ble_eq_true rfl, Nat.le_of_ble_eq_true rfl⟩ hW.2.1.2.2.2.2.2.2.2.1 rfl rfl (Nat.le_of_ble_eq_true rfl) rfl dX5_check_25 (fun σ2 hp => ?_)
  subst hp
  refine gx_putd C ho iX5_check_X5 hW hF 3 (Or.inr rfl) kX5_check_23 dX5_check_28 (fun σ3 hW hF => ?_)
  refine ga_iload_n C dX5_check_31 rfl hl2 ?_
  refine ga_if_ne C dX5_check_32 rfl (fun c3 => ?_) (fun c3 => ?_)
  · rw [if_neg c3] at h
    exact gX5_check_58 C hRet hr0 ho hW hF hl0 hl2 (Option.some.inj h).symm
  · rw [if_pos c3] at h
    refine ga_aload_n C dX5_check_35 rfl hl0 hr0 ?_
    refine gt_geta C iX5_check_X5 hW.1 1 rfl rfl (by decide) kX5_check_16 dX5_check_36 ?_
    refine ga_astore_n (i := 3) C dX5_check_39 rfl (by decide) (by omega) ?_
    have hl0 : va_up lv 3 (some (.inr (r + o2))) 0 = some (.inr r) := hl0
    have hl1 : va_up lv 3 (some (.inr (r + o2))) 1 = some (.inl l1) := hl1
    have hl2 : va_up lv 3 (some (.inr (r + o2))) 2 = some (.inl q.2) := hl2
    have hl3 : va_up lv 3 (some (.inr (r + o2))) 3 = some (.inr (r + o2)) := rfl
    generalize va_up lv 3 (some (.inr (r + o2))) = lv at hl0 hl1 hl2 hl3 ⊢
    refine ga_aload_n C dX5_check_40 rfl hl0 hr0 ?_
    refine ga_aload_n C dX5_check_41 rfl hl0 hr0 ?_
    refine gt_geta C iX5_check_X5 hW.1 0 rfl rfl (by decide) kX5_check_12 dX5_check_42 ?_
    refine ga_putC (j := 1) C iX5_check_X5 tyX5 tyX5_ok nmX5 hW.1.1 rfl (by decide) kX5_check_16 (Or.inl rfl) (tyX5_ok 1 (by decide)) (fun ad => gm_nf (by omega) ad) (Nat.le_of_ble_eq_true rfl) dX5_check_45 (fun σ4 n4 s4 => ?_)
    refine ga_aload_n C dX5_check_48 rfl hl0 hr0 ?_
    refine ga_aload_n C dX5_check_49 rfl hl3 (by omega) ?_
    refine ga_putC (j := 0) C iX5_check_X5 tyX5 tyX5_ok nmX5 n4 rfl (by decide) kX5_check_12 (Or.inl rfl) (tyX5_ok 0 (by decide)) (fun ad => gm_nf (by omega) ad) (Nat.le_of_ble_eq_true rfl) dX5_check_50 (fun σ5 n5 s5 => ?_)
    refine ga_aload_n C dX5_check_53 rfl hl0 hr0 ?_
    refine ga_iload_n C dX5_check_54 rfl hl1 ?_
    refine ga_putC (j := 2) C iX5_check_X5 tyX5 tyX5_ok nmX5 n5 rfl (by decide) kX5_check_19 (Or.inl rfl) (tyX5_ok 2 (by decide)) (fun ad => ⟨rfl, rfl⟩) (Nat.le_of_ble_eq_true rfl) dX5_check_55 (fun σ6 n6 s6 => ?_)
    have hs : ∀ k, k ≠ r → σ6 k = σ3 k := fun k hk => ((s6 k hk).trans (s5 k hk)).trans (s4 k hk)
    have hF6 : gt_F r (r + 65) σ0 σ6 := fun k hk => (hs k (by omega)).trans (hF k hk)
    have hO : gt_O (SX5 o2 o1) 5 r (va_up (va_up T.2.2.1 3 (q.1.2.2.2.2.2.2.2.1 8)) 2 l1, T.2.2.2) σ6 := by
      refine ⟨n6, fun j o n => ?_⟩
      rcases j with _ | _ | _ | _ | j
      · exact ⟨fun h => (by cases (show some (3, o2, 0) = some (1, o, n) from h)), fun h => (by cases (show some (3, o2, 0) = some (2, o, n) from h))⟩
      · exact ⟨fun h => (by cases (show some (3, o1, 0) = some (1, o, n) from h)), fun h => (by cases (show some (3, o1, 0) = some (2, o, n) from h))⟩
      · exact ⟨fun h => (by cases (show some (0, 0, 0) = some (1, o, n) from h)), fun h => (by cases (show some (0, 0, 0) = some (2, o, n) from h))⟩
      · exact ⟨fun h => (by cases (show some (0, 0, 0) = some (1, o, n) from h)), fun h => (by cases (show some (0, 0, 0) = some (2, o, n) from h))⟩
      · exact ⟨fun h => (by cases (show (none : Option (Nat × Nat × Nat)) = some (1, o, n) from h)), fun h => (by cases (show (none : Option (Nat × Nat × Nat)) = some (2, o, n) from h))⟩
    have ho' : (o2 = 1 ∧ o1 = 33) ∨ (o2 = 33 ∧ o1 = 1) := by omega
    have hW6 : gx_D r o2 o1 (T.2.1, q.1, (va_up (va_up T.2.2.1 3 (q.1.2.2.2.2.2.2.2.1 8)) 2 l1, T.2.2.2)) σ6 := ⟨hO, gm_Wk hW.2.2 (fun k a b => hs k (by omega)), gm_Wk hW.2.1 (fun k a b => hs k (by omega))⟩
    exact gX5_check_58 C hRet hr0 ho' hW6 hF6 hl0 hl2 (Option.some.inj h).symm
set_option maxHeartbeats 4000000 in
theorem eX5_check (l : Launch) (D : va_G) (cI cZ : ClassId) (K : Nat) {r : Nat} (hr0 : r ≠ 0) {o1 o2 : Nat} (ho : (o1 = 1 ∧ o2 = 33) ∨ (o1 = 33 ∧ o2 = 1)) {σ : ga_S} {T : gx_Dc} (hW : gx_D r o1 o2 T σ) {l1 : Int} {res : gx_Dc × Int} (h : fX5_check T l1 = some res) : ga_Ev l (D, vwCl, cI, cZ) yX5_check wsX5_check (gt_rm 6 127) [] 0 0 K [.inr r, .inl l1] σ (fun σ' rv => ((∃ p1 p2, gm_oo p1 p2 ∧ gx_D r p1 p2 res.1 σ') ∧ gt_F r (r + 65) σ σ') ∧ rv = some (.inl res.2)) := by
  refine ga_ofI (by decide +kernel) rfl gt_hcl (Nat.le_of_ble_eq_true rfl) (fun X hX C hret => ?_)
  exact gX5_check_0 C (fun pc lv σ' z d hz hp => hret pc lv σ' z d ⟨hp, by rw [hz]⟩) hr0 ho hW gt_F.rf rfl rfl h
