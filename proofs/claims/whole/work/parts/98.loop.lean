theorem wsL_all : ∀ w ∈ wsL_law, w ∈ lw_tbl := List.forall_mem_append.mpr ⟨List.forall_mem_append.mpr ⟨List.forall_mem_append.mpr ⟨List.forall_mem_append.mpr ⟨List.forall_mem_append.mpr ⟨List.forall_mem_append.mpr ⟨List.forall_mem_append.mpr ⟨List.forall_mem_append.mpr ⟨List.forall_mem_append.mpr ⟨wsL_in_1, List.forall_mem_append.mpr ⟨wsL_in_2, List.forall_mem_append.mpr ⟨wsL_in_3, List.forall_mem_append.mpr ⟨wsL_in_4, List.forall_mem_append.mpr ⟨wsL_in_5, List.forall_mem_append.mpr ⟨wsL_in_6, List.forall_mem_append.mpr ⟨wsL_in_7, List.forall_mem_append.mpr ⟨wsL_in_8, List.forall_mem_append.mpr ⟨wsL_in_9, List.forall_mem_append.mpr ⟨wsL_in_10, List.forall_mem_append.mpr ⟨wsL_in_11, List.forall_mem_append.mpr ⟨wsL_in_12, List.forall_mem_append.mpr ⟨wsL_in_13, List.forall_mem_append.mpr ⟨wsL_in_14, List.forall_mem_append.mpr ⟨wsL_in_15, List.forall_mem_append.mpr ⟨wsL_in_16, List.forall_mem_append.mpr ⟨wsL_in_17, List.forall_mem_append.mpr ⟨wsL_in_18, List.forall_mem_append.mpr ⟨wsL_in_19, List.forall_mem_append.mpr ⟨wsL_in_20, List.forall_mem_append.mpr ⟨wsL_in_21, List.forall_mem_append.mpr ⟨wsL_in_22, List.forall_mem_append.mpr ⟨wsL_in_23, List.forall_mem_append.mpr ⟨wsL_in_24, List.forall_mem_append.mpr ⟨wsL_in_25, List.forall_mem_append.mpr ⟨wsL_in_26, List.forall_mem_append.mpr ⟨wsL_in_27, List.forall_mem_append.mpr ⟨wsL_in_28, List.forall_mem_append.mpr ⟨wsL_in_29, wsL_in_30⟩⟩⟩⟩⟩⟩⟩⟩⟩⟩⟩⟩⟩⟩⟩⟩⟩⟩⟩⟩⟩⟩⟩⟩⟩⟩⟩⟩⟩, inX5⟩, inX6⟩, inX0⟩, inX4⟩, inX1⟩, inX2⟩, inX3⟩, fun _ h => absurd h List.not_mem_nil⟩
set_option maxHeartbeats 4000000 in
theorem gL_loop {X : ga_X} {nm : String} {D0 : va_G} {cI cZ : ClassId} {b0 L : Nat} {xs : Nat → Int32} (C : ga_C X cL_law (gm_y nm) wsL_law gm_nw5 room_1 (D0, vwCl, cI, cZ) 4) (hX : gl_X X b0 L xs) (hL : L ≤ 3072) (hend : ∀ (pc : Nat) (lv : Nat → Option ga_V) (σ : ga_S), decode cL_law pc = .ok (.ireturn, 1) → gl_G X b0 79 4115 79 pc lv [.inl 1] σ) : ∀ (n i : Nat) (lv : Nat → Option ga_V) (o1 o2 : Nat) (T : gx_Dc) (m : gt_T) (σ : ga_S), L + 6 - i < n → i ≤ L + 6 → gl_lv lv i → gm_oo o1 o2 → gx_D 1 o1 o2 T σ → gt_O SX6 6 66 m σ → RLc T m → gl_G X b0 79 4115 79 18 lv [] σ := by
  intro n
  induction n with
  | zero => intro i lv o1 o2 T m σ h; exact absurd h (Nat.not_lt_zero _)
  | succ n ih =>
    intro i lv o1 o2 T m σ hn hiL hl ho hW hM hR
    refine gl_iload_n C dL_law_18 rfl hl.2.2 ?_
    refine gl_len C hX (by omega) dL_law_19 rfl dL_law_20 ?_
    refine gl_bipush C dL_law_21 ⟨by decide, by decide⟩ (by decide) ?_
    refine gl_isub C dL_law_23 ⟨by omega, by omega⟩ ?_
    refine gl_icmp_gt C dL_law_24 rfl (fun _ => ?_) (fun hi => ?_)
    · refine gl_iconst C dL_law_451 ⟨by decide, by decide⟩ ?_
      exact hend _ _ _ dL_law_452
    · have hi5 : i + 5 < L := by omega
      have next : gl_next X b0 lv := by
        intro σ o1 o2 T m ho hW hM hR
        refine gl_iinc C dL_law_445 hl.2.2 (by decide) ⟨by omega, by omega⟩ ?_
        refine gl_goto C dL_law_448 rfl ?_
        exact ih (i + 6) _ o1 o2 T m σ (by omega) (by omega) ⟨hl.1, hl.2.1, by show some (Sum.inl ((i : Int) + 6)) = some (Sum.inl ((i + 6 : Nat) : Int)); rw [show ((i + 6 : Nat) : Int) = (i : Int) + 6 by omega]⟩ ho hW hM hR
      refine gl_rd0 C hX dL_law_27 rfl dL_law_28 rfl hl.2.2 (by omega) dL_law_29 ?_
      refine gl_bipush C dL_law_30 ⟨by decide, by decide⟩ (by decide) ?_
      refine gl_iand C dL_law_32 ?_
      have hv0 : 0 ≤ (xs i).toInt % 16 := Int.emod_nonneg _ (by decide)
      generalize (xs i).toInt % 16 = v at hv0 ⊢
      by_cases hv : 12 < v
      · exact gl_tabOut C dL_law_33 (Or.inr hv) rfl (next σ o1 o2 T m ho hW hM hR)
      · rcases (show v = 0 ∨ v = 1 ∨ v = 2 ∨ v = 3 ∨ v = 4 ∨ v = 5 ∨ v = 6 ∨ v = 7 ∨ v = 8 ∨ v = 9 ∨ v = 10 ∨ v = 11 ∨ v = 12 by omega) with rfl | rfl | rfl | rfl | rfl | rfl | rfl | rfl | rfl | rfl | rfl | rfl | rfl
        · exact gl_tabIn C dL_law_33 (by decide) (by decide) rfl rfl (gL_crossing C hX hL hl hi5 next ho hW hM hR)
        · exact gl_tabIn C dL_law_33 (by decide) (by decide) rfl rfl (gL_check C hX hL hl hi5 next ho hW hM hR)
        · exact gl_tabIn C dL_law_33 (by decide) (by decide) rfl rfl (gL_which C hX hL hl hi5 next ho hW hM hR)
        · exact gl_tabIn C dL_law_33 (by decide) (by decide) rfl rfl (gL_many C hX hL hl hi5 next ho hW hM hR)
        · exact gl_tabIn C dL_law_33 (by decide) (by decide) rfl rfl (gL_look C hX hL hl hi5 next ho hW hM hR)
        · exact gl_tabIn C dL_law_33 (by decide) (by decide) rfl rfl (gL_edge C hX hL hl hi5 next ho hW hM hR)
        · exact gl_tabIn C dL_law_33 (by decide) (by decide) rfl rfl (gL_component C hX hL hl hi5 next ho hW hM hR)
        · exact gl_tabIn C dL_law_33 (by decide) (by decide) rfl rfl (gL_face C hX hL hl hi5 next ho hW hM hR)
        · exact gl_tabIn C dL_law_33 (by decide) (by decide) rfl rfl (gL_mirror C hX hL hl hi5 next ho hW hM hR)
        · exact gl_tabIn C dL_law_33 (by decide) (by decide) rfl rfl (gL_reverse C hX hL hl hi5 next ho hW hM hR)
        · exact gl_tabIn C dL_law_33 (by decide) (by decide) rfl rfl (gL_number C hX hL hl hi5 next ho hW hM hR)
        · exact gl_tabIn C dL_law_33 (by decide) (by decide) rfl rfl (gL_change C hX hL hl hi5 next ho hW hM hR)
        · exact gl_tabIn C dL_law_33 (by decide) (by decide) rfl rfl (gL_smooth C hX hL hl hi5 next ho hW hM hR)
set_option maxHeartbeats 4000000 in
set_option maxRecDepth 20000 in
theorem gL_start {X : ga_X} {nm : String} {D0 : va_G} {cI cZ : ClassId} {b0 L : Nat} {xs : Nat → Int32} (C : ga_C X cL_law (gm_y nm) wsL_law gm_nw5 room_1 (D0, vwCl, cI, cZ) 4) (hX : gl_X X b0 L xs) (hL : L ≤ 3072) (hend : ∀ (pc : Nat) (lv : Nat → Option ga_V) (σ : ga_S), decode cL_law pc = .ok (.ireturn, 1) → gl_G X b0 79 4115 79 pc lv [.inl 1] σ) : gl_G X b0 0 0 0 0 (fun _ => none) [] (fun _ => ga_no) := by
  refine gl_new (Cn := RX5) (T := TX5) (N := 4) (ci := 5) (fs := [.inr 0, .inr 0, .inl 0, .inl 0]) C inlX5 tyX5 tyX5_ok gm_cl5 gm_in5 gm_ini5 rfl (by decide) (by decide +kernel) ⟨Nat.le_of_ble_eq_true rfl, Nat.le_of_ble_eq_true rfl⟩ dL_law_0 (fun σ1 n1 s1 => ?_)
  refine gl_dup C dL_law_3 ?_
  refine gl_callI (As := []) (st := [.inr 1]) C (eX5_init X.2.1 D0 cI cZ (b := 1) (by decide) n1) gL_law_X5_init gm_ini5 gm_ml5 gm_im5 rfl rfl rfl rfl (by decide +kernel) ⟨Nat.le_of_ble_eq_true rfl, Nat.le_of_ble_eq_true rfl⟩ ⟨Nat.le_of_ble_eq_true rfl, Nat.le_of_ble_eq_true rfl⟩ (fun q h => h) (by decide) (Nat.le_of_ble_eq_true rfl) rfl dL_law_4 (fun σ2 r2 hp => ?_)
  obtain ⟨⟨w2, f2⟩, e2⟩ := hp
  subst e2
  refine gl_astore_n (i := 1) C dL_law_7 rfl (by decide) (by decide) (by decide) ?_
  refine gl_new (Cn := RX6) (T := TX6) (N := 23) (ci := 6) (fs := [.inl 0, .inl 0, .inl 0, .inr 0, .inr 0, .inl 0, .inl 0, .inl 0, .inl 0, .inr 0, .inr 0, .inr 0, .inr 0, .inl 0, .inr 0, .inr 0, .inr 0, .inr 0, .inr 0, .inl 0, .inl 0, .inr 0, .inr 0]) C inlX6 tyX6 tyX6_ok gm_cl6 gm_in6 gm_ini6 rfl (by decide) (by decide +kernel) ⟨Nat.le_of_ble_eq_true rfl, Nat.le_of_ble_eq_true rfl⟩ dL_law_8 (fun σ3 n3 s3 => ?_)
  have w3 : gx_D 1 1 33 gm_dc σ3 := gm_Dk (Or.inl ⟨rfl, rfl⟩) w2 (fun k a b => s3 k (by omega))
  refine gl_dup C dL_law_11 ?_
  refine gl_callI (As := []) (st := [.inr 66]) C (eX6_init X.2.1 D0 cI cZ (b := 66) (by decide) n3) gL_law_X6_init gm_ini6 gm_ml6 gm_im6 rfl rfl rfl rfl (by decide +kernel) ⟨Nat.le_of_ble_eq_true rfl, Nat.le_of_ble_eq_true rfl⟩ ⟨Nat.le_of_ble_eq_true rfl, Nat.le_of_ble_eq_true rfl⟩ (fun q h => absurd h List.not_mem_nil) (by decide) (Nat.le_of_ble_eq_true rfl) rfl dL_law_12 (fun σ4 r4 hp => ?_)
  obtain ⟨⟨m4, f4⟩, e4⟩ := hp
  subst e4
  have w4 : gx_D 1 1 33 gm_dc σ4 := gm_Dk (Or.inl ⟨rfl, rfl⟩) w3 (fun k a b => f4 k (by omega))
  refine gl_astore_n (i := 2) C dL_law_15 rfl (by decide) (by decide) (by decide) ?_
  refine gl_iconst C dL_law_16 ⟨by decide, by decide⟩ ?_
  refine gl_istore_n (i := 3) C dL_law_17 rfl (by decide) (by decide) ?_
  refine gL_loop C hX hL hend (L + 7) 0 _ 1 33 gm_dc gm_m2 σ4 (by omega) (by omega) ⟨rfl, rfl, rfl⟩ (Or.inl ⟨rfl, rfl⟩) w4 m4 ?_
  exact RL_init rfl rfl rfl rfl rfl ⟨rfl, rfl⟩ ⟨rfl, rfl⟩ ⟨rfl, rfl⟩ ⟨rfl, rfl⟩ ⟨rfl, rfl⟩ rfl rfl rfl
