/-! The law's cases: one call of the class, one of the reference. -/
def gm_y (nm : String) : MethodName := ⟨RL, nm, "([I)Z"⟩
theorem gm_Dk {r o1 o2 : Nat} {T : gx_Dc} {σ σ' : ga_S} (ho : gm_oo o1 o2) (h : gx_D r o1 o2 T σ) (hk : ∀ k, r ≤ k → k < r + 65 → σ' k = σ k) : gx_D r o1 o2 T σ' := by
  have ho' : (o1 = 1 ∧ o2 = 33) ∨ (o1 = 33 ∧ o2 = 1) := ho
  refine ⟨h.1.keep2 (hk r (Nat.le_refl r) (by omega)) (fun j o n hj => ?_), gm_Wk h.2.1 (fun k a b => hk k (by omega) (by omega)), gm_Wk h.2.2 (fun k a b => hk k (by omega) (by omega))⟩
  rcases j with _ | _ | _ | _ | j
  · rcases hj with e | e
    · cases (show some (3, o1, 0) = some (1, o, n) from e)
    · cases (show some (3, o1, 0) = some (2, o, n) from e)
  · rcases hj with e | e
    · cases (show some (3, o2, 0) = some (1, o, n) from e)
    · cases (show some (3, o2, 0) = some (2, o, n) from e)
  · rcases hj with e | e
    · cases (show some (0, 0, 0) = some (1, o, n) from e)
    · cases (show some (0, 0, 0) = some (2, o, n) from e)
  · rcases hj with e | e
    · cases (show some (0, 0, 0) = some (1, o, n) from e)
    · cases (show some (0, 0, 0) = some (2, o, n) from e)
  · rcases hj with e | e
    · cases (show (none : Option (Nat × Nat × Nat)) = some (1, o, n) from e)
    · cases (show (none : Option (Nat × Nat × Nat)) = some (2, o, n) from e)
def gl_next (X : ga_X) (b0 : Nat) (lv : Nat → Option ga_V) : Prop := ∀ (σ : ga_S) (o1 o2 : Nat) (T : gx_Dc) (m : gt_T), gm_oo o1 o2 → gx_D 1 o1 o2 T σ → gt_O SX6 6 66 m σ → RLc T m → gl_G X b0 79 4115 79 445 lv [] σ
def gl_lv (lv : Nat → Option ga_V) (i : Nat) : Prop := lv 1 = some (.inr 1) ∧ lv 2 = some (.inr 66) ∧ lv 3 = some (.inl (i : Int))
set_option maxHeartbeats 4000000 in
theorem gL_crossing {X : ga_X} {nm : String} {D0 : va_G} {cI cZ : ClassId} {b0 L i : Nat} {xs : Nat → Int32} {lv : Nat → Option ga_V} (C : ga_C X cL_law (gm_y nm) wsL_law gm_nw5 room_1 (D0, vwCl, cI, cZ) 4) (hX : gl_X X b0 L xs) (hL : L ≤ 3072) (hl : gl_lv lv i) (hi : i + 5 < L) (next : gl_next X b0 lv) {o1 o2 : Nat} {T : gx_Dc} {m : gt_T} {σ : ga_S} (ho : gm_oo o1 o2) (hW : gx_D 1 o1 o2 T σ) (hM : gt_O SX6 6 66 m σ) (hR : RLc T m) : gl_G X b0 79 4115 79 100 lv [] σ := by
  obtain ⟨hl1, hl2, hl3⟩ := hl
  obtain ⟨q, h6, T', h5, hR'⟩ := oCrossing hR (xs (i + 1)).toInt (xs (i + 2)).toInt (xs (i + 3)).toInt (xs (i + 4)).toInt (xs (i + 5)).toInt
  refine gl_aload_n C dL_law_100 rfl hl1 (by decide) ?_
  refine gl_rdk (j := 1) C hX dL_law_101 rfl dL_law_102 rfl hl3 (by omega) (by omega) dL_law_103 rfl dL_law_104 dL_law_105 ?_
  refine gl_rdk (j := 2) C hX dL_law_106 rfl dL_law_107 rfl hl3 (by omega) (by omega) dL_law_108 rfl dL_law_109 dL_law_110 ?_
  refine gl_rdk (j := 3) C hX dL_law_111 rfl dL_law_112 rfl hl3 (by omega) (by omega) dL_law_113 rfl dL_law_114 dL_law_115 ?_
  refine gl_rdk (j := 4) C hX dL_law_116 rfl dL_law_117 rfl hl3 (by omega) (by omega) dL_law_118 rfl dL_law_119 dL_law_120 ?_
  refine gl_rdk (j := 5) C hX dL_law_121 rfl dL_law_122 rfl hl3 (by omega) (by omega) dL_law_123 rfl dL_law_124 dL_law_125 ?_
  refine gl_callV (mc := 0) (ms := 0) (b := 1) (st := []) (As := [.inl (xs (i + 1)).toInt, .inl (xs (i + 2)).toInt, .inl (xs (i + 3)).toInt, .inl (xs (i + 4)).toInt, .inl (xs (i + 5)).toInt]) C (eX5_crossing X.2.1 D0 cI cZ 79 (by decide) ho hW h5) gL_law_X5_crossing rfl rfl rfl (show yX5_crossing.cls ≠ "java/lang/invoke/MethodHandle" ∧ yX5_crossing.cls ≠ "java/lang/invoke/VarHandle" ∧ (parseMethodDescriptor yX5_crossing.desc).map (fun d => d.parameters.length) = some 5 by decide +kernel) ⟨Nat.le_of_ble_eq_true rfl, Nat.le_of_ble_eq_true rfl⟩ ⟨Nat.le_of_ble_eq_true rfl, Nat.le_of_ble_eq_true rfl⟩ (fun _ h => absurd h List.not_mem_nil) hW.1.1 rfl rfl (Nat.zero_le _) rfl dL_law_126 (fun σ1 r1 hp => ?_)
  obtain ⟨hp, er⟩ := hp
  subst er
  obtain ⟨hW1, f1⟩ := hp
  have hM : gt_O SX6 6 66 m σ1 := hM.keep okX6 (fun k a b => f1 k (by omega)) (by decide)
  refine gl_aload_n C dL_law_129 rfl hl2 (by decide) ?_
  refine gl_rdk (j := 1) C hX dL_law_130 rfl dL_law_131 rfl hl3 (by omega) (by omega) dL_law_132 rfl dL_law_133 dL_law_134 ?_
  refine gl_rdk (j := 2) C hX dL_law_135 rfl dL_law_136 rfl hl3 (by omega) (by omega) dL_law_137 rfl dL_law_138 dL_law_139 ?_
  refine gl_rdk (j := 3) C hX dL_law_140 rfl dL_law_141 rfl hl3 (by omega) (by omega) dL_law_142 rfl dL_law_143 dL_law_144 ?_
  refine gl_rdk (j := 4) C hX dL_law_145 rfl dL_law_146 rfl hl3 (by omega) (by omega) dL_law_147 rfl dL_law_148 dL_law_149 ?_
  refine gl_rdk (j := 5) C hX dL_law_150 rfl dL_law_151 rfl hl3 (by omega) (by omega) dL_law_152 rfl dL_law_153 dL_law_154 ?_
  refine gl_callV (mc := 0) (ms := 0) (b := 66) (st := [.inl q.2]) (As := [.inl (xs (i + 1)).toInt, .inl (xs (i + 2)).toInt, .inl (xs (i + 3)).toInt, .inl (xs (i + 4)).toInt, .inl (xs (i + 5)).toInt]) C (eX6_crossing X.2.1 D0 cI cZ 79 (by decide) hM h6) gL_law_X6_crossing rfl rfl rfl (show yX6_crossing.cls ≠ "java/lang/invoke/MethodHandle" ∧ yX6_crossing.cls ≠ "java/lang/invoke/VarHandle" ∧ (parseMethodDescriptor yX6_crossing.desc).map (fun d => d.parameters.length) = some 5 by decide +kernel) ⟨Nat.le_of_ble_eq_true rfl, Nat.le_of_ble_eq_true rfl⟩ ⟨Nat.le_of_ble_eq_true rfl, Nat.le_of_ble_eq_true rfl⟩ (fun _ h => absurd h List.not_mem_nil) hM.1 rfl rfl (Nat.le_of_ble_eq_true rfl) rfl dL_law_155 (fun σ2 r2 hp => ?_)
  obtain ⟨hp, er⟩ := hp
  subst er
  obtain ⟨hM2, f2⟩ := hp
  have hW2 := gm_Dk ho hW1 (σ' := σ2) (fun k a b => f2 k (by omega))
  exact gl_icmp_eq C dL_law_158 rfl (fun _ => next _ o1 o2 T' q.1 ho hW2 hM2 hR') (fun z => absurd rfl z)
set_option maxHeartbeats 4000000 in
theorem gL_check {X : ga_X} {nm : String} {D0 : va_G} {cI cZ : ClassId} {b0 L i : Nat} {xs : Nat → Int32} {lv : Nat → Option ga_V} (C : ga_C X cL_law (gm_y nm) wsL_law gm_nw5 room_1 (D0, vwCl, cI, cZ) 4) (hX : gl_X X b0 L xs) (hL : L ≤ 3072) (hl : gl_lv lv i) (hi : i + 5 < L) (next : gl_next X b0 lv) {o1 o2 : Nat} {T : gx_Dc} {m : gt_T} {σ : ga_S} (ho : gm_oo o1 o2) (hW : gx_D 1 o1 o2 T σ) (hM : gt_O SX6 6 66 m σ) (hR : RLc T m) : gl_G X b0 79 4115 79 163 lv [] σ := by
  obtain ⟨hl1, hl2, hl3⟩ := hl
  obtain ⟨q, h6, T', h5, hR'⟩ := oCheck hR (xs (i + 1)).toInt
  refine gl_aload_n C dL_law_163 rfl hl1 (by decide) ?_
  refine gl_rdk (j := 1) C hX dL_law_164 rfl dL_law_165 rfl hl3 (by omega) (by omega) dL_law_166 rfl dL_law_167 dL_law_168 ?_
  refine gl_callV (mc := 0) (ms := 0) (b := 1) (st := []) (As := [.inl (xs (i + 1)).toInt]) C (eX5_check X.2.1 D0 cI cZ 79 (by decide) ho hW h5) gL_law_X5_check rfl rfl rfl (show yX5_check.cls ≠ "java/lang/invoke/MethodHandle" ∧ yX5_check.cls ≠ "java/lang/invoke/VarHandle" ∧ (parseMethodDescriptor yX5_check.desc).map (fun d => d.parameters.length) = some 1 by decide +kernel) ⟨Nat.le_of_ble_eq_true rfl, Nat.le_of_ble_eq_true rfl⟩ ⟨Nat.le_of_ble_eq_true rfl, Nat.le_of_ble_eq_true rfl⟩ (fun _ h => absurd h List.not_mem_nil) hW.1.1 rfl rfl (Nat.zero_le _) rfl dL_law_169 (fun σ1 r1 hp => ?_)
  obtain ⟨hp, er⟩ := hp
  subst er
  obtain ⟨⟨p1, p2, ho1, hW1⟩, f1⟩ := hp
  have hM : gt_O SX6 6 66 m σ1 := hM.keep okX6 (fun k a b => f1 k (by omega)) (by decide)
  refine gl_aload_n C dL_law_172 rfl hl2 (by decide) ?_
  refine gl_rdk (j := 1) C hX dL_law_173 rfl dL_law_174 rfl hl3 (by omega) (by omega) dL_law_175 rfl dL_law_176 dL_law_177 ?_
  refine gl_callV (mc := 0) (ms := 0) (b := 66) (st := [.inl q.2]) (As := [.inl (xs (i + 1)).toInt]) C (eX6_check X.2.1 D0 cI cZ 79 (by decide) hM h6) gL_law_X6_check rfl rfl rfl (show yX6_check.cls ≠ "java/lang/invoke/MethodHandle" ∧ yX6_check.cls ≠ "java/lang/invoke/VarHandle" ∧ (parseMethodDescriptor yX6_check.desc).map (fun d => d.parameters.length) = some 1 by decide +kernel) ⟨Nat.le_of_ble_eq_true rfl, Nat.le_of_ble_eq_true rfl⟩ ⟨Nat.le_of_ble_eq_true rfl, Nat.le_of_ble_eq_true rfl⟩ (fun _ h => absurd h List.not_mem_nil) hM.1 rfl rfl (Nat.le_of_ble_eq_true rfl) rfl dL_law_178 (fun σ2 r2 hp => ?_)
  obtain ⟨hp, er⟩ := hp
  subst er
  obtain ⟨hM2, f2⟩ := hp
  have hW2 := gm_Dk ho1 hW1 (σ' := σ2) (fun k a b => f2 k (by omega))
  exact gl_icmp_eq C dL_law_181 rfl (fun _ => next _ p1 p2 T' q.1 ho1 hW2 hM2 hR') (fun z => absurd rfl z)
set_option maxHeartbeats 4000000 in
theorem gL_which {X : ga_X} {nm : String} {D0 : va_G} {cI cZ : ClassId} {b0 L i : Nat} {xs : Nat → Int32} {lv : Nat → Option ga_V} (C : ga_C X cL_law (gm_y nm) wsL_law gm_nw5 room_1 (D0, vwCl, cI, cZ) 4) (hX : gl_X X b0 L xs) (hL : L ≤ 3072) (hl : gl_lv lv i) (hi : i + 5 < L) (next : gl_next X b0 lv) {o1 o2 : Nat} {T : gx_Dc} {m : gt_T} {σ : ga_S} (ho : gm_oo o1 o2) (hW : gx_D 1 o1 o2 T σ) (hM : gt_O SX6 6 66 m σ) (hR : RLc T m) : gl_G X b0 79 4115 79 186 lv [] σ := by
  obtain ⟨hl1, hl2, hl3⟩ := hl
  obtain ⟨v, h5, h6⟩ := oWhich hR.n
  refine gl_aload_n C dL_law_186 rfl hl1 (by decide) ?_
  refine gl_callV (mc := 0) (ms := 0) (b := 1) (st := []) (As := []) C (eX5_which X.2.1 D0 cI cZ 79 (by decide) ho hW h5) gL_law_X5_which rfl rfl rfl (show yX5_which.cls ≠ "java/lang/invoke/MethodHandle" ∧ yX5_which.cls ≠ "java/lang/invoke/VarHandle" ∧ (parseMethodDescriptor yX5_which.desc).map (fun d => d.parameters.length) = some 0 by decide +kernel) ⟨Nat.le_of_ble_eq_true rfl, Nat.le_of_ble_eq_true rfl⟩ ⟨Nat.le_of_ble_eq_true rfl, Nat.le_of_ble_eq_true rfl⟩ (fun _ h => absurd h List.not_mem_nil) hW.1.1 rfl rfl (Nat.zero_le _) rfl dL_law_187 (fun σ1 r1 hp => ?_)
  obtain ⟨hp, er⟩ := hp
  subst er
  subst hp
  refine gl_aload_n C dL_law_190 rfl hl2 (by decide) ?_
  refine gl_callV (mc := 0) (ms := 0) (b := 66) (st := [.inl v]) (As := []) C (eX6_which X.2.1 D0 cI cZ 79 (by decide) hM h6) gL_law_X6_which rfl rfl rfl (show yX6_which.cls ≠ "java/lang/invoke/MethodHandle" ∧ yX6_which.cls ≠ "java/lang/invoke/VarHandle" ∧ (parseMethodDescriptor yX6_which.desc).map (fun d => d.parameters.length) = some 0 by decide +kernel) ⟨Nat.le_of_ble_eq_true rfl, Nat.le_of_ble_eq_true rfl⟩ ⟨Nat.le_of_ble_eq_true rfl, Nat.le_of_ble_eq_true rfl⟩ (fun _ h => absurd h List.not_mem_nil) hM.1 rfl rfl (Nat.le_of_ble_eq_true rfl) rfl dL_law_191 (fun σ2 r2 hp => ?_)
  obtain ⟨hp, er⟩ := hp
  subst er
  subst hp
  exact gl_icmp_eq C dL_law_194 rfl (fun _ => next _ o1 o2 T m ho hW hM hR) (fun z => absurd rfl z)
set_option maxHeartbeats 4000000 in
theorem gL_many {X : ga_X} {nm : String} {D0 : va_G} {cI cZ : ClassId} {b0 L i : Nat} {xs : Nat → Int32} {lv : Nat → Option ga_V} (C : ga_C X cL_law (gm_y nm) wsL_law gm_nw5 room_1 (D0, vwCl, cI, cZ) 4) (hX : gl_X X b0 L xs) (hL : L ≤ 3072) (hl : gl_lv lv i) (hi : i + 5 < L) (next : gl_next X b0 lv) {o1 o2 : Nat} {T : gx_Dc} {m : gt_T} {σ : ga_S} (ho : gm_oo o1 o2) (hW : gx_D 1 o1 o2 T σ) (hM : gt_O SX6 6 66 m σ) (hR : RLc T m) : gl_G X b0 79 4115 79 199 lv [] σ := by
  obtain ⟨hl1, hl2, hl3⟩ := hl
  obtain ⟨q, h6, hF, h5⟩ := oMany hR.n (xs (i + 1)).toInt
  refine gl_aload_n C dL_law_199 rfl hl1 (by decide) ?_
  refine gl_rdk (j := 1) C hX dL_law_200 rfl dL_law_201 rfl hl3 (by omega) (by omega) dL_law_202 rfl dL_law_203 dL_law_204 ?_
  refine gl_callV (mc := 0) (ms := 0) (b := 1) (st := []) (As := [.inl (xs (i + 1)).toInt]) C (eX5_many X.2.1 D0 cI cZ 79 (by decide) ho hW h5) gL_law_X5_many rfl rfl rfl (show yX5_many.cls ≠ "java/lang/invoke/MethodHandle" ∧ yX5_many.cls ≠ "java/lang/invoke/VarHandle" ∧ (parseMethodDescriptor yX5_many.desc).map (fun d => d.parameters.length) = some 1 by decide +kernel) ⟨Nat.le_of_ble_eq_true rfl, Nat.le_of_ble_eq_true rfl⟩ ⟨Nat.le_of_ble_eq_true rfl, Nat.le_of_ble_eq_true rfl⟩ (fun _ h => absurd h List.not_mem_nil) hW.1.1 rfl rfl (Nat.zero_le _) rfl dL_law_205 (fun σ1 r1 hp => ?_)
  obtain ⟨hp, er⟩ := hp
  subst er
  subst hp
  refine gl_aload_n C dL_law_208 rfl hl2 (by decide) ?_
  refine gl_rdk (j := 1) C hX dL_law_209 rfl dL_law_210 rfl hl3 (by omega) (by omega) dL_law_211 rfl dL_law_212 dL_law_213 ?_
  refine gl_callV (mc := 0) (ms := 0) (b := 66) (st := [.inl q.2]) (As := [.inl (xs (i + 1)).toInt]) C (eX6_many X.2.1 D0 cI cZ 79 (by decide) hM h6) gL_law_X6_many rfl rfl rfl (show yX6_many.cls ≠ "java/lang/invoke/MethodHandle" ∧ yX6_many.cls ≠ "java/lang/invoke/VarHandle" ∧ (parseMethodDescriptor yX6_many.desc).map (fun d => d.parameters.length) = some 1 by decide +kernel) ⟨Nat.le_of_ble_eq_true rfl, Nat.le_of_ble_eq_true rfl⟩ ⟨Nat.le_of_ble_eq_true rfl, Nat.le_of_ble_eq_true rfl⟩ (fun _ h => absurd h List.not_mem_nil) hM.1 rfl rfl (Nat.le_of_ble_eq_true rfl) rfl dL_law_214 (fun σ2 r2 hp => ?_)
  obtain ⟨hp, er⟩ := hp
  subst er
  obtain ⟨hM2, f2⟩ := hp
  have hW2 := gm_Dk ho hW (σ' := σ2) (fun k a b => f2 k (by omega))
  exact gl_icmp_eq C dL_law_217 rfl (fun _ => next _ o1 o2 T q.1 ho hW2 hM2 (hR.F hF)) (fun z => absurd rfl z)
set_option maxHeartbeats 4000000 in
theorem gL_look {X : ga_X} {nm : String} {D0 : va_G} {cI cZ : ClassId} {b0 L i : Nat} {xs : Nat → Int32} {lv : Nat → Option ga_V} (C : ga_C X cL_law (gm_y nm) wsL_law gm_nw5 room_1 (D0, vwCl, cI, cZ) 4) (hX : gl_X X b0 L xs) (hL : L ≤ 3072) (hl : gl_lv lv i) (hi : i + 5 < L) (next : gl_next X b0 lv) {o1 o2 : Nat} {T : gx_Dc} {m : gt_T} {σ : ga_S} (ho : gm_oo o1 o2) (hW : gx_D 1 o1 o2 T σ) (hM : gt_O SX6 6 66 m σ) (hR : RLc T m) : gl_G X b0 79 4115 79 222 lv [] σ := by
  obtain ⟨hl1, hl2, hl3⟩ := hl
  obtain ⟨q, h6, hF, h5⟩ := oLook hR.n (xs (i + 1)).toInt (xs (i + 2)).toInt
  refine gl_aload_n C dL_law_222 rfl hl1 (by decide) ?_
  refine gl_rdk (j := 1) C hX dL_law_223 rfl dL_law_224 rfl hl3 (by omega) (by omega) dL_law_225 rfl dL_law_226 dL_law_227 ?_
  refine gl_rdk (j := 2) C hX dL_law_228 rfl dL_law_229 rfl hl3 (by omega) (by omega) dL_law_230 rfl dL_law_231 dL_law_232 ?_
  refine gl_callV (mc := 0) (ms := 0) (b := 1) (st := []) (As := [.inl (xs (i + 1)).toInt, .inl (xs (i + 2)).toInt]) C (eX5_look X.2.1 D0 cI cZ 79 (by decide) ho hW h5) gL_law_X5_look rfl rfl rfl (show yX5_look.cls ≠ "java/lang/invoke/MethodHandle" ∧ yX5_look.cls ≠ "java/lang/invoke/VarHandle" ∧ (parseMethodDescriptor yX5_look.desc).map (fun d => d.parameters.length) = some 2 by decide +kernel) ⟨Nat.le_of_ble_eq_true rfl, Nat.le_of_ble_eq_true rfl⟩ ⟨Nat.le_of_ble_eq_true rfl, Nat.le_of_ble_eq_true rfl⟩ (fun _ h => absurd h List.not_mem_nil) hW.1.1 rfl rfl (Nat.zero_le _) rfl dL_law_233 (fun σ1 r1 hp => ?_)
  obtain ⟨hp, er⟩ := hp
  subst er
  subst hp
  refine gl_aload_n C dL_law_236 rfl hl2 (by decide) ?_
  refine gl_rdk (j := 1) C hX dL_law_237 rfl dL_law_238 rfl hl3 (by omega) (by omega) dL_law_239 rfl dL_law_240 dL_law_241 ?_
  refine gl_rdk (j := 2) C hX dL_law_242 rfl dL_law_243 rfl hl3 (by omega) (by omega) dL_law_244 rfl dL_law_245 dL_law_246 ?_
  refine gl_callV (mc := 0) (ms := 0) (b := 66) (st := [.inl q.2]) (As := [.inl (xs (i + 1)).toInt, .inl (xs (i + 2)).toInt]) C (eX6_look X.2.1 D0 cI cZ 79 (by decide) hM h6) gL_law_X6_look rfl rfl rfl (show yX6_look.cls ≠ "java/lang/invoke/MethodHandle" ∧ yX6_look.cls ≠ "java/lang/invoke/VarHandle" ∧ (parseMethodDescriptor yX6_look.desc).map (fun d => d.parameters.length) = some 2 by decide +kernel) ⟨Nat.le_of_ble_eq_true rfl, Nat.le_of_ble_eq_true rfl⟩ ⟨Nat.le_of_ble_eq_true rfl, Nat.le_of_ble_eq_true rfl⟩ (fun _ h => absurd h List.not_mem_nil) hM.1 rfl rfl (Nat.le_of_ble_eq_true rfl) rfl dL_law_247 (fun σ2 r2 hp => ?_)
  obtain ⟨hp, er⟩ := hp
  subst er
  obtain ⟨hM2, f2⟩ := hp
  have hW2 := gm_Dk ho hW (σ' := σ2) (fun k a b => f2 k (by omega))
  exact gl_icmp_eq C dL_law_250 rfl (fun _ => next _ o1 o2 T q.1 ho hW2 hM2 (hR.F hF)) (fun z => absurd rfl z)
set_option maxHeartbeats 4000000 in
theorem gL_edge {X : ga_X} {nm : String} {D0 : va_G} {cI cZ : ClassId} {b0 L i : Nat} {xs : Nat → Int32} {lv : Nat → Option ga_V} (C : ga_C X cL_law (gm_y nm) wsL_law gm_nw5 room_1 (D0, vwCl, cI, cZ) 4) (hX : gl_X X b0 L xs) (hL : L ≤ 3072) (hl : gl_lv lv i) (hi : i + 5 < L) (next : gl_next X b0 lv) {o1 o2 : Nat} {T : gx_Dc} {m : gt_T} {σ : ga_S} (ho : gm_oo o1 o2) (hW : gx_D 1 o1 o2 T σ) (hM : gt_O SX6 6 66 m σ) (hR : RLc T m) : gl_G X b0 79 4115 79 255 lv [] σ := by
  obtain ⟨hl1, hl2, hl3⟩ := hl
  obtain ⟨q, h6, hF, h5⟩ := oEdge hR.n (xs (i + 1)).toInt (xs (i + 2)).toInt
  refine gl_aload_n C dL_law_255 rfl hl1 (by decide) ?_
  refine gl_rdk (j := 1) C hX dL_law_256 rfl dL_law_257 rfl hl3 (by omega) (by omega) dL_law_258 rfl dL_law_259 dL_law_260 ?_
  refine gl_rdk (j := 2) C hX dL_law_261 rfl dL_law_262 rfl hl3 (by omega) (by omega) dL_law_263 rfl dL_law_264 dL_law_265 ?_
  refine gl_callV (mc := 0) (ms := 0) (b := 1) (st := []) (As := [.inl (xs (i + 1)).toInt, .inl (xs (i + 2)).toInt]) C (eX5_edge X.2.1 D0 cI cZ 79 (by decide) ho hW h5) gL_law_X5_edge rfl rfl rfl (show yX5_edge.cls ≠ "java/lang/invoke/MethodHandle" ∧ yX5_edge.cls ≠ "java/lang/invoke/VarHandle" ∧ (parseMethodDescriptor yX5_edge.desc).map (fun d => d.parameters.length) = some 2 by decide +kernel) ⟨Nat.le_of_ble_eq_true rfl, Nat.le_of_ble_eq_true rfl⟩ ⟨Nat.le_of_ble_eq_true rfl, Nat.le_of_ble_eq_true rfl⟩ (fun _ h => absurd h List.not_mem_nil) hW.1.1 rfl rfl (Nat.zero_le _) rfl dL_law_266 (fun σ1 r1 hp => ?_)
  obtain ⟨hp, er⟩ := hp
  subst er
  subst hp
  refine gl_aload_n C dL_law_269 rfl hl2 (by decide) ?_
  refine gl_rdk (j := 1) C hX dL_law_270 rfl dL_law_271 rfl hl3 (by omega) (by omega) dL_law_272 rfl dL_law_273 dL_law_274 ?_
  refine gl_rdk (j := 2) C hX dL_law_275 rfl dL_law_276 rfl hl3 (by omega) (by omega) dL_law_277 rfl dL_law_278 dL_law_279 ?_
  refine gl_callV (mc := 0) (ms := 0) (b := 66) (st := [.inl q.2]) (As := [.inl (xs (i + 1)).toInt, .inl (xs (i + 2)).toInt]) C (eX6_edge X.2.1 D0 cI cZ 79 (by decide) hM h6) gL_law_X6_edge rfl rfl rfl (show yX6_edge.cls ≠ "java/lang/invoke/MethodHandle" ∧ yX6_edge.cls ≠ "java/lang/invoke/VarHandle" ∧ (parseMethodDescriptor yX6_edge.desc).map (fun d => d.parameters.length) = some 2 by decide +kernel) ⟨Nat.le_of_ble_eq_true rfl, Nat.le_of_ble_eq_true rfl⟩ ⟨Nat.le_of_ble_eq_true rfl, Nat.le_of_ble_eq_true rfl⟩ (fun _ h => absurd h List.not_mem_nil) hM.1 rfl rfl (Nat.le_of_ble_eq_true rfl) rfl dL_law_280 (fun σ2 r2 hp => ?_)
  obtain ⟨hp, er⟩ := hp
  subst er
  obtain ⟨hM2, f2⟩ := hp
  have hW2 := gm_Dk ho hW (σ' := σ2) (fun k a b => f2 k (by omega))
  exact gl_icmp_eq C dL_law_283 rfl (fun _ => next _ o1 o2 T q.1 ho hW2 hM2 (hR.F hF)) (fun z => absurd rfl z)
set_option maxHeartbeats 4000000 in
theorem gL_component {X : ga_X} {nm : String} {D0 : va_G} {cI cZ : ClassId} {b0 L i : Nat} {xs : Nat → Int32} {lv : Nat → Option ga_V} (C : ga_C X cL_law (gm_y nm) wsL_law gm_nw5 room_1 (D0, vwCl, cI, cZ) 4) (hX : gl_X X b0 L xs) (hL : L ≤ 3072) (hl : gl_lv lv i) (hi : i + 5 < L) (next : gl_next X b0 lv) {o1 o2 : Nat} {T : gx_Dc} {m : gt_T} {σ : ga_S} (ho : gm_oo o1 o2) (hW : gx_D 1 o1 o2 T σ) (hM : gt_O SX6 6 66 m σ) (hR : RLc T m) : gl_G X b0 79 4115 79 288 lv [] σ := by
  obtain ⟨hl1, hl2, hl3⟩ := hl
  obtain ⟨q, h6, hF, h5⟩ := oComponent hR.n (xs (i + 1)).toInt (xs (i + 2)).toInt (gl_i32 _).1
  refine gl_aload_n C dL_law_288 rfl hl1 (by decide) ?_
  refine gl_rdk (j := 1) C hX dL_law_289 rfl dL_law_290 rfl hl3 (by omega) (by omega) dL_law_291 rfl dL_law_292 dL_law_293 ?_
  refine gl_rdk (j := 2) C hX dL_law_294 rfl dL_law_295 rfl hl3 (by omega) (by omega) dL_law_296 rfl dL_law_297 dL_law_298 ?_
  refine gl_callV (mc := 0) (ms := 0) (b := 1) (st := []) (As := [.inl (xs (i + 1)).toInt, .inl (xs (i + 2)).toInt]) C (eX5_component X.2.1 D0 cI cZ 79 (by decide) ho hW h5) gL_law_X5_component rfl rfl rfl (show yX5_component.cls ≠ "java/lang/invoke/MethodHandle" ∧ yX5_component.cls ≠ "java/lang/invoke/VarHandle" ∧ (parseMethodDescriptor yX5_component.desc).map (fun d => d.parameters.length) = some 2 by decide +kernel) ⟨Nat.le_of_ble_eq_true rfl, Nat.le_of_ble_eq_true rfl⟩ ⟨Nat.le_of_ble_eq_true rfl, Nat.le_of_ble_eq_true rfl⟩ (fun _ h => absurd h List.not_mem_nil) hW.1.1 rfl rfl (Nat.zero_le _) rfl dL_law_299 (fun σ1 r1 hp => ?_)
  obtain ⟨hp, er⟩ := hp
  subst er
  subst hp
  refine gl_aload_n C dL_law_302 rfl hl2 (by decide) ?_
  refine gl_rdk (j := 1) C hX dL_law_303 rfl dL_law_304 rfl hl3 (by omega) (by omega) dL_law_305 rfl dL_law_306 dL_law_307 ?_
  refine gl_rdk (j := 2) C hX dL_law_308 rfl dL_law_309 rfl hl3 (by omega) (by omega) dL_law_310 rfl dL_law_311 dL_law_312 ?_
  refine gl_callV (mc := 0) (ms := 0) (b := 66) (st := [.inl q.2]) (As := [.inl (xs (i + 1)).toInt, .inl (xs (i + 2)).toInt]) C (eX6_component X.2.1 D0 cI cZ 79 (by decide) hM h6) gL_law_X6_component rfl rfl rfl (show yX6_component.cls ≠ "java/lang/invoke/MethodHandle" ∧ yX6_component.cls ≠ "java/lang/invoke/VarHandle" ∧ (parseMethodDescriptor yX6_component.desc).map (fun d => d.parameters.length) = some 2 by decide +kernel) ⟨Nat.le_of_ble_eq_true rfl, Nat.le_of_ble_eq_true rfl⟩ ⟨Nat.le_of_ble_eq_true rfl, Nat.le_of_ble_eq_true rfl⟩ (fun _ h => absurd h List.not_mem_nil) hM.1 rfl rfl (Nat.le_of_ble_eq_true rfl) rfl dL_law_313 (fun σ2 r2 hp => ?_)
  obtain ⟨hp, er⟩ := hp
  subst er
  obtain ⟨hM2, f2⟩ := hp
  have hW2 := gm_Dk ho hW (σ' := σ2) (fun k a b => f2 k (by omega))
  exact gl_icmp_eq C dL_law_316 rfl (fun _ => next _ o1 o2 T q.1 ho hW2 hM2 (hR.F hF)) (fun z => absurd rfl z)
set_option maxHeartbeats 4000000 in
theorem gL_face {X : ga_X} {nm : String} {D0 : va_G} {cI cZ : ClassId} {b0 L i : Nat} {xs : Nat → Int32} {lv : Nat → Option ga_V} (C : ga_C X cL_law (gm_y nm) wsL_law gm_nw5 room_1 (D0, vwCl, cI, cZ) 4) (hX : gl_X X b0 L xs) (hL : L ≤ 3072) (hl : gl_lv lv i) (hi : i + 5 < L) (next : gl_next X b0 lv) {o1 o2 : Nat} {T : gx_Dc} {m : gt_T} {σ : ga_S} (ho : gm_oo o1 o2) (hW : gx_D 1 o1 o2 T σ) (hM : gt_O SX6 6 66 m σ) (hR : RLc T m) : gl_G X b0 79 4115 79 321 lv [] σ := by
  obtain ⟨hl1, hl2, hl3⟩ := hl
  obtain ⟨q, h6, hF, h5⟩ := oFace hR.n (xs (i + 1)).toInt (xs (i + 2)).toInt
  refine gl_aload_n C dL_law_321 rfl hl1 (by decide) ?_
  refine gl_rdk (j := 1) C hX dL_law_322 rfl dL_law_323 rfl hl3 (by omega) (by omega) dL_law_324 rfl dL_law_325 dL_law_326 ?_
  refine gl_rdk (j := 2) C hX dL_law_327 rfl dL_law_328 rfl hl3 (by omega) (by omega) dL_law_329 rfl dL_law_330 dL_law_331 ?_
  refine gl_callV (mc := 0) (ms := 0) (b := 1) (st := []) (As := [.inl (xs (i + 1)).toInt, .inl (xs (i + 2)).toInt]) C (eX5_face X.2.1 D0 cI cZ 79 (by decide) ho hW h5) gL_law_X5_face rfl rfl rfl (show yX5_face.cls ≠ "java/lang/invoke/MethodHandle" ∧ yX5_face.cls ≠ "java/lang/invoke/VarHandle" ∧ (parseMethodDescriptor yX5_face.desc).map (fun d => d.parameters.length) = some 2 by decide +kernel) ⟨Nat.le_of_ble_eq_true rfl, Nat.le_of_ble_eq_true rfl⟩ ⟨Nat.le_of_ble_eq_true rfl, Nat.le_of_ble_eq_true rfl⟩ (fun _ h => absurd h List.not_mem_nil) hW.1.1 rfl rfl (Nat.zero_le _) rfl dL_law_332 (fun σ1 r1 hp => ?_)
  obtain ⟨hp, er⟩ := hp
  subst er
  subst hp
  refine gl_aload_n C dL_law_335 rfl hl2 (by decide) ?_
  refine gl_rdk (j := 1) C hX dL_law_336 rfl dL_law_337 rfl hl3 (by omega) (by omega) dL_law_338 rfl dL_law_339 dL_law_340 ?_
  refine gl_rdk (j := 2) C hX dL_law_341 rfl dL_law_342 rfl hl3 (by omega) (by omega) dL_law_343 rfl dL_law_344 dL_law_345 ?_
  refine gl_callV (mc := 0) (ms := 0) (b := 66) (st := [.inl q.2]) (As := [.inl (xs (i + 1)).toInt, .inl (xs (i + 2)).toInt]) C (eX6_face X.2.1 D0 cI cZ 79 (by decide) hM h6) gL_law_X6_face rfl rfl rfl (show yX6_face.cls ≠ "java/lang/invoke/MethodHandle" ∧ yX6_face.cls ≠ "java/lang/invoke/VarHandle" ∧ (parseMethodDescriptor yX6_face.desc).map (fun d => d.parameters.length) = some 2 by decide +kernel) ⟨Nat.le_of_ble_eq_true rfl, Nat.le_of_ble_eq_true rfl⟩ ⟨Nat.le_of_ble_eq_true rfl, Nat.le_of_ble_eq_true rfl⟩ (fun _ h => absurd h List.not_mem_nil) hM.1 rfl rfl (Nat.le_of_ble_eq_true rfl) rfl dL_law_346 (fun σ2 r2 hp => ?_)
  obtain ⟨hp, er⟩ := hp
  subst er
  obtain ⟨hM2, f2⟩ := hp
  have hW2 := gm_Dk ho hW (σ' := σ2) (fun k a b => f2 k (by omega))
  exact gl_icmp_eq C dL_law_349 rfl (fun _ => next _ o1 o2 T q.1 ho hW2 hM2 (hR.F hF)) (fun z => absurd rfl z)
set_option maxHeartbeats 4000000 in
theorem gL_mirror {X : ga_X} {nm : String} {D0 : va_G} {cI cZ : ClassId} {b0 L i : Nat} {xs : Nat → Int32} {lv : Nat → Option ga_V} (C : ga_C X cL_law (gm_y nm) wsL_law gm_nw5 room_1 (D0, vwCl, cI, cZ) 4) (hX : gl_X X b0 L xs) (hL : L ≤ 3072) (hl : gl_lv lv i) (hi : i + 5 < L) (next : gl_next X b0 lv) {o1 o2 : Nat} {T : gx_Dc} {m : gt_T} {σ : ga_S} (ho : gm_oo o1 o2) (hW : gx_D 1 o1 o2 T σ) (hM : gt_O SX6 6 66 m σ) (hR : RLc T m) : gl_G X b0 79 4115 79 354 lv [] σ := by
  obtain ⟨hl1, hl2, hl3⟩ := hl
  obtain ⟨q, h6, T', h5, hR'⟩ := oMirror hR
  refine gl_aload_n C dL_law_354 rfl hl1 (by decide) ?_
  refine gl_callV (mc := 0) (ms := 0) (b := 1) (st := []) (As := []) C (eX5_mirror X.2.1 D0 cI cZ 79 (by decide) ho hW h5) gL_law_X5_mirror rfl rfl rfl (show yX5_mirror.cls ≠ "java/lang/invoke/MethodHandle" ∧ yX5_mirror.cls ≠ "java/lang/invoke/VarHandle" ∧ (parseMethodDescriptor yX5_mirror.desc).map (fun d => d.parameters.length) = some 0 by decide +kernel) ⟨Nat.le_of_ble_eq_true rfl, Nat.le_of_ble_eq_true rfl⟩ ⟨Nat.le_of_ble_eq_true rfl, Nat.le_of_ble_eq_true rfl⟩ (fun _ h => absurd h List.not_mem_nil) hW.1.1 rfl rfl (Nat.zero_le _) rfl dL_law_355 (fun σ1 r1 hp => ?_)
  obtain ⟨hp, er⟩ := hp
  subst er
  obtain ⟨hW1, f1⟩ := hp
  have hM : gt_O SX6 6 66 m σ1 := hM.keep okX6 (fun k a b => f1 k (by omega)) (by decide)
  refine gl_aload_n C dL_law_358 rfl hl2 (by decide) ?_
  refine gl_callV (mc := 0) (ms := 0) (b := 66) (st := []) (As := []) C (eX6_mirror X.2.1 D0 cI cZ 79 (by decide) hM h6) gL_law_X6_mirror rfl rfl rfl (show yX6_mirror.cls ≠ "java/lang/invoke/MethodHandle" ∧ yX6_mirror.cls ≠ "java/lang/invoke/VarHandle" ∧ (parseMethodDescriptor yX6_mirror.desc).map (fun d => d.parameters.length) = some 0 by decide +kernel) ⟨Nat.le_of_ble_eq_true rfl, Nat.le_of_ble_eq_true rfl⟩ ⟨Nat.le_of_ble_eq_true rfl, Nat.le_of_ble_eq_true rfl⟩ (fun _ h => absurd h List.not_mem_nil) hM.1 rfl rfl (Nat.le_of_ble_eq_true rfl) rfl dL_law_359 (fun σ2 r2 hp => ?_)
  obtain ⟨hp, er⟩ := hp
  subst er
  obtain ⟨hM2, f2⟩ := hp
  have hW2 := gm_Dk ho hW1 (σ' := σ2) (fun k a b => f2 k (by omega))
  exact gl_goto C dL_law_362 rfl (next _ o1 o2 T' q ho hW2 hM2 hR')
set_option maxHeartbeats 4000000 in
theorem gL_reverse {X : ga_X} {nm : String} {D0 : va_G} {cI cZ : ClassId} {b0 L i : Nat} {xs : Nat → Int32} {lv : Nat → Option ga_V} (C : ga_C X cL_law (gm_y nm) wsL_law gm_nw5 room_1 (D0, vwCl, cI, cZ) 4) (hX : gl_X X b0 L xs) (hL : L ≤ 3072) (hl : gl_lv lv i) (hi : i + 5 < L) (next : gl_next X b0 lv) {o1 o2 : Nat} {T : gx_Dc} {m : gt_T} {σ : ga_S} (ho : gm_oo o1 o2) (hW : gx_D 1 o1 o2 T σ) (hM : gt_O SX6 6 66 m σ) (hR : RLc T m) : gl_G X b0 79 4115 79 365 lv [] σ := by
  obtain ⟨hl1, hl2, hl3⟩ := hl
  obtain ⟨q, h6, T', h5, hR'⟩ := oReverse hR (xs (i + 1)).toInt
  refine gl_aload_n C dL_law_365 rfl hl1 (by decide) ?_
  refine gl_rdk (j := 1) C hX dL_law_366 rfl dL_law_367 rfl hl3 (by omega) (by omega) dL_law_368 rfl dL_law_369 dL_law_370 ?_
  refine gl_callV (mc := 0) (ms := 0) (b := 1) (st := []) (As := [.inl (xs (i + 1)).toInt]) C (eX5_reverse X.2.1 D0 cI cZ 79 (by decide) ho hW h5) gL_law_X5_reverse rfl rfl rfl (show yX5_reverse.cls ≠ "java/lang/invoke/MethodHandle" ∧ yX5_reverse.cls ≠ "java/lang/invoke/VarHandle" ∧ (parseMethodDescriptor yX5_reverse.desc).map (fun d => d.parameters.length) = some 1 by decide +kernel) ⟨Nat.le_of_ble_eq_true rfl, Nat.le_of_ble_eq_true rfl⟩ ⟨Nat.le_of_ble_eq_true rfl, Nat.le_of_ble_eq_true rfl⟩ (fun _ h => absurd h List.not_mem_nil) hW.1.1 rfl rfl (Nat.zero_le _) rfl dL_law_371 (fun σ1 r1 hp => ?_)
  obtain ⟨hp, er⟩ := hp
  subst er
  obtain ⟨hW1, f1⟩ := hp
  have hM : gt_O SX6 6 66 m σ1 := hM.keep okX6 (fun k a b => f1 k (by omega)) (by decide)
  refine gl_aload_n C dL_law_374 rfl hl2 (by decide) ?_
  refine gl_rdk (j := 1) C hX dL_law_375 rfl dL_law_376 rfl hl3 (by omega) (by omega) dL_law_377 rfl dL_law_378 dL_law_379 ?_
  refine gl_callV (mc := 0) (ms := 0) (b := 66) (st := [.inl q.2]) (As := [.inl (xs (i + 1)).toInt]) C (eX6_reverse X.2.1 D0 cI cZ 79 (by decide) hM h6) gL_law_X6_reverse rfl rfl rfl (show yX6_reverse.cls ≠ "java/lang/invoke/MethodHandle" ∧ yX6_reverse.cls ≠ "java/lang/invoke/VarHandle" ∧ (parseMethodDescriptor yX6_reverse.desc).map (fun d => d.parameters.length) = some 1 by decide +kernel) ⟨Nat.le_of_ble_eq_true rfl, Nat.le_of_ble_eq_true rfl⟩ ⟨Nat.le_of_ble_eq_true rfl, Nat.le_of_ble_eq_true rfl⟩ (fun _ h => absurd h List.not_mem_nil) hM.1 rfl rfl (Nat.le_of_ble_eq_true rfl) rfl dL_law_380 (fun σ2 r2 hp => ?_)
  obtain ⟨hp, er⟩ := hp
  subst er
  obtain ⟨hM2, f2⟩ := hp
  have hW2 := gm_Dk ho hW1 (σ' := σ2) (fun k a b => f2 k (by omega))
  exact gl_icmp_eq C dL_law_383 rfl (fun _ => next _ o1 o2 T' q.1 ho hW2 hM2 hR') (fun z => absurd rfl z)
set_option maxHeartbeats 4000000 in
theorem gL_number {X : ga_X} {nm : String} {D0 : va_G} {cI cZ : ClassId} {b0 L i : Nat} {xs : Nat → Int32} {lv : Nat → Option ga_V} (C : ga_C X cL_law (gm_y nm) wsL_law gm_nw5 room_1 (D0, vwCl, cI, cZ) 4) (hX : gl_X X b0 L xs) (hL : L ≤ 3072) (hl : gl_lv lv i) (hi : i + 5 < L) (next : gl_next X b0 lv) {o1 o2 : Nat} {T : gx_Dc} {m : gt_T} {σ : ga_S} (ho : gm_oo o1 o2) (hW : gx_D 1 o1 o2 T σ) (hM : gt_O SX6 6 66 m σ) (hR : RLc T m) : gl_G X b0 79 4115 79 388 lv [] σ := by
  obtain ⟨hl1, hl2, hl3⟩ := hl
  obtain ⟨q, h6, T', h5, hR'⟩ := oNumber hR
  refine gl_aload_n C dL_law_388 rfl hl1 (by decide) ?_
  refine gl_callV (mc := 0) (ms := 0) (b := 1) (st := []) (As := []) C (eX5_number X.2.1 D0 cI cZ 79 (by decide) ho hW h5) gL_law_X5_number rfl rfl rfl (show yX5_number.cls ≠ "java/lang/invoke/MethodHandle" ∧ yX5_number.cls ≠ "java/lang/invoke/VarHandle" ∧ (parseMethodDescriptor yX5_number.desc).map (fun d => d.parameters.length) = some 0 by decide +kernel) ⟨Nat.le_of_ble_eq_true rfl, Nat.le_of_ble_eq_true rfl⟩ ⟨Nat.le_of_ble_eq_true rfl, Nat.le_of_ble_eq_true rfl⟩ (fun _ h => absurd h List.not_mem_nil) hW.1.1 rfl rfl (Nat.zero_le _) rfl dL_law_389 (fun σ1 r1 hp => ?_)
  obtain ⟨hp, er⟩ := hp
  subst er
  obtain ⟨hW1, f1⟩ := hp
  have hM : gt_O SX6 6 66 m σ1 := hM.keep okX6 (fun k a b => f1 k (by omega)) (by decide)
  refine gl_aload_n C dL_law_392 rfl hl2 (by decide) ?_
  refine gl_callV (mc := 0) (ms := 0) (b := 66) (st := []) (As := []) C (eX6_number X.2.1 D0 cI cZ 79 (by decide) hM h6) gL_law_X6_number rfl rfl rfl (show yX6_number.cls ≠ "java/lang/invoke/MethodHandle" ∧ yX6_number.cls ≠ "java/lang/invoke/VarHandle" ∧ (parseMethodDescriptor yX6_number.desc).map (fun d => d.parameters.length) = some 0 by decide +kernel) ⟨Nat.le_of_ble_eq_true rfl, Nat.le_of_ble_eq_true rfl⟩ ⟨Nat.le_of_ble_eq_true rfl, Nat.le_of_ble_eq_true rfl⟩ (fun _ h => absurd h List.not_mem_nil) hM.1 rfl rfl (Nat.le_of_ble_eq_true rfl) rfl dL_law_393 (fun σ2 r2 hp => ?_)
  obtain ⟨hp, er⟩ := hp
  subst er
  obtain ⟨hM2, f2⟩ := hp
  have hW2 := gm_Dk ho hW1 (σ' := σ2) (fun k a b => f2 k (by omega))
  exact gl_goto C dL_law_396 rfl (next _ o1 o2 T' q ho hW2 hM2 hR')
set_option maxHeartbeats 4000000 in
theorem gL_change {X : ga_X} {nm : String} {D0 : va_G} {cI cZ : ClassId} {b0 L i : Nat} {xs : Nat → Int32} {lv : Nat → Option ga_V} (C : ga_C X cL_law (gm_y nm) wsL_law gm_nw5 room_1 (D0, vwCl, cI, cZ) 4) (hX : gl_X X b0 L xs) (hL : L ≤ 3072) (hl : gl_lv lv i) (hi : i + 5 < L) (next : gl_next X b0 lv) {o1 o2 : Nat} {T : gx_Dc} {m : gt_T} {σ : ga_S} (ho : gm_oo o1 o2) (hW : gx_D 1 o1 o2 T σ) (hM : gt_O SX6 6 66 m σ) (hR : RLc T m) : gl_G X b0 79 4115 79 399 lv [] σ := by
  obtain ⟨hl1, hl2, hl3⟩ := hl
  obtain ⟨q, h6, T', h5, hR'⟩ := oChange hR (xs (i + 1)).toInt
  refine gl_aload_n C dL_law_399 rfl hl1 (by decide) ?_
  refine gl_rdk (j := 1) C hX dL_law_400 rfl dL_law_401 rfl hl3 (by omega) (by omega) dL_law_402 rfl dL_law_403 dL_law_404 ?_
  refine gl_callV (mc := 0) (ms := 0) (b := 1) (st := []) (As := [.inl (xs (i + 1)).toInt]) C (eX5_change X.2.1 D0 cI cZ 79 (by decide) ho hW h5) gL_law_X5_change rfl rfl rfl (show yX5_change.cls ≠ "java/lang/invoke/MethodHandle" ∧ yX5_change.cls ≠ "java/lang/invoke/VarHandle" ∧ (parseMethodDescriptor yX5_change.desc).map (fun d => d.parameters.length) = some 1 by decide +kernel) ⟨Nat.le_of_ble_eq_true rfl, Nat.le_of_ble_eq_true rfl⟩ ⟨Nat.le_of_ble_eq_true rfl, Nat.le_of_ble_eq_true rfl⟩ (fun _ h => absurd h List.not_mem_nil) hW.1.1 rfl rfl (Nat.zero_le _) rfl dL_law_405 (fun σ1 r1 hp => ?_)
  obtain ⟨hp, er⟩ := hp
  subst er
  obtain ⟨hW1, f1⟩ := hp
  have hM : gt_O SX6 6 66 m σ1 := hM.keep okX6 (fun k a b => f1 k (by omega)) (by decide)
  refine gl_aload_n C dL_law_408 rfl hl2 (by decide) ?_
  refine gl_rdk (j := 1) C hX dL_law_409 rfl dL_law_410 rfl hl3 (by omega) (by omega) dL_law_411 rfl dL_law_412 dL_law_413 ?_
  refine gl_callV (mc := 0) (ms := 0) (b := 66) (st := [.inl q.2]) (As := [.inl (xs (i + 1)).toInt]) C (eX6_change X.2.1 D0 cI cZ 79 (by decide) hM h6) gL_law_X6_change rfl rfl rfl (show yX6_change.cls ≠ "java/lang/invoke/MethodHandle" ∧ yX6_change.cls ≠ "java/lang/invoke/VarHandle" ∧ (parseMethodDescriptor yX6_change.desc).map (fun d => d.parameters.length) = some 1 by decide +kernel) ⟨Nat.le_of_ble_eq_true rfl, Nat.le_of_ble_eq_true rfl⟩ ⟨Nat.le_of_ble_eq_true rfl, Nat.le_of_ble_eq_true rfl⟩ (fun _ h => absurd h List.not_mem_nil) hM.1 rfl rfl (Nat.le_of_ble_eq_true rfl) rfl dL_law_414 (fun σ2 r2 hp => ?_)
  obtain ⟨hp, er⟩ := hp
  subst er
  obtain ⟨hM2, f2⟩ := hp
  have hW2 := gm_Dk ho hW1 (σ' := σ2) (fun k a b => f2 k (by omega))
  exact gl_icmp_eq C dL_law_417 rfl (fun _ => next _ o1 o2 T' q.1 ho hW2 hM2 hR') (fun z => absurd rfl z)
set_option maxHeartbeats 4000000 in
theorem gL_smooth {X : ga_X} {nm : String} {D0 : va_G} {cI cZ : ClassId} {b0 L i : Nat} {xs : Nat → Int32} {lv : Nat → Option ga_V} (C : ga_C X cL_law (gm_y nm) wsL_law gm_nw5 room_1 (D0, vwCl, cI, cZ) 4) (hX : gl_X X b0 L xs) (hL : L ≤ 3072) (hl : gl_lv lv i) (hi : i + 5 < L) (next : gl_next X b0 lv) {o1 o2 : Nat} {T : gx_Dc} {m : gt_T} {σ : ga_S} (ho : gm_oo o1 o2) (hW : gx_D 1 o1 o2 T σ) (hM : gt_O SX6 6 66 m σ) (hR : RLc T m) : gl_G X b0 79 4115 79 422 lv [] σ := by
  obtain ⟨hl1, hl2, hl3⟩ := hl
  obtain ⟨q, h6, T', h5, hR'⟩ := oSmooth hR (xs (i + 1)).toInt
  refine gl_aload_n C dL_law_422 rfl hl1 (by decide) ?_
  refine gl_rdk (j := 1) C hX dL_law_423 rfl dL_law_424 rfl hl3 (by omega) (by omega) dL_law_425 rfl dL_law_426 dL_law_427 ?_
  refine gl_callV (mc := 0) (ms := 0) (b := 1) (st := []) (As := [.inl (xs (i + 1)).toInt]) C (eX5_smooth X.2.1 D0 cI cZ 79 (by decide) ho hW h5) gL_law_X5_smooth rfl rfl rfl (show yX5_smooth.cls ≠ "java/lang/invoke/MethodHandle" ∧ yX5_smooth.cls ≠ "java/lang/invoke/VarHandle" ∧ (parseMethodDescriptor yX5_smooth.desc).map (fun d => d.parameters.length) = some 1 by decide +kernel) ⟨Nat.le_of_ble_eq_true rfl, Nat.le_of_ble_eq_true rfl⟩ ⟨Nat.le_of_ble_eq_true rfl, Nat.le_of_ble_eq_true rfl⟩ (fun _ h => absurd h List.not_mem_nil) hW.1.1 rfl rfl (Nat.zero_le _) rfl dL_law_428 (fun σ1 r1 hp => ?_)
  obtain ⟨hp, er⟩ := hp
  subst er
  obtain ⟨hW1, f1⟩ := hp
  have hM : gt_O SX6 6 66 m σ1 := hM.keep okX6 (fun k a b => f1 k (by omega)) (by decide)
  refine gl_aload_n C dL_law_431 rfl hl2 (by decide) ?_
  refine gl_rdk (j := 1) C hX dL_law_432 rfl dL_law_433 rfl hl3 (by omega) (by omega) dL_law_434 rfl dL_law_435 dL_law_436 ?_
  refine gl_callV (mc := 0) (ms := 0) (b := 66) (st := [.inl q.2]) (As := [.inl (xs (i + 1)).toInt]) C (eX6_smooth X.2.1 D0 cI cZ 79 (by decide) hM h6) gL_law_X6_smooth rfl rfl rfl (show yX6_smooth.cls ≠ "java/lang/invoke/MethodHandle" ∧ yX6_smooth.cls ≠ "java/lang/invoke/VarHandle" ∧ (parseMethodDescriptor yX6_smooth.desc).map (fun d => d.parameters.length) = some 1 by decide +kernel) ⟨Nat.le_of_ble_eq_true rfl, Nat.le_of_ble_eq_true rfl⟩ ⟨Nat.le_of_ble_eq_true rfl, Nat.le_of_ble_eq_true rfl⟩ (fun _ h => absurd h List.not_mem_nil) hM.1 rfl rfl (Nat.le_of_ble_eq_true rfl) rfl dL_law_437 (fun σ2 r2 hp => ?_)
  obtain ⟨hp, er⟩ := hp
  subst er
  obtain ⟨hM2, f2⟩ := hp
  have hW2 := gm_Dk ho hW1 (σ' := σ2) (fun k a b => f2 k (by omega))
  exact gl_icmp_eq C dL_law_440 rfl (fun _ => next _ o1 o2 T' q.1 ho hW2 hM2 hR') (fun z => absurd rfl z)
