-- X6_reverse: reverse(I)Z
def fX6_reverse_21 (T : gt_T) : Option (gt_T × Int) :=
  (if ((0 : Int) = 0 ∨ (0 : Int) = 1) then some (T, (0 : Int)) else none)
def fX6_reverse_208 (k89 : gt_T × Int → Option (gt_T × Int)) (T : gt_T) (l2 s0 s1 : Int) : Option (gt_T × Int) :=
  (if (0 ≤ s0 ∧ s0 < 20) ∧ (-2147483648 ≤ l2 + (1 : Int) ∧ l2 + (1 : Int) < 2147483648) then k89 ((T.1, (va_up T.2 9 (va_up (T.2 9) s0.toNat s1))), l2 + (1 : Int)) else none)
def fX6_reverse_145 (k89 : gt_T × Int → Option (gt_T × Int)) (k145 : gt_T × Int × Int → Option (gt_T × Int)) (a : gt_T × Int × Int) : Option (gt_T × Int) :=
  (if (4 : Int) ≤ a.2.2 then (if (0 ≤ a.2.1 ∧ a.2.1 < 20) then (if (a.1.2 16 a.2.1.toNat) = (a.1.2 17 a.2.1.toNat) then (if (0 ≤ a.2.1 ∧ a.2.1 < 20) then fX6_reverse_208 k89 a.1 a.2.1 a.2.1 (a.1.2 9 a.2.1.toNat) else none) else (if (0 ≤ a.2.1 ∧ a.2.1 < 20) ∧ (-2147483648 ≤ (-(a.1.2 9 a.2.1.toNat)) ∧ (-(a.1.2 9 a.2.1.toNat)) < 2147483648) then fX6_reverse_208 k89 a.1 a.2.1 a.2.1 (-(a.1.2 9 a.2.1.toNat)) else none)) else none) else (if (-2147483648 ≤ (4 : Int) * a.2.1 ∧ (4 : Int) * a.2.1 < 2147483648) ∧ (-2147483648 ≤ ((4 : Int) * a.2.1) + a.2.2 ∧ ((4 : Int) * a.2.1) + a.2.2 < 2147483648) ∧ (0 ≤ a.2.2 ∧ a.2.2 < 80) ∧ (0 ≤ (((4 : Int) * a.2.1) + a.2.2) ∧ (((4 : Int) * a.2.1) + a.2.2) < 80) ∧ (-2147483648 ≤ a.2.2 + (1 : Int) ∧ a.2.2 + (1 : Int) < 2147483648) then k145 ((a.1.1, (va_up a.1.2 10 (va_up (a.1.2 10) (((4 : Int) * a.2.1) + a.2.2).toNat (a.1.2 15 a.2.2.toNat)))), a.2.1, a.2.2 + (1 : Int)) else none))
def fX6_reverse_132 (k89 : gt_T × Int → Option (gt_T × Int)) (k99 : gt_T × Int × Int → Option (gt_T × Int)) (T : gt_T) (l2 l3 s0 s1 s2 : Int) : Option (gt_T × Int) :=
  (if 0 ≤ s2 ∧ (-2147483648 ≤ s1 + (s2 % (4 : Int)) ∧ s1 + (s2 % (4 : Int)) < 2147483648) ∧ (0 ≤ (s1 + (s2 % (4 : Int))) ∧ (s1 + (s2 % (4 : Int))) < 80) ∧ (0 ≤ s0 ∧ s0 < 80) ∧ (-2147483648 ≤ l3 + (1 : Int) ∧ l3 + (1 : Int) < 2147483648) then k99 ((T.1, (va_up T.2 15 (va_up (T.2 15) s0.toNat (T.2 10 (s1 + (s2 % (4 : Int))).toNat)))), l2, l3 + (1 : Int)) else none)
def fX6_reverse_99 (k89 : gt_T × Int → Option (gt_T × Int)) (k99 : gt_T × Int × Int → Option (gt_T × Int)) (a : gt_T × Int × Int) : Option (gt_T × Int) :=
  (if (4 : Int) ≤ a.2.2 then gt_loop (fX6_reverse_145 k89) gt_fuel (a.1, a.2.1, (0 : Int)) else (if (-2147483648 ≤ (4 : Int) * a.2.1 ∧ (4 : Int) * a.2.1 < 2147483648) ∧ (0 ≤ a.2.1 ∧ a.2.1 < 20) then (if (a.1.2 16 a.2.1.toNat) = 0 then fX6_reverse_132 k89 k99 a.1 a.2.1 a.2.2 a.2.2 ((4 : Int) * a.2.1) a.2.2 else (if (-2147483648 ≤ a.2.2 + (2 : Int) ∧ a.2.2 + (2 : Int) < 2147483648) then fX6_reverse_132 k89 k99 a.1 a.2.1 a.2.2 a.2.2 ((4 : Int) * a.2.1) (a.2.2 + (2 : Int)) else none)) else none))
def fX6_reverse_89 (k89 : gt_T × Int → Option (gt_T × Int)) (a : gt_T × Int) : Option (gt_T × Int) :=
  (if (a.1.1 5) ≤ a.2 then (if ((1 : Int) = 0 ∨ (1 : Int) = 1) then some (a.1, (1 : Int)) else none) else gt_loop (fX6_reverse_99 k89) gt_fuel (a.1, a.2, (0 : Int)))
def fX6_reverse_80 (k25 : gt_T × Int × Int → Option (gt_T × Int)) (T : gt_T) (l1 l2 s0 s1 : Int) : Option (gt_T × Int) :=
  (if (0 ≤ s0 ∧ s0 < 20) ∧ (s1 = 0 ∨ s1 = 1) ∧ (-2147483648 ≤ l2 + (1 : Int) ∧ l2 + (1 : Int) < 2147483648) then k25 ((T.1, (va_up T.2 17 (va_up (T.2 17) s0.toNat s1))), l1, l2 + (1 : Int)) else none)
def fX6_reverse_55 (k25 : gt_T × Int × Int → Option (gt_T × Int)) (T : gt_T) (l1 l2 s0 s1 : Int) : Option (gt_T × Int) :=
  (if (0 ≤ s0 ∧ s0 < 20) ∧ (s1 = 0 ∨ s1 = 1) ∧ (-2147483648 ≤ (4 : Int) * l2 ∧ (4 : Int) * l2 < 2147483648) ∧ (-2147483648 ≤ ((4 : Int) * l2) + (1 : Int) ∧ ((4 : Int) * l2) + (1 : Int) < 2147483648) ∧ (0 ≤ (((4 : Int) * l2) + (1 : Int)) ∧ (((4 : Int) * l2) + (1 : Int)) < 80) then (if ((va_up T.2 16 (va_up (T.2 16) s0.toNat s1)) 21 (((4 : Int) * l2) + (1 : Int)).toNat) = l1 then fX6_reverse_80 k25 (T.1, (va_up T.2 16 (va_up (T.2 16) s0.toNat s1))) l1 l2 l2 (1 : Int) else fX6_reverse_80 k25 (T.1, (va_up T.2 16 (va_up (T.2 16) s0.toNat s1))) l1 l2 l2 (0 : Int)) else none)
def fX6_reverse_25 (k25 : gt_T × Int × Int → Option (gt_T × Int)) (a : gt_T × Int × Int) : Option (gt_T × Int) :=
  (if (a.1.1 5) ≤ a.2.2 then gt_loop (fX6_reverse_89) gt_fuel (a.1, (0 : Int)) else (if (-2147483648 ≤ (4 : Int) * a.2.2 ∧ (4 : Int) * a.2.2 < 2147483648) ∧ (0 ≤ ((4 : Int) * a.2.2) ∧ ((4 : Int) * a.2.2) < 80) then (if (a.1.2 21 ((4 : Int) * a.2.2).toNat) = a.2.1 then fX6_reverse_55 k25 a.1 a.2.1 a.2.2 a.2.2 (1 : Int) else fX6_reverse_55 k25 a.1 a.2.1 a.2.2 a.2.2 (0 : Int)) else none))
def fX6_reverse (T : gt_T) (l1 : Int) : Option (gt_T × Int) :=
  (fX6_components T).bind (fun (q1 : gt_T) => (if l1 < 0 then fX6_reverse_21 q1 else (if (-2147483648 ≤ (q1.1 19) + (q1.1 6) ∧ (q1.1 19) + (q1.1 6) < 2147483648) then (if l1 < ((q1.1 19) + (q1.1 6)) then gt_loop (fX6_reverse_25) gt_fuel (q1, l1, (0 : Int)) else fX6_reverse_21 q1) else none)))
theorem iX6_reverse_X6 : ∀ w ∈ u_ws RX6 TX6 23, w ∈ wsX6_reverse := by decide +kernel
theorem kX6_reverse_20 : Cond.fieldLink yX6_reverse.cls 20 (TX6 9).1 (TX6 9).2.1 (TX6 9).2.2.1 ∈ wsX6_reverse := by decide +kernel
theorem kX6_reverse_23 : Cond.fieldLink yX6_reverse.cls 23 (TX6 10).1 (TX6 10).2.1 (TX6 10).2.2.1 ∈ wsX6_reverse := by decide +kernel
theorem kX6_reverse_35 : Cond.fieldLink yX6_reverse.cls 35 (TX6 15).1 (TX6 15).2.1 (TX6 15).2.2.1 ∈ wsX6_reverse := by decide +kernel
theorem kX6_reverse_38 : Cond.fieldLink yX6_reverse.cls 38 (TX6 16).1 (TX6 16).2.1 (TX6 16).2.2.1 ∈ wsX6_reverse := by decide +kernel
theorem kX6_reverse_42 : Cond.fieldLink yX6_reverse.cls 42 (TX6 17).1 (TX6 17).2.1 (TX6 17).2.2.1 ∈ wsX6_reverse := by decide +kernel
theorem kX6_reverse_48 : Cond.fieldLink yX6_reverse.cls 48 (TX6 21).1 (TX6 21).2.1 (TX6 21).2.2.1 ∈ wsX6_reverse := by decide +kernel
theorem kX6_reverse_57 : Cond.fieldLink yX6_reverse.cls 57 (TX6 5).1 (TX6 5).2.1 (TX6 5).2.2.1 ∈ wsX6_reverse := by decide +kernel
theorem kX6_reverse_75 : Cond.fieldLink yX6_reverse.cls 75 (TX6 19).1 (TX6 19).2.1 (TX6 19).2.2.1 ∈ wsX6_reverse := by decide +kernel
theorem kX6_reverse_105 : Cond.fieldLink yX6_reverse.cls 105 (TX6 6).1 (TX6 6).2.1 (TX6 6).2.2.1 ∈ wsX6_reverse := by decide +kernel
set_option maxHeartbeats 4000000 in
theorem gX6_reverse_21 {X : ga_X} {D : va_G} {cI cZ : ClassId} {K : Nat} {r : Nat} {σ0 : ga_S} {res : gt_T × Int} (C : ga_C X cX6_reverse yX6_reverse wsX6_reverse [] (gt_rm 4 90) (D, vwCl, cI, cZ) 4) (hRet : ∀ (pc : Nat) (lv : Nat → Option ga_V) (σ' : ga_S) (z : Int), decode cX6_reverse pc = .ok (.ireturn, 1) → (z = 0 ∨ z = 1) → z = res.2 → (gt_O SX6 6 r res.1 σ' ∧ gt_F r (r + 14) σ0 σ') → ga_G X 0 0 K pc lv [.inl z] σ') (hr0 : r ≠ 0) {T : gt_T} {σ : ga_S} {lv : Nat → Option ga_V} (hW : gt_O SX6 6 r T σ) (hF : gt_F r (r + 14) σ0 σ) (h : fX6_reverse_21 T = some res) : ga_G X 0 0 K 21 lv [] σ := by
  unfold fX6_reverse_21 at h
  obtain ⟨hg, h⟩ := gt_gd h
  have g22_0 := hg
  refine ga_iconst C dX6_reverse_21 ⟨by decide, by decide⟩ ?_
  cases h
  exact hRet _ _ _ _ dX6_reverse_22 g22_0 rfl ⟨hW, hF⟩
set_option maxHeartbeats 4000000 in
theorem gX6_reverse_208 {X : ga_X} {D : va_G} {cI cZ : ClassId} {K : Nat} {r : Nat} {σ0 : ga_S} {res : gt_T × Int} {k89 : gt_T × Int → Option (gt_T × Int)} (C : ga_C X cX6_reverse yX6_reverse wsX6_reverse [] (gt_rm 4 90) (D, vwCl, cI, cZ) 4) (hRet : ∀ (pc : Nat) (lv : Nat → Option ga_V) (σ' : ga_S) (z : Int), decode cX6_reverse pc = .ok (.ireturn, 1) → (z = 0 ∨ z = 1) → z = res.2 → (gt_O SX6 6 r res.1 σ' ∧ gt_F r (r + 14) σ0 σ') → ga_G X 0 0 K pc lv [.inl z] σ') (hr0 : r ≠ 0) (hk89 : ∀ (a : gt_T × Int) (σ : ga_S) (lv : Nat → Option ga_V), gt_O SX6 6 r a.1 σ → gt_F r (r + 14) σ0 σ → lv 0 = some (.inr r) → lv 2 = some (.inl a.2) → k89 a = some res → ga_G X 0 0 K 89 lv [] σ) {T : gt_T} {σ : ga_S} {l2 s0 s1 : Int} {lv : Nat → Option ga_V} (hW : gt_O SX6 6 r T σ) (hF : gt_F r (r + 14) σ0 σ) (hl0 : lv 0 = some (.inr r)) (hl2 : lv 2 = some (.inl l2)) (h : fX6_reverse_208 k89 T l2 s0 s1 = some res) : ga_G X 0 0 K 208 lv [.inl s1, .inl s0, .inr (r + 3)] σ := by
  unfold fX6_reverse_208 at h
  obtain ⟨hg, h⟩ := gt_gd h
  obtain ⟨g208_0, g209_1⟩ := hg
  refine gt_iast C okX6 hW hF ⟨Nat.le_refl _, Nat.le_refl _⟩ 9 rfl g208_0.1 g208_0.2 dX6_reverse_208 (fun σ hW hF hf => ?_)
  refine ga_iinc C dX6_reverse_209 hl2 g209_1 ?_
  refine ga_goto (tgt := 89) C dX6_reverse_212 (by decide) ?_
  exact hk89 ((T.1, (va_up T.2 9 (va_up (T.2 9) s0.toNat s1))), l2 + (1 : Int)) _ _ hW hF (gt_un (by decide) hl0) gt_us h
set_option maxHeartbeats 4000000 in
theorem gX6_reverse_145 {X : ga_X} {D : va_G} {cI cZ : ClassId} {K : Nat} {r : Nat} {σ0 : ga_S} {res : gt_T × Int} {k89 : gt_T × Int → Option (gt_T × Int)} (C : ga_C X cX6_reverse yX6_reverse wsX6_reverse [] (gt_rm 4 90) (D, vwCl, cI, cZ) 4) (hRet : ∀ (pc : Nat) (lv : Nat → Option ga_V) (σ' : ga_S) (z : Int), decode cX6_reverse pc = .ok (.ireturn, 1) → (z = 0 ∨ z = 1) → z = res.2 → (gt_O SX6 6 r res.1 σ' ∧ gt_F r (r + 14) σ0 σ') → ga_G X 0 0 K pc lv [.inl z] σ') (hr0 : r ≠ 0) (hk89 : ∀ (a : gt_T × Int) (σ : ga_S) (lv : Nat → Option ga_V), gt_O SX6 6 r a.1 σ → gt_F r (r + 14) σ0 σ → lv 0 = some (.inr r) → lv 2 = some (.inl a.2) → k89 a = some res → ga_G X 0 0 K 89 lv [] σ) : ∀ (n : Nat) (a : gt_T × Int × Int) (σ : ga_S) (lv : Nat → Option ga_V), gt_O SX6 6 r a.1 σ → gt_F r (r + 14) σ0 σ → lv 0 = some (.inr r) → lv 2 = some (.inl a.2.1) → lv 3 = some (.inl a.2.2) → gt_loop (fX6_reverse_145 k89) n a = some res → ga_G X 0 0 K 145 lv [] σ := by
  intro n
  induction n with
  | zero =>
    intro a _ lv _ _ _ _ _ h
    exact absurd (show (none : Option _) = some _ from h) (fun q => by cases q)
  | succ n hk145 =>
    intro a σ lv hW hF hl0 hl2 hl3 h
    have h : fX6_reverse_145 k89 (gt_loop (fX6_reverse_145 k89) n) a = some res := h
    revert hk145 h
    generalize gt_loop (fX6_reverse_145 k89) n = k145
    intro hk145 h
    unfold fX6_reverse_145 at h
    refine ga_iload_n C dX6_reverse_145 rfl hl3 ?_
    refine ga_iconst C dX6_reverse_146 ⟨by decide, by decide⟩ ?_
    refine ga_icmp_ge (tgt := 172) C dX6_reverse_147 (by decide) (fun c1 => ?_) (fun c1 => ?_)
    · have h := gt_ip h c1
      obtain ⟨hg, h⟩ := gt_gd h
      have g182_0 := hg
      refine ga_aload_n C dX6_reverse_172 rfl hl0 hr0 ?_
      refine gt_geta C (iX6_reverse_X6) hW 9 rfl rfl (by decide) kX6_reverse_20 dX6_reverse_173 ?_
      refine ga_iload_n C dX6_reverse_176 rfl hl2 ?_
      refine ga_aload_n C dX6_reverse_177 rfl hl0 hr0 ?_
      refine gt_geta C (iX6_reverse_X6) hW 16 rfl rfl (by decide) kX6_reverse_38 dX6_reverse_178 ?_
      refine ga_iload_n C dX6_reverse_181 rfl hl2 ?_
      refine gt_zald C hW 16 rfl g182_0.1 g182_0.2 dX6_reverse_182 ?_
      refine ga_aload_n C dX6_reverse_183 rfl hl0 hr0 ?_
      refine gt_geta C (iX6_reverse_X6) hW 17 rfl rfl (by decide) kX6_reverse_42 dX6_reverse_184 ?_
      refine ga_iload_n C dX6_reverse_187 rfl hl2 ?_
      refine gt_zald C hW 17 rfl g182_0.1 g182_0.2 dX6_reverse_188 ?_
      refine ga_icmp_ne (tgt := 201) C dX6_reverse_189 (by decide) (fun c1 => ?_) (fun c1 => ?_)
      · have h := gt_in h c1
        obtain ⟨hg, h⟩ := gt_gd h
        obtain ⟨g206_0, g207_1⟩ := hg
        refine ga_aload_n C dX6_reverse_201 rfl hl0 hr0 ?_
        refine gt_geta C (iX6_reverse_X6) hW 9 rfl rfl (by decide) kX6_reverse_20 dX6_reverse_202 ?_
        refine ga_iload_n C dX6_reverse_205 rfl hl2 ?_
        refine gt_iald C hW 9 rfl g206_0.1 g206_0.2 dX6_reverse_206 ?_
        refine ga_ineg C dX6_reverse_207 g207_1 ?_
        exact gX6_reverse_208 C hRet hr0 hk89 hW hF hl0 hl2 h
      · have h := gt_ip h c1
        obtain ⟨hg, h⟩ := gt_gd h
        have g197_0 := hg
        refine ga_aload_n C dX6_reverse_192 rfl hl0 hr0 ?_
        refine gt_geta C (iX6_reverse_X6) hW 9 rfl rfl (by decide) kX6_reverse_20 dX6_reverse_193 ?_
        refine ga_iload_n C dX6_reverse_196 rfl hl2 ?_
        refine gt_iald C hW 9 rfl g197_0.1 g197_0.2 dX6_reverse_197 ?_
        refine ga_goto (tgt := 208) C dX6_reverse_198 (by decide) ?_
        exact gX6_reverse_208 C hRet hr0 hk89 hW hF hl0 hl2 h
    · have h := gt_in h c1
      obtain ⟨hg, h⟩ := gt_gd h
      obtain ⟨g156_0, g158_1, g164_2, g165_3, g166_4⟩ := hg
      refine ga_aload_n C dX6_reverse_150 rfl hl0 hr0 ?_
      refine gt_geta C (iX6_reverse_X6) hW 10 rfl rfl (by decide) kX6_reverse_23 dX6_reverse_151 ?_
      refine ga_iconst C dX6_reverse_154 ⟨by decide, by decide⟩ ?_
      refine ga_iload_n C dX6_reverse_155 rfl hl2 ?_
      refine ga_imul C dX6_reverse_156 g156_0 ?_
      refine ga_iload_n C dX6_reverse_157 rfl hl3 ?_
      refine ga_iadd C dX6_reverse_158 g158_1 ?_
      refine ga_aload_n C dX6_reverse_159 rfl hl0 hr0 ?_
      refine gt_geta C (iX6_reverse_X6) hW 15 rfl rfl (by decide) kX6_reverse_35 dX6_reverse_160 ?_
      refine ga_iload_n C dX6_reverse_163 rfl hl3 ?_
      refine gt_iald C hW 15 rfl g164_2.1 g164_2.2 dX6_reverse_164 ?_
      refine gt_iast C okX6 hW hF ⟨Nat.le_refl _, Nat.le_refl _⟩ 10 rfl g165_3.1 g165_3.2 dX6_reverse_165 (fun σ hW hF hf => ?_)
      refine ga_iinc C dX6_reverse_166 hl3 g166_4 ?_
      refine ga_goto (tgt := 145) C dX6_reverse_169 (by decide) ?_
      exact hk145 ((a.1.1, (va_up a.1.2 10 (va_up (a.1.2 10) (((4 : Int) * a.2.1) + a.2.2).toNat (a.1.2 15 a.2.2.toNat)))), a.2.1, a.2.2 + (1 : Int)) _ _ hW hF (gt_un (by decide) hl0) (gt_un (by decide) hl2) gt_us h
set_option maxHeartbeats 4000000 in
theorem gX6_reverse_132 {X : ga_X} {D : va_G} {cI cZ : ClassId} {K : Nat} {r : Nat} {σ0 : ga_S} {res : gt_T × Int} {k89 : gt_T × Int → Option (gt_T × Int)} {k99 : gt_T × Int × Int → Option (gt_T × Int)} (C : ga_C X cX6_reverse yX6_reverse wsX6_reverse [] (gt_rm 4 90) (D, vwCl, cI, cZ) 4) (hRet : ∀ (pc : Nat) (lv : Nat → Option ga_V) (σ' : ga_S) (z : Int), decode cX6_reverse pc = .ok (.ireturn, 1) → (z = 0 ∨ z = 1) → z = res.2 → (gt_O SX6 6 r res.1 σ' ∧ gt_F r (r + 14) σ0 σ') → ga_G X 0 0 K pc lv [.inl z] σ') (hr0 : r ≠ 0) (hk89 : ∀ (a : gt_T × Int) (σ : ga_S) (lv : Nat → Option ga_V), gt_O SX6 6 r a.1 σ → gt_F r (r + 14) σ0 σ → lv 0 = some (.inr r) → lv 2 = some (.inl a.2) → k89 a = some res → ga_G X 0 0 K 89 lv [] σ) (hk99 : ∀ (a : gt_T × Int × Int) (σ : ga_S) (lv : Nat → Option ga_V), gt_O SX6 6 r a.1 σ → gt_F r (r + 14) σ0 σ → lv 0 = some (.inr r) → lv 2 = some (.inl a.2.1) → lv 3 = some (.inl a.2.2) → k99 a = some res → ga_G X 0 0 K 99 lv [] σ) {T : gt_T} {σ : ga_S} {l2 l3 s0 s1 s2 : Int} {lv : Nat → Option ga_V} (hW : gt_O SX6 6 r T σ) (hF : gt_F r (r + 14) σ0 σ) (hl0 : lv 0 = some (.inr r)) (hl2 : lv 2 = some (.inl l2)) (hl3 : lv 3 = some (.inl l3)) (h : fX6_reverse_132 k89 k99 T l2 l3 s0 s1 s2 = some res) : ga_G X 0 0 K 132 lv [.inl s2, .inl s1, .inr (r + 4), .inl s0, .inr (r + 8)] σ := by
  unfold fX6_reverse_132 at h
  obtain ⟨hg, h⟩ := gt_gd h
  obtain ⟨g133_0, g134_1, g135_2, g136_3, g137_4⟩ := hg
  refine ga_iconst C dX6_reverse_132 ⟨by decide, by decide⟩ ?_
  refine ga_irem C dX6_reverse_133 (by decide) g133_0 ?_
  refine ga_iadd C dX6_reverse_134 g134_1 ?_
  refine gt_iald C hW 10 rfl g135_2.1 g135_2.2 dX6_reverse_135 ?_
  refine gt_iast C okX6 hW hF ⟨Nat.le_refl _, Nat.le_refl _⟩ 15 rfl g136_3.1 g136_3.2 dX6_reverse_136 (fun σ hW hF hf => ?_)
  refine ga_iinc C dX6_reverse_137 hl3 g137_4 ?_
  refine ga_goto (tgt := 99) C dX6_reverse_140 (by decide) ?_
  exact hk99 ((T.1, (va_up T.2 15 (va_up (T.2 15) s0.toNat (T.2 10 (s1 + (s2 % (4 : Int))).toNat)))), l2, l3 + (1 : Int)) _ _ hW hF (gt_un (by decide) hl0) (gt_un (by decide) hl2) gt_us h
set_option maxHeartbeats 4000000 in
theorem gX6_reverse_99 {X : ga_X} {D : va_G} {cI cZ : ClassId} {K : Nat} {r : Nat} {σ0 : ga_S} {res : gt_T × Int} {k89 : gt_T × Int → Option (gt_T × Int)} (C : ga_C X cX6_reverse yX6_reverse wsX6_reverse [] (gt_rm 4 90) (D, vwCl, cI, cZ) 4) (hRet : ∀ (pc : Nat) (lv : Nat → Option ga_V) (σ' : ga_S) (z : Int), decode cX6_reverse pc = .ok (.ireturn, 1) → (z = 0 ∨ z = 1) → z = res.2 → (gt_O SX6 6 r res.1 σ' ∧ gt_F r (r + 14) σ0 σ') → ga_G X 0 0 K pc lv [.inl z] σ') (hr0 : r ≠ 0) (hk89 : ∀ (a : gt_T × Int) (σ : ga_S) (lv : Nat → Option ga_V), gt_O SX6 6 r a.1 σ → gt_F r (r + 14) σ0 σ → lv 0 = some (.inr r) → lv 2 = some (.inl a.2) → k89 a = some res → ga_G X 0 0 K 89 lv [] σ) : ∀ (n : Nat) (a : gt_T × Int × Int) (σ : ga_S) (lv : Nat → Option ga_V), gt_O SX6 6 r a.1 σ → gt_F r (r + 14) σ0 σ → lv 0 = some (.inr r) → lv 2 = some (.inl a.2.1) → lv 3 = some (.inl a.2.2) → gt_loop (fX6_reverse_99 k89) n a = some res → ga_G X 0 0 K 99 lv [] σ := by
  intro n
  induction n with
  | zero =>
    intro a _ lv _ _ _ _ _ h
    exact absurd (show (none : Option _) = some _ from h) (fun q => by cases q)
  | succ n hk99 =>
    intro a σ lv hW hF hl0 hl2 hl3 h
    have h : fX6_reverse_99 k89 (gt_loop (fX6_reverse_99 k89) n) a = some res := h
    revert hk99 h
    generalize gt_loop (fX6_reverse_99 k89) n = k99
    intro hk99 h
    unfold fX6_reverse_99 at h
    refine ga_iload_n C dX6_reverse_99 rfl hl3 ?_
    refine ga_iconst C dX6_reverse_100 ⟨by decide, by decide⟩ ?_
    refine ga_icmp_ge (tgt := 143) C dX6_reverse_101 (by decide) (fun c1 => ?_) (fun c1 => ?_)
    · have h := gt_ip h c1
      refine ga_iconst C dX6_reverse_143 ⟨by decide, by decide⟩ ?_
      refine ga_istore_n C dX6_reverse_144 rfl (by decide) ?_
      exact gX6_reverse_145 C hRet hr0 hk89 gt_fuel (a.1, a.2.1, (0 : Int)) _ _ hW hF (gt_un (by decide) hl0) (gt_un (by decide) hl2) gt_us h
    · have h := gt_in h c1
      obtain ⟨hg, h⟩ := gt_gd h
      obtain ⟨g115_0, g121_1⟩ := hg
      refine ga_aload_n C dX6_reverse_104 rfl hl0 hr0 ?_
      refine gt_geta C (iX6_reverse_X6) hW 15 rfl rfl (by decide) kX6_reverse_35 dX6_reverse_105 ?_
      refine ga_iload_n C dX6_reverse_108 rfl hl3 ?_
      refine ga_aload_n C dX6_reverse_109 rfl hl0 hr0 ?_
      refine gt_geta C (iX6_reverse_X6) hW 10 rfl rfl (by decide) kX6_reverse_23 dX6_reverse_110 ?_
      refine ga_iconst C dX6_reverse_113 ⟨by decide, by decide⟩ ?_
      refine ga_iload_n C dX6_reverse_114 rfl hl2 ?_
      refine ga_imul C dX6_reverse_115 g115_0 ?_
      refine ga_aload_n C dX6_reverse_116 rfl hl0 hr0 ?_
      refine gt_geta C (iX6_reverse_X6) hW 16 rfl rfl (by decide) kX6_reverse_38 dX6_reverse_117 ?_
      refine ga_iload_n C dX6_reverse_120 rfl hl2 ?_
      refine gt_zald C hW 16 rfl g121_1.1 g121_1.2 dX6_reverse_121 ?_
      refine ga_if_eq (tgt := 131) C dX6_reverse_122 (by decide) (fun c1 => ?_) (fun c1 => ?_)
      · have h := gt_ip h c1
        refine ga_iload_n C dX6_reverse_131 rfl hl3 ?_
        exact gX6_reverse_132 C hRet hr0 hk89 hk99 hW hF hl0 hl2 hl3 h
      · have h := gt_in h c1
        obtain ⟨hg, h⟩ := gt_gd h
        have g127_0 := hg
        refine ga_iload_n C dX6_reverse_125 rfl hl3 ?_
        refine ga_iconst C dX6_reverse_126 ⟨by decide, by decide⟩ ?_
        refine ga_iadd C dX6_reverse_127 g127_0 ?_
        refine ga_goto (tgt := 132) C dX6_reverse_128 (by decide) ?_
        exact gX6_reverse_132 C hRet hr0 hk89 hk99 hW hF hl0 hl2 hl3 h
set_option maxHeartbeats 4000000 in
theorem gX6_reverse_89 {X : ga_X} {D : va_G} {cI cZ : ClassId} {K : Nat} {r : Nat} {σ0 : ga_S} {res : gt_T × Int} (C : ga_C X cX6_reverse yX6_reverse wsX6_reverse [] (gt_rm 4 90) (D, vwCl, cI, cZ) 4) (hRet : ∀ (pc : Nat) (lv : Nat → Option ga_V) (σ' : ga_S) (z : Int), decode cX6_reverse pc = .ok (.ireturn, 1) → (z = 0 ∨ z = 1) → z = res.2 → (gt_O SX6 6 r res.1 σ' ∧ gt_F r (r + 14) σ0 σ') → ga_G X 0 0 K pc lv [.inl z] σ') (hr0 : r ≠ 0) : ∀ (n : Nat) (a : gt_T × Int) (σ : ga_S) (lv : Nat → Option ga_V), gt_O SX6 6 r a.1 σ → gt_F r (r + 14) σ0 σ → lv 0 = some (.inr r) → lv 2 = some (.inl a.2) → gt_loop (fX6_reverse_89) n a = some res → ga_G X 0 0 K 89 lv [] σ := by
  intro n
  induction n with
  | zero =>
    intro a _ lv _ _ _ _ h
    exact absurd (show (none : Option _) = some _ from h) (fun q => by cases q)
  | succ n hk89 =>
    intro a σ lv hW hF hl0 hl2 h
    have h : fX6_reverse_89 (gt_loop (fX6_reverse_89) n) a = some res := h
    revert hk89 h
    generalize gt_loop (fX6_reverse_89) n = k89
    intro hk89 h
    unfold fX6_reverse_89 at h
    refine ga_iload_n C dX6_reverse_89 rfl hl2 ?_
    refine ga_aload_n C dX6_reverse_90 rfl hl0 hr0 ?_
    refine gt_geti C (iX6_reverse_X6) hW 5 rfl rfl (by decide) kX6_reverse_57 dX6_reverse_91 ?_
    refine ga_icmp_ge (tgt := 215) C dX6_reverse_94 (by decide) (fun c1 => ?_) (fun c1 => ?_)
    · have h := gt_ip h c1
      obtain ⟨hg, h⟩ := gt_gd h
      have g216_0 := hg
      refine ga_iconst C dX6_reverse_215 ⟨by decide, by decide⟩ ?_
      cases h
      exact hRet _ _ _ _ dX6_reverse_216 g216_0 rfl ⟨hW, hF⟩
    · have h := gt_in h c1
      refine ga_iconst C dX6_reverse_97 ⟨by decide, by decide⟩ ?_
      refine ga_istore_n C dX6_reverse_98 rfl (by decide) ?_
      exact gX6_reverse_99 C hRet hr0 hk89 gt_fuel (a.1, a.2, (0 : Int)) _ _ hW hF (gt_un (by decide) hl0) (gt_un (by decide) hl2) gt_us h
set_option maxHeartbeats 4000000 in
theorem gX6_reverse_80 {X : ga_X} {D : va_G} {cI cZ : ClassId} {K : Nat} {r : Nat} {σ0 : ga_S} {res : gt_T × Int} {k25 : gt_T × Int × Int → Option (gt_T × Int)} (C : ga_C X cX6_reverse yX6_reverse wsX6_reverse [] (gt_rm 4 90) (D, vwCl, cI, cZ) 4) (hRet : ∀ (pc : Nat) (lv : Nat → Option ga_V) (σ' : ga_S) (z : Int), decode cX6_reverse pc = .ok (.ireturn, 1) → (z = 0 ∨ z = 1) → z = res.2 → (gt_O SX6 6 r res.1 σ' ∧ gt_F r (r + 14) σ0 σ') → ga_G X 0 0 K pc lv [.inl z] σ') (hr0 : r ≠ 0) (hk25 : ∀ (a : gt_T × Int × Int) (σ : ga_S) (lv : Nat → Option ga_V), gt_O SX6 6 r a.1 σ → gt_F r (r + 14) σ0 σ → lv 0 = some (.inr r) → lv 1 = some (.inl a.2.1) → lv 2 = some (.inl a.2.2) → k25 a = some res → ga_G X 0 0 K 25 lv [] σ) {T : gt_T} {σ : ga_S} {l1 l2 s0 s1 : Int} {lv : Nat → Option ga_V} (hW : gt_O SX6 6 r T σ) (hF : gt_F r (r + 14) σ0 σ) (hl0 : lv 0 = some (.inr r)) (hl1 : lv 1 = some (.inl l1)) (hl2 : lv 2 = some (.inl l2)) (h : fX6_reverse_80 k25 T l1 l2 s0 s1 = some res) : ga_G X 0 0 K 80 lv [.inl s1, .inl s0, .inr (r + 10)] σ := by
  unfold fX6_reverse_80 at h
  obtain ⟨hg, h⟩ := gt_gd h
  obtain ⟨g80_0, g80_1, g81_2⟩ := hg
  refine gt_zast C okX6 hW hF ⟨Nat.le_refl _, Nat.le_refl _⟩ 17 rfl g80_0.1 g80_0.2 g80_1 dX6_reverse_80 (fun σ hW hF hf => ?_)
  refine ga_iinc C dX6_reverse_81 hl2 g81_2 ?_
  refine ga_goto (tgt := 25) C dX6_reverse_84 (by decide) ?_
  exact hk25 ((T.1, (va_up T.2 17 (va_up (T.2 17) s0.toNat s1))), l1, l2 + (1 : Int)) _ _ hW hF (gt_un (by decide) hl0) (gt_un (by decide) hl1) gt_us h
set_option maxHeartbeats 4000000 in
theorem gX6_reverse_55 {X : ga_X} {D : va_G} {cI cZ : ClassId} {K : Nat} {r : Nat} {σ0 : ga_S} {res : gt_T × Int} {k25 : gt_T × Int × Int → Option (gt_T × Int)} (C : ga_C X cX6_reverse yX6_reverse wsX6_reverse [] (gt_rm 4 90) (D, vwCl, cI, cZ) 4) (hRet : ∀ (pc : Nat) (lv : Nat → Option ga_V) (σ' : ga_S) (z : Int), decode cX6_reverse pc = .ok (.ireturn, 1) → (z = 0 ∨ z = 1) → z = res.2 → (gt_O SX6 6 r res.1 σ' ∧ gt_F r (r + 14) σ0 σ') → ga_G X 0 0 K pc lv [.inl z] σ') (hr0 : r ≠ 0) (hk25 : ∀ (a : gt_T × Int × Int) (σ : ga_S) (lv : Nat → Option ga_V), gt_O SX6 6 r a.1 σ → gt_F r (r + 14) σ0 σ → lv 0 = some (.inr r) → lv 1 = some (.inl a.2.1) → lv 2 = some (.inl a.2.2) → k25 a = some res → ga_G X 0 0 K 25 lv [] σ) {T : gt_T} {σ : ga_S} {l1 l2 s0 s1 : Int} {lv : Nat → Option ga_V} (hW : gt_O SX6 6 r T σ) (hF : gt_F r (r + 14) σ0 σ) (hl0 : lv 0 = some (.inr r)) (hl1 : lv 1 = some (.inl l1)) (hl2 : lv 2 = some (.inl l2)) (h : fX6_reverse_55 k25 T l1 l2 s0 s1 = some res) : ga_G X 0 0 K 55 lv [.inl s1, .inl s0, .inr (r + 9)] σ := by
  unfold fX6_reverse_55 at h
  obtain ⟨hg, h⟩ := gt_gd h
  obtain ⟨g55_0, g55_1, g67_2, g69_3, g70_4⟩ := hg
  refine gt_zast C okX6 hW hF ⟨Nat.le_refl _, Nat.le_refl _⟩ 16 rfl g55_0.1 g55_0.2 g55_1 dX6_reverse_55 (fun σ hW hF hf => ?_)
  refine ga_aload_n C dX6_reverse_56 rfl hl0 hr0 ?_
  refine gt_geta C (iX6_reverse_X6) hW 17 rfl rfl (by decide) kX6_reverse_42 dX6_reverse_57 ?_
  refine ga_iload_n C dX6_reverse_60 rfl hl2 ?_
  refine ga_aload_n C dX6_reverse_61 rfl hl0 hr0 ?_
  refine gt_geta C (iX6_reverse_X6) hW 21 rfl rfl (by decide) kX6_reverse_48 dX6_reverse_62 ?_
  refine ga_iconst C dX6_reverse_65 ⟨by decide, by decide⟩ ?_
  refine ga_iload_n C dX6_reverse_66 rfl hl2 ?_
  refine ga_imul C dX6_reverse_67 g67_2 ?_
  refine ga_iconst C dX6_reverse_68 ⟨by decide, by decide⟩ ?_
  refine ga_iadd C dX6_reverse_69 g69_3 ?_
  refine gt_iald C hW 21 rfl g70_4.1 g70_4.2 dX6_reverse_70 ?_
  refine ga_iload_n C dX6_reverse_71 rfl hl1 ?_
  refine ga_icmp_ne (tgt := 79) C dX6_reverse_72 (by decide) (fun c1 => ?_) (fun c1 => ?_)
  · have h := gt_in h c1
    refine ga_iconst C dX6_reverse_79 ⟨by decide, by decide⟩ ?_
    exact gX6_reverse_80 C hRet hr0 hk25 hW hF hl0 hl1 hl2 h
  · have h := gt_ip h c1
    refine ga_iconst C dX6_reverse_75 ⟨by decide, by decide⟩ ?_
    refine ga_goto (tgt := 80) C dX6_reverse_76 (by decide) ?_
    exact gX6_reverse_80 C hRet hr0 hk25 hW hF hl0 hl1 hl2 h
set_option maxHeartbeats 4000000 in
theorem gX6_reverse_25 {X : ga_X} {D : va_G} {cI cZ : ClassId} {K : Nat} {r : Nat} {σ0 : ga_S} {res : gt_T × Int} (C : ga_C X cX6_reverse yX6_reverse wsX6_reverse [] (gt_rm 4 90) (D, vwCl, cI, cZ) 4) (hRet : ∀ (pc : Nat) (lv : Nat → Option ga_V) (σ' : ga_S) (z : Int), decode cX6_reverse pc = .ok (.ireturn, 1) → (z = 0 ∨ z = 1) → z = res.2 → (gt_O SX6 6 r res.1 σ' ∧ gt_F r (r + 14) σ0 σ') → ga_G X 0 0 K pc lv [.inl z] σ') (hr0 : r ≠ 0) : ∀ (n : Nat) (a : gt_T × Int × Int) (σ : ga_S) (lv : Nat → Option ga_V), gt_O SX6 6 r a.1 σ → gt_F r (r + 14) σ0 σ → lv 0 = some (.inr r) → lv 1 = some (.inl a.2.1) → lv 2 = some (.inl a.2.2) → gt_loop (fX6_reverse_25) n a = some res → ga_G X 0 0 K 25 lv [] σ := by
  intro n
  induction n with
  | zero =>
    intro a _ lv _ _ _ _ _ h
    exact absurd (show (none : Option _) = some _ from h) (fun q => by cases q)
  | succ n hk25 =>
    intro a σ lv hW hF hl0 hl1 hl2 h
    have h : fX6_reverse_25 (gt_loop (fX6_reverse_25) n) a = some res := h
    revert hk25 h
    generalize gt_loop (fX6_reverse_25) n = k25
    intro hk25 h
    unfold fX6_reverse_25 at h
    refine ga_iload_n C dX6_reverse_25 rfl hl2 ?_
    refine ga_aload_n C dX6_reverse_26 rfl hl0 hr0 ?_
    refine gt_geti C (iX6_reverse_X6) hW 5 rfl rfl (by decide) kX6_reverse_57 dX6_reverse_27 ?_
    refine ga_icmp_ge (tgt := 87) C dX6_reverse_30 (by decide) (fun c1 => ?_) (fun c1 => ?_)
    · have h := gt_ip h c1
      refine ga_iconst C dX6_reverse_87 ⟨by decide, by decide⟩ ?_
      refine ga_istore_n C dX6_reverse_88 rfl (by decide) ?_
      exact gX6_reverse_89 C hRet hr0 gt_fuel (a.1, (0 : Int)) _ _ hW hF (gt_un (by decide) hl0) gt_us h
    · have h := gt_in h c1
      obtain ⟨hg, h⟩ := gt_gd h
      obtain ⟨g44_0, g45_1⟩ := hg
      refine ga_aload_n C dX6_reverse_33 rfl hl0 hr0 ?_
      refine gt_geta C (iX6_reverse_X6) hW 16 rfl rfl (by decide) kX6_reverse_38 dX6_reverse_34 ?_
      refine ga_iload_n C dX6_reverse_37 rfl hl2 ?_
      refine ga_aload_n C dX6_reverse_38 rfl hl0 hr0 ?_
      refine gt_geta C (iX6_reverse_X6) hW 21 rfl rfl (by decide) kX6_reverse_48 dX6_reverse_39 ?_
      refine ga_iconst C dX6_reverse_42 ⟨by decide, by decide⟩ ?_
      refine ga_iload_n C dX6_reverse_43 rfl hl2 ?_
      refine ga_imul C dX6_reverse_44 g44_0 ?_
      refine gt_iald C hW 21 rfl g45_1.1 g45_1.2 dX6_reverse_45 ?_
      refine ga_iload_n C dX6_reverse_46 rfl hl1 ?_
      refine ga_icmp_ne (tgt := 54) C dX6_reverse_47 (by decide) (fun c1 => ?_) (fun c1 => ?_)
      · have h := gt_in h c1
        refine ga_iconst C dX6_reverse_54 ⟨by decide, by decide⟩ ?_
        exact gX6_reverse_55 C hRet hr0 hk25 hW hF hl0 hl1 hl2 h
      · have h := gt_ip h c1
        refine ga_iconst C dX6_reverse_50 ⟨by decide, by decide⟩ ?_
        refine ga_goto (tgt := 55) C dX6_reverse_51 (by decide) ?_
        exact gX6_reverse_55 C hRet hr0 hk25 hW hF hl0 hl1 hl2 h
set_option maxHeartbeats 4000000 in
theorem gX6_reverse_0 {X : ga_X} {D : va_G} {cI cZ : ClassId} {K : Nat} {r : Nat} {σ0 : ga_S} {res : gt_T × Int} (C : ga_C X cX6_reverse yX6_reverse wsX6_reverse [] (gt_rm 4 90) (D, vwCl, cI, cZ) 4) (hRet : ∀ (pc : Nat) (lv : Nat → Option ga_V) (σ' : ga_S) (z : Int), decode cX6_reverse pc = .ok (.ireturn, 1) → (z = 0 ∨ z = 1) → z = res.2 → (gt_O SX6 6 r res.1 σ' ∧ gt_F r (r + 14) σ0 σ') → ga_G X 0 0 K pc lv [.inl z] σ') (hr0 : r ≠ 0) {T : gt_T} {σ : ga_S} {l1 : Int} {lv : Nat → Option ga_V} (hW : gt_O SX6 6 r T σ) (hF : gt_F r (r + 14) σ0 σ) (hl0 : lv 0 = some (.inr r)) (hl1 : lv 1 = some (.inl l1)) (h : fX6_reverse T l1 = some res) : ga_G X 0 0 K 0 lv [] σ := by
  unfold fX6_reverse at h
  refine ga_aload_n C dX6_reverse_0 rfl hl0 hr0 ?_
  obtain ⟨q1, hq, h⟩ := Option.bind_eq_some_iff.mp h
  refine gt_cVv (n := 0) (st := []) C (eX6_components X.2.1 D cI cZ K hr0 hW hq) gX6_reverse_X6_components rfl (by decide +kernel) rfl ⟨Nat.le_of_ble_eq_true rfl, Nat.le_of_ble_eq_true rfl⟩ hW.1 rfl rfl (Nat.le_of_ble_eq_true rfl) rfl dX6_reverse_1 (fun σ' hp => ?_)
  obtain ⟨hw, hf⟩ := hp
  have hF := hF.tr hf (Nat.le_refl _) (Nat.le_refl _)
  have hW := hw
  clear hf
  refine ga_iload_n C dX6_reverse_4 rfl hl1 ?_
  refine ga_if_lt (tgt := 21) C dX6_reverse_5 (by decide) (fun c1 => ?_) (fun c1 => ?_)
  · have h := gt_ip h c1
    exact gX6_reverse_21 C hRet hr0 hW hF h
  · have h := gt_in h c1
    obtain ⟨hg, h⟩ := gt_gd h
    have g17_0 := hg
    refine ga_iload_n C dX6_reverse_8 rfl hl1 ?_
    refine ga_aload_n C dX6_reverse_9 rfl hl0 hr0 ?_
    refine gt_geti C (iX6_reverse_X6) hW 19 rfl rfl (by decide) kX6_reverse_75 dX6_reverse_10 ?_
    refine ga_aload_n C dX6_reverse_13 rfl hl0 hr0 ?_
    refine gt_geti C (iX6_reverse_X6) hW 6 rfl rfl (by decide) kX6_reverse_105 dX6_reverse_14 ?_
    refine ga_iadd C dX6_reverse_17 g17_0 ?_
    refine ga_icmp_lt (tgt := 23) C dX6_reverse_18 (by decide) (fun c1 => ?_) (fun c1 => ?_)
    · have h := gt_ip h c1
      refine ga_iconst C dX6_reverse_23 ⟨by decide, by decide⟩ ?_
      refine ga_istore_n C dX6_reverse_24 rfl (by decide) ?_
      exact gX6_reverse_25 C hRet hr0 gt_fuel (q1, l1, (0 : Int)) _ _ hW hF (gt_un (by decide) hl0) (gt_un (by decide) hl1) gt_us h
    · have h := gt_in h c1
      exact gX6_reverse_21 C hRet hr0 hW hF h
set_option maxHeartbeats 4000000 in
theorem eX6_reverse (l : Launch) (D : va_G) (cI cZ : ClassId) (K : Nat) {r : Nat} (hr0 : r ≠ 0) {σ : ga_S} {T : gt_T} (hW : gt_O SX6 6 r T σ) {l1 : Int} {res : gt_T × Int} (h : fX6_reverse T l1 = some res) : ga_Ev l (D, vwCl, cI, cZ) yX6_reverse wsX6_reverse (gt_rm 4 90) [] 0 0 K [.inr r, .inl l1] σ (fun σ' rv => (gt_O SX6 6 r res.1 σ' ∧ gt_F r (r + 14) σ σ') ∧ rv = some (.inl res.2)) := by
  refine ga_ofZ (by decide +kernel) rfl gt_hcl (Nat.le_of_ble_eq_true rfl) (fun X hX C hret => ?_)
  exact gX6_reverse_0 C (fun pc lv σ' z d h01 hz hp => hret pc lv σ' z d h01 ⟨hp, by rw [hz]⟩) hr0 hW gt_F.rf rfl rfl h
-- X6_number: number()V
def fX6_number_94 (k94 : gt_T × Int → Option (gt_T)) (a : gt_T × Int) : Option (gt_T) :=
  (if (-2147483648 ≤ (4 : Int) * (a.1.1 5) ∧ (4 : Int) * (a.1.1 5) < 2147483648) then (if ((4 : Int) * (a.1.1 5)) ≤ a.2 then some a.1 else (if (0 ≤ a.2 ∧ a.2 < 80) ∧ (-2147483648 ≤ a.2 + (1 : Int) ∧ a.2 + (1 : Int) < 2147483648) then k94 ((a.1.1, (va_up a.1.2 10 (va_up (a.1.2 10) a.2.toNat (a.1.2 15 a.2.toNat)))), a.2 + (1 : Int)) else none)) else none)
def fX6_number_36 (k13 : gt_T × Int × Int × Int → Option (gt_T)) (k36 : gt_T × Int × Int × Int × Int × Int × Int → Option (gt_T)) (a : gt_T × Int × Int × Int × Int × Int × Int) : Option (gt_T) :=
  (if a.2.2.2.2.2.1 ≤ a.2.2.2.2.2.2 then (if (-2147483648 ≤ a.2.2.2.1 + (1 : Int) ∧ a.2.2.2.1 + (1 : Int) < 2147483648) then k13 (a.1, a.2.1, a.2.2.1, a.2.2.2.1 + (1 : Int)) else none) else (if (-2147483648 ≤ a.2.2.1 + (1 : Int) ∧ a.2.2.1 + (1 : Int) < 2147483648) then (fX6_placeOf a.1 a.2.2.2.2.1 (1 : Int)).bind (fun (q54 : Int) => (if (0 ≤ q54 ∧ q54 < 80) then (fX6_placeOf (a.1.1, (va_up a.1.2 15 (va_up (a.1.2 15) q54.toNat (a.2.2.1 + (1 : Int))))) a.2.2.2.2.1 (0 : Int)).bind (fun (q67 : Int) => (if (0 ≤ q67 ∧ q67 < 80) then (fX6_next (a.1.1, (va_up (va_up a.1.2 15 (va_up (a.1.2 15) q54.toNat (a.2.2.1 + (1 : Int)))) 15 (va_up ((va_up a.1.2 15 (va_up (a.1.2 15) q54.toNat (a.2.2.1 + (1 : Int)))) 15) q67.toNat (a.2.2.1 + (1 : Int))))) a.2.2.2.2.1).bind (fun (q75 : Int) => (if (-2147483648 ≤ a.2.2.2.2.2.2 + (1 : Int) ∧ a.2.2.2.2.2.2 + (1 : Int) < 2147483648) then k36 ((a.1.1, (va_up (va_up a.1.2 15 (va_up (a.1.2 15) q54.toNat (a.2.2.1 + (1 : Int)))) 15 (va_up ((va_up a.1.2 15 (va_up (a.1.2 15) q54.toNat (a.2.2.1 + (1 : Int)))) 15) q67.toNat (a.2.2.1 + (1 : Int))))), a.2.1, a.2.2.1 + (1 : Int), a.2.2.2.1, q75, a.2.2.2.2.2.1, a.2.2.2.2.2.2 + (1 : Int)) else none)) else none)) else none)) else none))
def fX6_number_13 (k13 : gt_T × Int × Int × Int → Option (gt_T)) (a : gt_T × Int × Int × Int) : Option (gt_T) :=
  (if a.2.1 ≤ a.2.2.2 then gt_loop (fX6_number_94) gt_fuel (a.1, (0 : Int)) else (fX6_beginning a.1 a.2.2.2).bind (fun (q20 : gt_T × Int) => (fX6_edgesOf q20.1 q20.2).bind (fun (q28 : Int) => gt_loop (fX6_number_36 k13) gt_fuel (q20.1, a.2.1, a.2.2.1, a.2.2.2, q20.2, q28, (0 : Int)))))
def fX6_number (T : gt_T) : Option (gt_T) :=
  (fX6_components T).bind (fun (q1 : gt_T) => gt_loop (fX6_number_13) gt_fuel (q1, q1.1 19, (0 : Int), (0 : Int)))
theorem iX6_number_X6 : ∀ w ∈ u_ws RX6 TX6 23, w ∈ wsX6_number := by decide +kernel
theorem kX6_number_23 : Cond.fieldLink yX6_number.cls 23 (TX6 10).1 (TX6 10).2.1 (TX6 10).2.2.1 ∈ wsX6_number := by decide +kernel
theorem kX6_number_35 : Cond.fieldLink yX6_number.cls 35 (TX6 15).1 (TX6 15).2.1 (TX6 15).2.2.1 ∈ wsX6_number := by decide +kernel
theorem kX6_number_57 : Cond.fieldLink yX6_number.cls 57 (TX6 5).1 (TX6 5).2.1 (TX6 5).2.2.1 ∈ wsX6_number := by decide +kernel
theorem kX6_number_75 : Cond.fieldLink yX6_number.cls 75 (TX6 19).1 (TX6 19).2.1 (TX6 19).2.2.1 ∈ wsX6_number := by decide +kernel
set_option maxHeartbeats 4000000 in
theorem gX6_number_94 {X : ga_X} {D : va_G} {cI cZ : ClassId} {K : Nat} {r : Nat} {σ0 : ga_S} {res : gt_T} (C : ga_C X cX6_number yX6_number wsX6_number [] (gt_rm 5 113) (D, vwCl, cI, cZ) 7) (hRet : ∀ (pc : Nat) (lv : Nat → Option ga_V) (σ' : ga_S), decode cX6_number pc = .ok (.return_, 1) → (gt_O SX6 6 r res σ' ∧ gt_F r (r + 14) σ0 σ') → ga_G X 0 0 K pc lv [] σ') (hr0 : r ≠ 0) : ∀ (n : Nat) (a : gt_T × Int) (σ : ga_S) (lv : Nat → Option ga_V), gt_O SX6 6 r a.1 σ → gt_F r (r + 14) σ0 σ → lv 0 = some (.inr r) → lv 3 = some (.inl a.2) → gt_loop (fX6_number_94) n a = some res → ga_G X 0 0 K 94 lv [] σ := by
  intro n
  induction n with
  | zero =>
    intro a _ lv _ _ _ _ h
    exact absurd (show (none : Option _) = some _ from h) (fun q => by cases q)
  | succ n hk94 =>
    intro a σ lv hW hF hl0 hl3 h
    have h : fX6_number_94 (gt_loop (fX6_number_94) n) a = some res := h
    revert hk94 h
    generalize gt_loop (fX6_number_94) n = k94
    intro hk94 h
    unfold fX6_number_94 at h
    obtain ⟨hg, h⟩ := gt_gd h
    have g100_0 := hg
    refine ga_iload_n C dX6_number_94 rfl hl3 ?_
    refine ga_iconst C dX6_number_95 ⟨by decide, by decide⟩ ?_
    refine ga_aload_n C dX6_number_96 rfl hl0 hr0 ?_
    refine gt_geti C (iX6_number_X6) hW 5 rfl rfl (by decide) kX6_number_57 dX6_number_97 ?_
    refine ga_imul C dX6_number_100 g100_0 ?_
    refine ga_icmp_ge (tgt := 122) C dX6_number_101 (by decide) (fun c1 => ?_) (fun c1 => ?_)
    · have h := gt_ip h c1
      cases h
      exact hRet _ _ _ dX6_number_122 ⟨hW, hF⟩
    · have h := gt_in h c1
      obtain ⟨hg, h⟩ := gt_gd h
      obtain ⟨g114_0, g116_1⟩ := hg
      refine ga_aload_n C dX6_number_104 rfl hl0 hr0 ?_
      refine gt_geta C (iX6_number_X6) hW 10 rfl rfl (by decide) kX6_number_23 dX6_number_105 ?_
      refine ga_iload_n C dX6_number_108 rfl hl3 ?_
      refine ga_aload_n C dX6_number_109 rfl hl0 hr0 ?_
      refine gt_geta C (iX6_number_X6) hW 15 rfl rfl (by decide) kX6_number_35 dX6_number_110 ?_
      refine ga_iload_n C dX6_number_113 rfl hl3 ?_
      refine gt_iald C hW 15 rfl g114_0.1 g114_0.2 dX6_number_114 ?_
      refine gt_iast C okX6 hW hF ⟨Nat.le_refl _, Nat.le_refl _⟩ 10 rfl g114_0.1 g114_0.2 dX6_number_115 (fun σ hW hF hf => ?_)
      refine ga_iinc C dX6_number_116 hl3 g116_1 ?_
      refine ga_goto (tgt := 94) C dX6_number_119 (by decide) ?_
      exact hk94 ((a.1.1, (va_up a.1.2 10 (va_up (a.1.2 10) a.2.toNat (a.1.2 15 a.2.toNat)))), a.2 + (1 : Int)) _ _ hW hF (gt_un (by decide) hl0) gt_us h
set_option maxHeartbeats 4000000 in
theorem gX6_number_36 {X : ga_X} {D : va_G} {cI cZ : ClassId} {K : Nat} {r : Nat} {σ0 : ga_S} {res : gt_T} {k13 : gt_T × Int × Int × Int → Option (gt_T)} (C : ga_C X cX6_number yX6_number wsX6_number [] (gt_rm 5 113) (D, vwCl, cI, cZ) 7) (hRet : ∀ (pc : Nat) (lv : Nat → Option ga_V) (σ' : ga_S), decode cX6_number pc = .ok (.return_, 1) → (gt_O SX6 6 r res σ' ∧ gt_F r (r + 14) σ0 σ') → ga_G X 0 0 K pc lv [] σ') (hr0 : r ≠ 0) (hk13 : ∀ (a : gt_T × Int × Int × Int) (σ : ga_S) (lv : Nat → Option ga_V), gt_O SX6 6 r a.1 σ → gt_F r (r + 14) σ0 σ → lv 0 = some (.inr r) → lv 1 = some (.inl a.2.1) → lv 2 = some (.inl a.2.2.1) → lv 3 = some (.inl a.2.2.2) → k13 a = some res → ga_G X 0 0 K 13 lv [] σ) : ∀ (n : Nat) (a : gt_T × Int × Int × Int × Int × Int × Int) (σ : ga_S) (lv : Nat → Option ga_V), gt_O SX6 6 r a.1 σ → gt_F r (r + 14) σ0 σ → lv 0 = some (.inr r) → lv 1 = some (.inl a.2.1) → lv 2 = some (.inl a.2.2.1) → lv 3 = some (.inl a.2.2.2.1) → lv 4 = some (.inl a.2.2.2.2.1) → lv 5 = some (.inl a.2.2.2.2.2.1) → lv 6 = some (.inl a.2.2.2.2.2.2) → gt_loop (fX6_number_36 k13) n a = some res → ga_G X 0 0 K 36 lv [] σ := by
  intro n
  induction n with
  | zero =>
    intro a _ lv _ _ _ _ _ _ _ _ _ h
    exact absurd (show (none : Option _) = some _ from h) (fun q => by cases q)
  | succ n hk36 =>
    intro a σ lv hW hF hl0 hl1 hl2 hl3 hl4 hl5 hl6 h
    have h : fX6_number_36 k13 (gt_loop (fX6_number_36 k13) n) a = some res := h
    revert hk36 h
    generalize gt_loop (fX6_number_36 k13) n = k36
    intro hk36 h
    unfold fX6_number_36 at h
    refine ga_iload C dX6_number_36 hl6 ?_
    refine ga_iload C dX6_number_38 hl5 ?_
    refine ga_icmp_ge (tgt := 86) C dX6_number_40 (by decide) (fun c1 => ?_) (fun c1 => ?_)
    · have h := gt_ip h c1
      obtain ⟨hg, h⟩ := gt_gd h
      have g86_0 := hg
      refine ga_iinc C dX6_number_86 hl3 g86_0 ?_
      refine ga_goto (tgt := 13) C dX6_number_89 (by decide) ?_
      exact hk13 (a.1, a.2.1, a.2.2.1, a.2.2.2.1 + (1 : Int)) _ _ hW hF (gt_un (by decide) hl0) (gt_un (by decide) hl1) (gt_un (by decide) hl2) gt_us h
    · have h := gt_in h c1
      obtain ⟨hg, h⟩ := gt_gd h
      have g43_0 := hg
      refine ga_iinc C dX6_number_43 hl2 g43_0 ?_
      refine ga_aload_n C dX6_number_46 rfl (gt_un (by decide) hl0) hr0 ?_
      refine gt_geta C (iX6_number_X6) hW 15 rfl rfl (by decide) kX6_number_35 dX6_number_47 ?_
      refine ga_aload_n C dX6_number_50 rfl (gt_un (by decide) hl0) hr0 ?_
      refine ga_iload C dX6_number_51 (gt_un (by decide) hl4) ?_
      refine ga_iconst C dX6_number_53 ⟨by decide, by decide⟩ ?_
      obtain ⟨q54, hq, h⟩ := Option.bind_eq_some_iff.mp h
      refine gt_cVi (n := 2) (st := [.inr (r + 8)]) C (eX6_placeOf X.2.1 D cI cZ K hr0 hW hq) gX6_number_X6_placeOf rfl (by decide +kernel) rfl ⟨Nat.le_of_ble_eq_true rfl, Nat.le_of_ble_eq_true rfl⟩ hW.1 rfl rfl (Nat.le_of_ble_eq_true rfl) rfl dX6_number_54 (fun σ' hp => ?_)
      subst hp
      obtain ⟨hg, h⟩ := gt_gd h
      have g58_0 := hg
      refine ga_iload_n C dX6_number_57 rfl gt_us ?_
      refine gt_iast C okX6 hW hF ⟨Nat.le_refl _, Nat.le_refl _⟩ 15 rfl g58_0.1 g58_0.2 dX6_number_58 (fun σ hW hF hf => ?_)
      refine ga_aload_n C dX6_number_59 rfl (gt_un (by decide) hl0) hr0 ?_
      refine gt_geta C (iX6_number_X6) hW 15 rfl rfl (by decide) kX6_number_35 dX6_number_60 ?_
      refine ga_aload_n C dX6_number_63 rfl (gt_un (by decide) hl0) hr0 ?_
      refine ga_iload C dX6_number_64 (gt_un (by decide) hl4) ?_
      refine ga_iconst C dX6_number_66 ⟨by decide, by decide⟩ ?_
      obtain ⟨q67, hq, h⟩ := Option.bind_eq_some_iff.mp h
      refine gt_cVi (n := 2) (st := [.inr (r + 8)]) C (eX6_placeOf X.2.1 D cI cZ K hr0 hW hq) gX6_number_X6_placeOf rfl (by decide +kernel) rfl ⟨Nat.le_of_ble_eq_true rfl, Nat.le_of_ble_eq_true rfl⟩ hW.1 rfl rfl (Nat.le_of_ble_eq_true rfl) rfl dX6_number_67 (fun σ' hp => ?_)
      subst hp
      obtain ⟨hg, h⟩ := gt_gd h
      have g71_0 := hg
      refine ga_iload_n C dX6_number_70 rfl gt_us ?_
      refine gt_iast C okX6 hW hF ⟨Nat.le_refl _, Nat.le_refl _⟩ 15 rfl g71_0.1 g71_0.2 dX6_number_71 (fun σ hW hF hf => ?_)
      refine ga_aload_n C dX6_number_72 rfl (gt_un (by decide) hl0) hr0 ?_
      refine ga_iload C dX6_number_73 (gt_un (by decide) hl4) ?_
      obtain ⟨q75, hq, h⟩ := Option.bind_eq_some_iff.mp h
      refine gt_cVi (n := 1) (st := []) C (eX6_next X.2.1 D cI cZ K hr0 hW hq) gX6_number_X6_next rfl (by decide +kernel) rfl ⟨Nat.le_of_ble_eq_true rfl, Nat.le_of_ble_eq_true rfl⟩ hW.1 rfl rfl (Nat.le_of_ble_eq_true rfl) rfl dX6_number_75 (fun σ' hp => ?_)
      subst hp
      obtain ⟨hg, h⟩ := gt_gd h
      have g80_0 := hg
      refine ga_istore C dX6_number_78 (by decide) ?_
      refine ga_iinc C dX6_number_80 (gt_un (by decide) (gt_un (by decide) hl6)) g80_0 ?_
      refine ga_goto (tgt := 36) C dX6_number_83 (by decide) ?_
      exact hk36 ((a.1.1, (va_up (va_up a.1.2 15 (va_up (a.1.2 15) q54.toNat (a.2.2.1 + (1 : Int)))) 15 (va_up ((va_up a.1.2 15 (va_up (a.1.2 15) q54.toNat (a.2.2.1 + (1 : Int)))) 15) q67.toNat (a.2.2.1 + (1 : Int))))), a.2.1, a.2.2.1 + (1 : Int), a.2.2.2.1, q75, a.2.2.2.2.2.1, a.2.2.2.2.2.2 + (1 : Int)) _ _ hW hF (gt_un (by decide) (gt_un (by decide) (gt_un (by decide) hl0))) (gt_un (by decide) (gt_un (by decide) (gt_un (by decide) hl1))) (gt_un (by decide) (gt_un (by decide) gt_us)) (gt_un (by decide) (gt_un (by decide) (gt_un (by decide) hl3))) (gt_un (by decide) gt_us) (gt_un (by decide) (gt_un (by decide) (gt_un (by decide) hl5))) gt_us h
set_option maxHeartbeats 4000000 in
theorem gX6_number_13 {X : ga_X} {D : va_G} {cI cZ : ClassId} {K : Nat} {r : Nat} {σ0 : ga_S} {res : gt_T} (C : ga_C X cX6_number yX6_number wsX6_number [] (gt_rm 5 113) (D, vwCl, cI, cZ) 7) (hRet : ∀ (pc : Nat) (lv : Nat → Option ga_V) (σ' : ga_S), decode cX6_number pc = .ok (.return_, 1) → (gt_O SX6 6 r res σ' ∧ gt_F r (r + 14) σ0 σ') → ga_G X 0 0 K pc lv [] σ') (hr0 : r ≠ 0) : ∀ (n : Nat) (a : gt_T × Int × Int × Int) (σ : ga_S) (lv : Nat → Option ga_V), gt_O SX6 6 r a.1 σ → gt_F r (r + 14) σ0 σ → lv 0 = some (.inr r) → lv 1 = some (.inl a.2.1) → lv 2 = some (.inl a.2.2.1) → lv 3 = some (.inl a.2.2.2) → gt_loop (fX6_number_13) n a = some res → ga_G X 0 0 K 13 lv [] σ := by
  intro n
  induction n with
  | zero =>
    intro a _ lv _ _ _ _ _ _ h
    exact absurd (show (none : Option _) = some _ from h) (fun q => by cases q)
  | succ n hk13 =>
    intro a σ lv hW hF hl0 hl1 hl2 hl3 h
    have h : fX6_number_13 (gt_loop (fX6_number_13) n) a = some res := h
    revert hk13 h
    generalize gt_loop (fX6_number_13) n = k13
    intro hk13 h
    unfold fX6_number_13 at h
    refine ga_iload_n C dX6_number_13 rfl hl3 ?_
    refine ga_iload_n C dX6_number_14 rfl hl1 ?_
    refine ga_icmp_ge (tgt := 92) C dX6_number_15 (by decide) (fun c1 => ?_) (fun c1 => ?_)
    · have h := gt_ip h c1
      refine ga_iconst C dX6_number_92 ⟨by decide, by decide⟩ ?_
      refine ga_istore_n C dX6_number_93 rfl (by decide) ?_
      exact gX6_number_94 C hRet hr0 gt_fuel (a.1, (0 : Int)) _ _ hW hF (gt_un (by decide) hl0) gt_us h
    · have h := gt_in h c1
      refine ga_aload_n C dX6_number_18 rfl hl0 hr0 ?_
      refine ga_iload_n C dX6_number_19 rfl hl3 ?_
      obtain ⟨q20, hq, h⟩ := Option.bind_eq_some_iff.mp h
      refine gt_cVi (n := 1) (st := []) C (eX6_beginning X.2.1 D cI cZ K hr0 hW hq) gX6_number_X6_beginning rfl (by decide +kernel) rfl ⟨Nat.le_of_ble_eq_true rfl, Nat.le_of_ble_eq_true rfl⟩ hW.1 rfl rfl (Nat.le_of_ble_eq_true rfl) rfl dX6_number_20 (fun σ' hp => ?_)
      obtain ⟨hw, hf⟩ := hp
      have hF := hF.tr hf (Nat.le_refl _) (Nat.le_refl _)
      have hW := hw
      clear hf
      refine ga_istore C dX6_number_23 (by decide) ?_
      refine ga_aload_n C dX6_number_25 rfl (gt_un (by decide) hl0) hr0 ?_
      refine ga_iload C dX6_number_26 gt_us ?_
      obtain ⟨q28, hq, h⟩ := Option.bind_eq_some_iff.mp h
      refine gt_cVi (n := 1) (st := []) C (eX6_edgesOf X.2.1 D cI cZ K hr0 hW hq) gX6_number_X6_edgesOf rfl (by decide +kernel) rfl ⟨Nat.le_of_ble_eq_true rfl, Nat.le_of_ble_eq_true rfl⟩ hW.1 rfl rfl (Nat.le_of_ble_eq_true rfl) rfl dX6_number_28 (fun σ' hp => ?_)
      subst hp
      refine ga_istore C dX6_number_31 (by decide) ?_
      refine ga_iconst C dX6_number_33 ⟨by decide, by decide⟩ ?_
      refine ga_istore C dX6_number_34 (by decide) ?_
      exact gX6_number_36 C hRet hr0 hk13 gt_fuel (q20.1, a.2.1, a.2.2.1, a.2.2.2, q20.2, q28, (0 : Int)) _ _ hW hF (gt_un (by decide) (gt_un (by decide) (gt_un (by decide) hl0))) (gt_un (by decide) (gt_un (by decide) (gt_un (by decide) hl1))) (gt_un (by decide) (gt_un (by decide) (gt_un (by decide) hl2))) (gt_un (by decide) (gt_un (by decide) (gt_un (by decide) hl3))) (gt_un (by decide) (gt_un (by decide) gt_us)) (gt_un (by decide) gt_us) gt_us h
set_option maxHeartbeats 4000000 in
theorem gX6_number_0 {X : ga_X} {D : va_G} {cI cZ : ClassId} {K : Nat} {r : Nat} {σ0 : ga_S} {res : gt_T} (C : ga_C X cX6_number yX6_number wsX6_number [] (gt_rm 5 113) (D, vwCl, cI, cZ) 7) (hRet : ∀ (pc : Nat) (lv : Nat → Option ga_V) (σ' : ga_S), decode cX6_number pc = .ok (.return_, 1) → (gt_O SX6 6 r res σ' ∧ gt_F r (r + 14) σ0 σ') → ga_G X 0 0 K pc lv [] σ') (hr0 : r ≠ 0) {T : gt_T} {σ : ga_S} {lv : Nat → Option ga_V} (hW : gt_O SX6 6 r T σ) (hF : gt_F r (r + 14) σ0 σ) (hl0 : lv 0 = some (.inr r)) (h : fX6_number T = some res) : ga_G X 0 0 K 0 lv [] σ := by
  unfold fX6_number at h
  refine ga_aload_n C dX6_number_0 rfl hl0 hr0 ?_
  obtain ⟨q1, hq, h⟩ := Option.bind_eq_some_iff.mp h
  refine gt_cVv (n := 0) (st := []) C (eX6_components X.2.1 D cI cZ K hr0 hW hq) gX6_number_X6_components rfl (by decide +kernel) rfl ⟨Nat.le_of_ble_eq_true rfl, Nat.le_of_ble_eq_true rfl⟩ hW.1 rfl rfl (Nat.le_of_ble_eq_true rfl) rfl dX6_number_1 (fun σ' hp => ?_)
  obtain ⟨hw, hf⟩ := hp
  have hF := hF.tr hf (Nat.le_refl _) (Nat.le_refl _)
  have hW := hw
  clear hf
  refine ga_aload_n C dX6_number_4 rfl hl0 hr0 ?_
  refine gt_geti C (iX6_number_X6) hW 19 rfl rfl (by decide) kX6_number_75 dX6_number_5 ?_
  refine ga_istore_n C dX6_number_8 rfl (by decide) ?_
  refine ga_iconst C dX6_number_9 ⟨by decide, by decide⟩ ?_
  refine ga_istore_n C dX6_number_10 rfl (by decide) ?_
  refine ga_iconst C dX6_number_11 ⟨by decide, by decide⟩ ?_
  refine ga_istore_n C dX6_number_12 rfl (by decide) ?_
  exact gX6_number_13 C hRet hr0 gt_fuel (q1, q1.1 19, (0 : Int), (0 : Int)) _ _ hW hF (gt_un (by decide) (gt_un (by decide) (gt_un (by decide) hl0))) (gt_un (by decide) (gt_un (by decide) gt_us)) (gt_un (by decide) gt_us) gt_us h
set_option maxHeartbeats 4000000 in
theorem eX6_number (l : Launch) (D : va_G) (cI cZ : ClassId) (K : Nat) {r : Nat} (hr0 : r ≠ 0) {σ : ga_S} {T : gt_T} (hW : gt_O SX6 6 r T σ) {res : gt_T} (h : fX6_number T = some res) : ga_Ev l (D, vwCl, cI, cZ) yX6_number wsX6_number (gt_rm 5 113) [] 0 0 K [.inr r] σ (fun σ' rv => (gt_O SX6 6 r res σ' ∧ gt_F r (r + 14) σ σ') ∧ rv = none) := by
  refine ga_ofV (by decide +kernel) rfl gt_hcl (Nat.le_of_ble_eq_true rfl) (fun X hX C hret => ?_)
  exact gX6_number_0 C (fun pc lv σ' d hp => hret pc lv σ' d ⟨hp, rfl⟩) hr0 hW gt_F.rf rfl h
-- X6_rename: rename(II)V
def fX6_rename_76 (k46 : gt_T × Int × Int × Int → Option (gt_T)) (T : gt_T) (l1 l2 l3 s0 s1 : Int) : Option (gt_T) :=
  (if (0 ≤ s0 ∧ s0 < 80) ∧ (-2147483648 ≤ l3 + (1 : Int) ∧ l3 + (1 : Int) < 2147483648) then k46 ((T.1, (va_up T.2 15 (va_up (T.2 15) s0.toNat s1))), l1, l2, l3 + (1 : Int)) else none)
def fX6_rename_46 (k46 : gt_T × Int × Int × Int → Option (gt_T)) (a : gt_T × Int × Int × Int) : Option (gt_T) :=
  (if (4 : Int) ≤ a.2.2.2 then some a.1 else (if (0 ≤ a.2.2.2 ∧ a.2.2.2 < 80) then (if (a.1.2 15 a.2.2.2.toNat) = a.2.1 then fX6_rename_76 k46 a.1 a.2.1 a.2.2.1 a.2.2.2 a.2.2.2 a.2.2.1 else (if (0 ≤ a.2.2.2 ∧ a.2.2.2 < 80) then fX6_rename_76 k46 a.1 a.2.1 a.2.2.1 a.2.2.2 a.2.2.2 (a.1.2 15 a.2.2.2.toNat) else none)) else none))
def fX6_rename_37 (k2 : gt_T × Int × Int × Int → Option (gt_T)) (T : gt_T) (l1 l2 l3 s0 s1 : Int) : Option (gt_T) :=
  (if (0 ≤ s0 ∧ s0 < 80) ∧ (-2147483648 ≤ l3 + (1 : Int) ∧ l3 + (1 : Int) < 2147483648) then k2 ((T.1, (va_up T.2 10 (va_up (T.2 10) s0.toNat s1))), l1, l2, l3 + (1 : Int)) else none)
def fX6_rename_2 (k2 : gt_T × Int × Int × Int → Option (gt_T)) (a : gt_T × Int × Int × Int) : Option (gt_T) :=
  (if (-2147483648 ≤ (4 : Int) * (a.1.1 5) ∧ (4 : Int) * (a.1.1 5) < 2147483648) then (if ((4 : Int) * (a.1.1 5)) ≤ a.2.2.2 then gt_loop (fX6_rename_46) gt_fuel (a.1, a.2.1, a.2.2.1, (0 : Int)) else (if (0 ≤ a.2.2.2 ∧ a.2.2.2 < 80) then (if (a.1.2 10 a.2.2.2.toNat) = a.2.1 then fX6_rename_37 k2 a.1 a.2.1 a.2.2.1 a.2.2.2 a.2.2.2 a.2.2.1 else (if (0 ≤ a.2.2.2 ∧ a.2.2.2 < 80) then fX6_rename_37 k2 a.1 a.2.1 a.2.2.1 a.2.2.2 a.2.2.2 (a.1.2 10 a.2.2.2.toNat) else none)) else none)) else none)
def fX6_rename (T : gt_T) (l1 l2 : Int) : Option (gt_T) :=
  gt_loop (fX6_rename_2) gt_fuel (T, l1, l2, (0 : Int))
theorem iX6_rename_X6 : ∀ w ∈ u_ws RX6 TX6 23, w ∈ wsX6_rename := by decide +kernel
theorem kX6_rename_23 : Cond.fieldLink yX6_rename.cls 23 (TX6 10).1 (TX6 10).2.1 (TX6 10).2.2.1 ∈ wsX6_rename := by decide +kernel
theorem kX6_rename_35 : Cond.fieldLink yX6_rename.cls 35 (TX6 15).1 (TX6 15).2.1 (TX6 15).2.2.1 ∈ wsX6_rename := by decide +kernel
theorem kX6_rename_57 : Cond.fieldLink yX6_rename.cls 57 (TX6 5).1 (TX6 5).2.1 (TX6 5).2.2.1 ∈ wsX6_rename := by decide +kernel
set_option maxHeartbeats 4000000 in
theorem gX6_rename_76 {X : ga_X} {D : va_G} {cI cZ : ClassId} {K : Nat} {r : Nat} {σ0 : ga_S} {res : gt_T} {k46 : gt_T × Int × Int × Int → Option (gt_T)} (C : ga_C X cX6_rename yX6_rename wsX6_rename [] (gt_rm 0 0) (D, vwCl, cI, cZ) 4) (hRet : ∀ (pc : Nat) (lv : Nat → Option ga_V) (σ' : ga_S), decode cX6_rename pc = .ok (.return_, 1) → (gt_O SX6 6 r res σ' ∧ gt_F r (r + 14) σ0 σ') → ga_G X 0 0 K pc lv [] σ') (hr0 : r ≠ 0) (hk46 : ∀ (a : gt_T × Int × Int × Int) (σ : ga_S) (lv : Nat → Option ga_V), gt_O SX6 6 r a.1 σ → gt_F r (r + 14) σ0 σ → lv 0 = some (.inr r) → lv 1 = some (.inl a.2.1) → lv 2 = some (.inl a.2.2.1) → lv 3 = some (.inl a.2.2.2) → k46 a = some res → ga_G X 0 0 K 46 lv [] σ) {T : gt_T} {σ : ga_S} {l1 l2 l3 s0 s1 : Int} {lv : Nat → Option ga_V} (hW : gt_O SX6 6 r T σ) (hF : gt_F r (r + 14) σ0 σ) (hl0 : lv 0 = some (.inr r)) (hl1 : lv 1 = some (.inl l1)) (hl2 : lv 2 = some (.inl l2)) (hl3 : lv 3 = some (.inl l3)) (h : fX6_rename_76 k46 T l1 l2 l3 s0 s1 = some res) : ga_G X 0 0 K 76 lv [.inl s1, .inl s0, .inr (r + 8)] σ := by
  unfold fX6_rename_76 at h
  obtain ⟨hg, h⟩ := gt_gd h
  obtain ⟨g76_0, g77_1⟩ := hg
  refine gt_iast C okX6 hW hF ⟨Nat.le_refl _, Nat.le_refl _⟩ 15 rfl g76_0.1 g76_0.2 dX6_rename_76 (fun σ hW hF hf => ?_)
  refine ga_iinc C dX6_rename_77 hl3 g77_1 ?_
  refine ga_goto (tgt := 46) C dX6_rename_80 (by decide) ?_
  exact hk46 ((T.1, (va_up T.2 15 (va_up (T.2 15) s0.toNat s1))), l1, l2, l3 + (1 : Int)) _ _ hW hF (gt_un (by decide) hl0) (gt_un (by decide) hl1) (gt_un (by decide) hl2) gt_us h
set_option maxHeartbeats 4000000 in
theorem gX6_rename_46 {X : ga_X} {D : va_G} {cI cZ : ClassId} {K : Nat} {r : Nat} {σ0 : ga_S} {res : gt_T} (C : ga_C X cX6_rename yX6_rename wsX6_rename [] (gt_rm 0 0) (D, vwCl, cI, cZ) 4) (hRet : ∀ (pc : Nat) (lv : Nat → Option ga_V) (σ' : ga_S), decode cX6_rename pc = .ok (.return_, 1) → (gt_O SX6 6 r res σ' ∧ gt_F r (r + 14) σ0 σ') → ga_G X 0 0 K pc lv [] σ') (hr0 : r ≠ 0) : ∀ (n : Nat) (a : gt_T × Int × Int × Int) (σ : ga_S) (lv : Nat → Option ga_V), gt_O SX6 6 r a.1 σ → gt_F r (r + 14) σ0 σ → lv 0 = some (.inr r) → lv 1 = some (.inl a.2.1) → lv 2 = some (.inl a.2.2.1) → lv 3 = some (.inl a.2.2.2) → gt_loop (fX6_rename_46) n a = some res → ga_G X 0 0 K 46 lv [] σ := by
  intro n
  induction n with
  | zero =>
    intro a _ lv _ _ _ _ _ _ h
    exact absurd (show (none : Option _) = some _ from h) (fun q => by cases q)
  | succ n hk46 =>
    intro a σ lv hW hF hl0 hl1 hl2 hl3 h
    have h : fX6_rename_46 (gt_loop (fX6_rename_46) n) a = some res := h
    revert hk46 h
    generalize gt_loop (fX6_rename_46) n = k46
    intro hk46 h
    unfold fX6_rename_46 at h
    refine ga_iload_n C dX6_rename_46 rfl hl3 ?_
    refine ga_iconst C dX6_rename_47 ⟨by decide, by decide⟩ ?_
    refine ga_icmp_ge (tgt := 83) C dX6_rename_48 (by decide) (fun c1 => ?_) (fun c1 => ?_)
    · have h := gt_ip h c1
      cases h
      exact hRet _ _ _ dX6_rename_83 ⟨hW, hF⟩
    · have h := gt_in h c1
      obtain ⟨hg, h⟩ := gt_gd h
      have g61_0 := hg
      refine ga_aload_n C dX6_rename_51 rfl hl0 hr0 ?_
      refine gt_geta C (iX6_rename_X6) hW 15 rfl rfl (by decide) kX6_rename_35 dX6_rename_52 ?_
      refine ga_iload_n C dX6_rename_55 rfl hl3 ?_
      refine ga_aload_n C dX6_rename_56 rfl hl0 hr0 ?_
      refine gt_geta C (iX6_rename_X6) hW 15 rfl rfl (by decide) kX6_rename_35 dX6_rename_57 ?_
      refine ga_iload_n C dX6_rename_60 rfl hl3 ?_
      refine gt_iald C hW 15 rfl g61_0.1 g61_0.2 dX6_rename_61 ?_
      refine ga_iload_n C dX6_rename_62 rfl hl1 ?_
      refine ga_icmp_ne (tgt := 70) C dX6_rename_63 (by decide) (fun c1 => ?_) (fun c1 => ?_)
      · have h := gt_in h c1
        obtain ⟨hg, h⟩ := gt_gd h
        have g75_0 := hg
        refine ga_aload_n C dX6_rename_70 rfl hl0 hr0 ?_
        refine gt_geta C (iX6_rename_X6) hW 15 rfl rfl (by decide) kX6_rename_35 dX6_rename_71 ?_
        refine ga_iload_n C dX6_rename_74 rfl hl3 ?_
        refine gt_iald C hW 15 rfl g75_0.1 g75_0.2 dX6_rename_75 ?_
        exact gX6_rename_76 C hRet hr0 hk46 hW hF hl0 hl1 hl2 hl3 h
      · have h := gt_ip h c1
        refine ga_iload_n C dX6_rename_66 rfl hl2 ?_
        refine ga_goto (tgt := 76) C dX6_rename_67 (by decide) ?_
        exact gX6_rename_76 C hRet hr0 hk46 hW hF hl0 hl1 hl2 hl3 h
set_option maxHeartbeats 4000000 in
theorem gX6_rename_37 {X : ga_X} {D : va_G} {cI cZ : ClassId} {K : Nat} {r : Nat} {σ0 : ga_S} {res : gt_T} {k2 : gt_T × Int × Int × Int → Option (gt_T)} (C : ga_C X cX6_rename yX6_rename wsX6_rename [] (gt_rm 0 0) (D, vwCl, cI, cZ) 4) (hRet : ∀ (pc : Nat) (lv : Nat → Option ga_V) (σ' : ga_S), decode cX6_rename pc = .ok (.return_, 1) → (gt_O SX6 6 r res σ' ∧ gt_F r (r + 14) σ0 σ') → ga_G X 0 0 K pc lv [] σ') (hr0 : r ≠ 0) (hk2 : ∀ (a : gt_T × Int × Int × Int) (σ : ga_S) (lv : Nat → Option ga_V), gt_O SX6 6 r a.1 σ → gt_F r (r + 14) σ0 σ → lv 0 = some (.inr r) → lv 1 = some (.inl a.2.1) → lv 2 = some (.inl a.2.2.1) → lv 3 = some (.inl a.2.2.2) → k2 a = some res → ga_G X 0 0 K 2 lv [] σ) {T : gt_T} {σ : ga_S} {l1 l2 l3 s0 s1 : Int} {lv : Nat → Option ga_V} (hW : gt_O SX6 6 r T σ) (hF : gt_F r (r + 14) σ0 σ) (hl0 : lv 0 = some (.inr r)) (hl1 : lv 1 = some (.inl l1)) (hl2 : lv 2 = some (.inl l2)) (hl3 : lv 3 = some (.inl l3)) (h : fX6_rename_37 k2 T l1 l2 l3 s0 s1 = some res) : ga_G X 0 0 K 37 lv [.inl s1, .inl s0, .inr (r + 4)] σ := by
  unfold fX6_rename_37 at h
  obtain ⟨hg, h⟩ := gt_gd h
  obtain ⟨g37_0, g38_1⟩ := hg
  refine gt_iast C okX6 hW hF ⟨Nat.le_refl _, Nat.le_refl _⟩ 10 rfl g37_0.1 g37_0.2 dX6_rename_37 (fun σ hW hF hf => ?_)
  refine ga_iinc C dX6_rename_38 hl3 g38_1 ?_
  refine ga_goto (tgt := 2) C dX6_rename_41 (by decide) ?_
  exact hk2 ((T.1, (va_up T.2 10 (va_up (T.2 10) s0.toNat s1))), l1, l2, l3 + (1 : Int)) _ _ hW hF (gt_un (by decide) hl0) (gt_un (by decide) hl1) (gt_un (by decide) hl2) gt_us h
set_option maxHeartbeats 4000000 in
theorem gX6_rename_2 {X : ga_X} {D : va_G} {cI cZ : ClassId} {K : Nat} {r : Nat} {σ0 : ga_S} {res : gt_T} (C : ga_C X cX6_rename yX6_rename wsX6_rename [] (gt_rm 0 0) (D, vwCl, cI, cZ) 4) (hRet : ∀ (pc : Nat) (lv : Nat → Option ga_V) (σ' : ga_S), decode cX6_rename pc = .ok (.return_, 1) → (gt_O SX6 6 r res σ' ∧ gt_F r (r + 14) σ0 σ') → ga_G X 0 0 K pc lv [] σ') (hr0 : r ≠ 0) : ∀ (n : Nat) (a : gt_T × Int × Int × Int) (σ : ga_S) (lv : Nat → Option ga_V), gt_O SX6 6 r a.1 σ → gt_F r (r + 14) σ0 σ → lv 0 = some (.inr r) → lv 1 = some (.inl a.2.1) → lv 2 = some (.inl a.2.2.1) → lv 3 = some (.inl a.2.2.2) → gt_loop (fX6_rename_2) n a = some res → ga_G X 0 0 K 2 lv [] σ := by
  intro n
  induction n with
  | zero =>
    intro a _ lv _ _ _ _ _ _ h
    exact absurd (show (none : Option _) = some _ from h) (fun q => by cases q)
  | succ n hk2 =>
    intro a σ lv hW hF hl0 hl1 hl2 hl3 h
    have h : fX6_rename_2 (gt_loop (fX6_rename_2) n) a = some res := h
    revert hk2 h
    generalize gt_loop (fX6_rename_2) n = k2
    intro hk2 h
    unfold fX6_rename_2 at h
    obtain ⟨hg, h⟩ := gt_gd h
    have g8_0 := hg
    refine ga_iload_n C dX6_rename_2 rfl hl3 ?_
    refine ga_iconst C dX6_rename_3 ⟨by decide, by decide⟩ ?_
    refine ga_aload_n C dX6_rename_4 rfl hl0 hr0 ?_
    refine gt_geti C (iX6_rename_X6) hW 5 rfl rfl (by decide) kX6_rename_57 dX6_rename_5 ?_
    refine ga_imul C dX6_rename_8 g8_0 ?_
    refine ga_icmp_ge (tgt := 44) C dX6_rename_9 (by decide) (fun c1 => ?_) (fun c1 => ?_)
    · have h := gt_ip h c1
      refine ga_iconst C dX6_rename_44 ⟨by decide, by decide⟩ ?_
      refine ga_istore_n C dX6_rename_45 rfl (by decide) ?_
      exact gX6_rename_46 C hRet hr0 gt_fuel (a.1, a.2.1, a.2.2.1, (0 : Int)) _ _ hW hF (gt_un (by decide) hl0) (gt_un (by decide) hl1) (gt_un (by decide) hl2) gt_us h
    · have h := gt_in h c1
      obtain ⟨hg, h⟩ := gt_gd h
      have g22_0 := hg
      refine ga_aload_n C dX6_rename_12 rfl hl0 hr0 ?_
      refine gt_geta C (iX6_rename_X6) hW 10 rfl rfl (by decide) kX6_rename_23 dX6_rename_13 ?_
      refine ga_iload_n C dX6_rename_16 rfl hl3 ?_
      refine ga_aload_n C dX6_rename_17 rfl hl0 hr0 ?_
      refine gt_geta C (iX6_rename_X6) hW 10 rfl rfl (by decide) kX6_rename_23 dX6_rename_18 ?_
      refine ga_iload_n C dX6_rename_21 rfl hl3 ?_
      refine gt_iald C hW 10 rfl g22_0.1 g22_0.2 dX6_rename_22 ?_
      refine ga_iload_n C dX6_rename_23 rfl hl1 ?_
      refine ga_icmp_ne (tgt := 31) C dX6_rename_24 (by decide) (fun c1 => ?_) (fun c1 => ?_)
      · have h := gt_in h c1
        obtain ⟨hg, h⟩ := gt_gd h
        have g36_0 := hg
        refine ga_aload_n C dX6_rename_31 rfl hl0 hr0 ?_
        refine gt_geta C (iX6_rename_X6) hW 10 rfl rfl (by decide) kX6_rename_23 dX6_rename_32 ?_
        refine ga_iload_n C dX6_rename_35 rfl hl3 ?_
        refine gt_iald C hW 10 rfl g36_0.1 g36_0.2 dX6_rename_36 ?_
        exact gX6_rename_37 C hRet hr0 hk2 hW hF hl0 hl1 hl2 hl3 h
      · have h := gt_ip h c1
        refine ga_iload_n C dX6_rename_27 rfl hl2 ?_
        refine ga_goto (tgt := 37) C dX6_rename_28 (by decide) ?_
        exact gX6_rename_37 C hRet hr0 hk2 hW hF hl0 hl1 hl2 hl3 h
set_option maxHeartbeats 4000000 in
theorem gX6_rename_0 {X : ga_X} {D : va_G} {cI cZ : ClassId} {K : Nat} {r : Nat} {σ0 : ga_S} {res : gt_T} (C : ga_C X cX6_rename yX6_rename wsX6_rename [] (gt_rm 0 0) (D, vwCl, cI, cZ) 4) (hRet : ∀ (pc : Nat) (lv : Nat → Option ga_V) (σ' : ga_S), decode cX6_rename pc = .ok (.return_, 1) → (gt_O SX6 6 r res σ' ∧ gt_F r (r + 14) σ0 σ') → ga_G X 0 0 K pc lv [] σ') (hr0 : r ≠ 0) {T : gt_T} {σ : ga_S} {l1 l2 : Int} {lv : Nat → Option ga_V} (hW : gt_O SX6 6 r T σ) (hF : gt_F r (r + 14) σ0 σ) (hl0 : lv 0 = some (.inr r)) (hl1 : lv 1 = some (.inl l1)) (hl2 : lv 2 = some (.inl l2)) (h : fX6_rename T l1 l2 = some res) : ga_G X 0 0 K 0 lv [] σ := by
  unfold fX6_rename at h
  refine ga_iconst C dX6_rename_0 ⟨by decide, by decide⟩ ?_
  refine ga_istore_n C dX6_rename_1 rfl (by decide) ?_
  exact gX6_rename_2 C hRet hr0 gt_fuel (T, l1, l2, (0 : Int)) _ _ hW hF (gt_un (by decide) hl0) (gt_un (by decide) hl1) (gt_un (by decide) hl2) gt_us h
set_option maxHeartbeats 4000000 in
theorem eX6_rename (l : Launch) (D : va_G) (cI cZ : ClassId) (K : Nat) {r : Nat} (hr0 : r ≠ 0) {σ : ga_S} {T : gt_T} (hW : gt_O SX6 6 r T σ) {l1 l2 : Int} {res : gt_T} (h : fX6_rename T l1 l2 = some res) : ga_Ev l (D, vwCl, cI, cZ) yX6_rename wsX6_rename (gt_rm 0 0) [] 0 0 K [.inr r, .inl l1, .inl l2] σ (fun σ' rv => (gt_O SX6 6 r res σ' ∧ gt_F r (r + 14) σ σ') ∧ rv = none) := by
  refine ga_ofV (by decide +kernel) rfl gt_hcl (Nat.le_of_ble_eq_true rfl) (fun X hX C hret => ?_)
  exact gX6_rename_0 C (fun pc lv σ' d hp => hret pc lv σ' d ⟨hp, rfl⟩) hr0 hW gt_F.rf rfl rfl rfl h
-- X6_join: join(II)V
def fX6_join_42 (T : gt_T) : Option (gt_T) :=
  some T
def fX6_join_39 (T : gt_T) (s0 s1 : Int) : Option (gt_T) :=
  (fX6_rename T s0 s1).bind (fun (q39 : gt_T) => fX6_join_42 q39)
def fX6_join_29 (T : gt_T) (l1 l2 s0 : Int) : Option (gt_T) :=
  (if l2 ≤ l1 then fX6_join_39 T s0 l2 else fX6_join_39 T s0 l1)
def fX6_join (T : gt_T) (l1 l2 : Int) : Option (gt_T) :=
  (if l1 = l2 then (if (-2147483648 ≤ (T.1 6) + (1 : Int) ∧ (T.1 6) + (1 : Int) < 2147483648) then fX6_join_42 ((va_up T.1 6 ((T.1 6) + (1 : Int))), T.2) else none) else (if l2 ≤ l1 then fX6_join_29 T l1 l2 l1 else fX6_join_29 T l1 l2 l2))
theorem iX6_join_X6 : ∀ w ∈ u_ws RX6 TX6 23, w ∈ wsX6_join := by decide +kernel
theorem kX6_join_105 : Cond.fieldLink yX6_join.cls 105 (TX6 6).1 (TX6 6).2.1 (TX6 6).2.2.1 ∈ wsX6_join := by decide +kernel
set_option maxHeartbeats 4000000 in
theorem gX6_join_42 {X : ga_X} {D : va_G} {cI cZ : ClassId} {K : Nat} {r : Nat} {σ0 : ga_S} {res : gt_T} (C : ga_C X cX6_join yX6_join wsX6_join [] (gt_rm 1 23) (D, vwCl, cI, cZ) 3) (hRet : ∀ (pc : Nat) (lv : Nat → Option ga_V) (σ' : ga_S), decode cX6_join pc = .ok (.return_, 1) → (gt_O SX6 6 r res σ' ∧ gt_F r (r + 14) σ0 σ') → ga_G X 0 0 K pc lv [] σ') (hr0 : r ≠ 0) {T : gt_T} {σ : ga_S} {lv : Nat → Option ga_V} (hW : gt_O SX6 6 r T σ) (hF : gt_F r (r + 14) σ0 σ) (h : fX6_join_42 T = some res) : ga_G X 0 0 K 42 lv [] σ := by
  unfold fX6_join_42 at h
  cases h
  exact hRet _ _ _ dX6_join_42 ⟨hW, hF⟩
set_option maxHeartbeats 4000000 in
theorem gX6_join_39 {X : ga_X} {D : va_G} {cI cZ : ClassId} {K : Nat} {r : Nat} {σ0 : ga_S} {res : gt_T} (C : ga_C X cX6_join yX6_join wsX6_join [] (gt_rm 1 23) (D, vwCl, cI, cZ) 3) (hRet : ∀ (pc : Nat) (lv : Nat → Option ga_V) (σ' : ga_S), decode cX6_join pc = .ok (.return_, 1) → (gt_O SX6 6 r res σ' ∧ gt_F r (r + 14) σ0 σ') → ga_G X 0 0 K pc lv [] σ') (hr0 : r ≠ 0) {T : gt_T} {σ : ga_S} {s0 s1 : Int} {lv : Nat → Option ga_V} (hW : gt_O SX6 6 r T σ) (hF : gt_F r (r + 14) σ0 σ) (h : fX6_join_39 T s0 s1 = some res) : ga_G X 0 0 K 39 lv [.inl s1, .inl s0, .inr r] σ := by
  unfold fX6_join_39 at h
  obtain ⟨q39, hq, h⟩ := Option.bind_eq_some_iff.mp h
  refine gt_cVv (n := 2) (st := []) C (eX6_rename X.2.1 D cI cZ K hr0 hW hq) gX6_join_X6_rename rfl (by decide +kernel) rfl ⟨Nat.le_of_ble_eq_true rfl, Nat.le_of_ble_eq_true rfl⟩ hW.1 rfl rfl (Nat.le_of_ble_eq_true rfl) rfl dX6_join_39 (fun σ' hp => ?_)
  obtain ⟨hw, hf⟩ := hp
  have hF := hF.tr hf (Nat.le_refl _) (Nat.le_refl _)
  have hW := hw
  clear hf
  exact gX6_join_42 C hRet hr0 hW hF h
set_option maxHeartbeats 4000000 in
theorem gX6_join_29 {X : ga_X} {D : va_G} {cI cZ : ClassId} {K : Nat} {r : Nat} {σ0 : ga_S} {res : gt_T} (C : ga_C X cX6_join yX6_join wsX6_join [] (gt_rm 1 23) (D, vwCl, cI, cZ) 3) (hRet : ∀ (pc : Nat) (lv : Nat → Option ga_V) (σ' : ga_S), decode cX6_join pc = .ok (.return_, 1) → (gt_O SX6 6 r res σ' ∧ gt_F r (r + 14) σ0 σ') → ga_G X 0 0 K pc lv [] σ') (hr0 : r ≠ 0) {T : gt_T} {σ : ga_S} {l1 l2 s0 : Int} {lv : Nat → Option ga_V} (hW : gt_O SX6 6 r T σ) (hF : gt_F r (r + 14) σ0 σ) (hl1 : lv 1 = some (.inl l1)) (hl2 : lv 2 = some (.inl l2)) (h : fX6_join_29 T l1 l2 s0 = some res) : ga_G X 0 0 K 29 lv [.inl s0, .inr r] σ := by
  unfold fX6_join_29 at h
  refine ga_iload_n C dX6_join_29 rfl hl1 ?_
  refine ga_iload_n C dX6_join_30 rfl hl2 ?_
  refine ga_icmp_ge (tgt := 38) C dX6_join_31 (by decide) (fun c1 => ?_) (fun c1 => ?_)
  · have h := gt_ip h c1
    refine ga_iload_n C dX6_join_38 rfl hl2 ?_
    exact gX6_join_39 C hRet hr0 hW hF h
  · have h := gt_in h c1
    refine ga_iload_n C dX6_join_34 rfl hl1 ?_
    refine ga_goto (tgt := 39) C dX6_join_35 (by decide) ?_
    exact gX6_join_39 C hRet hr0 hW hF h
set_option maxHeartbeats 4000000 in
theorem gX6_join_0 {X : ga_X} {D : va_G} {cI cZ : ClassId} {K : Nat} {r : Nat} {σ0 : ga_S} {res : gt_T} (C : ga_C X cX6_join yX6_join wsX6_join [] (gt_rm 1 23) (D, vwCl, cI, cZ) 3) (hRet : ∀ (pc : Nat) (lv : Nat → Option ga_V) (σ' : ga_S), decode cX6_join pc = .ok (.return_, 1) → (gt_O SX6 6 r res σ' ∧ gt_F r (r + 14) σ0 σ') → ga_G X 0 0 K pc lv [] σ') (hr0 : r ≠ 0) {T : gt_T} {σ : ga_S} {l1 l2 : Int} {lv : Nat → Option ga_V} (hW : gt_O SX6 6 r T σ) (hF : gt_F r (r + 14) σ0 σ) (hl0 : lv 0 = some (.inr r)) (hl1 : lv 1 = some (.inl l1)) (hl2 : lv 2 = some (.inl l2)) (h : fX6_join T l1 l2 = some res) : ga_G X 0 0 K 0 lv [] σ := by
  unfold fX6_join at h
  refine ga_iload_n C dX6_join_0 rfl hl1 ?_
  refine ga_iload_n C dX6_join_1 rfl hl2 ?_
  refine ga_icmp_ne (tgt := 18) C dX6_join_2 (by decide) (fun c1 => ?_) (fun c1 => ?_)
  · have h := gt_in h c1
    refine ga_aload_n C dX6_join_18 rfl hl0 hr0 ?_
    refine ga_iload_n C dX6_join_19 rfl hl1 ?_
    refine ga_iload_n C dX6_join_20 rfl hl2 ?_
    refine ga_icmp_ge (tgt := 28) C dX6_join_21 (by decide) (fun c1 => ?_) (fun c1 => ?_)
    · have h := gt_ip h c1
      refine ga_iload_n C dX6_join_28 rfl hl1 ?_
      exact gX6_join_29 C hRet hr0 hW hF hl1 hl2 h
    · have h := gt_in h c1
      refine ga_iload_n C dX6_join_24 rfl hl2 ?_
      refine ga_goto (tgt := 29) C dX6_join_25 (by decide) ?_
      exact gX6_join_29 C hRet hr0 hW hF hl1 hl2 h
  · have h := gt_ip h c1
    obtain ⟨hg, h⟩ := gt_gd h
    have g11_0 := hg
    refine ga_aload_n C dX6_join_5 rfl hl0 hr0 ?_
    refine ga_dup C dX6_join_6 ?_
    refine gt_geti C (iX6_join_X6) hW 6 rfl rfl (by decide) kX6_join_105 dX6_join_7 ?_
    refine ga_iconst C dX6_join_10 ⟨by decide, by decide⟩ ?_
    refine ga_iadd C dX6_join_11 g11_0 ?_
    refine gt_puti C okX6 (by decide) (iX6_join_X6) tyX6 tyX6_ok nmX6 hW hF ⟨Nat.le_refl _, Nat.le_refl _⟩ 6 rfl rfl (by decide) kX6_join_105 rfl (by decide +kernel) dX6_join_12 (fun σ hW hF hf => ?_)
    refine ga_goto (tgt := 42) C dX6_join_15 (by decide) ?_
    exact gX6_join_42 C hRet hr0 hW hF h
set_option maxHeartbeats 4000000 in
theorem eX6_join (l : Launch) (D : va_G) (cI cZ : ClassId) (K : Nat) {r : Nat} (hr0 : r ≠ 0) {σ : ga_S} {T : gt_T} (hW : gt_O SX6 6 r T σ) {l1 l2 : Int} {res : gt_T} (h : fX6_join T l1 l2 = some res) : ga_Ev l (D, vwCl, cI, cZ) yX6_join wsX6_join (gt_rm 1 23) [] 0 0 K [.inr r, .inl l1, .inl l2] σ (fun σ' rv => (gt_O SX6 6 r res σ' ∧ gt_F r (r + 14) σ σ') ∧ rv = none) := by
  refine ga_ofV (by decide +kernel) rfl gt_hcl (Nat.le_of_ble_eq_true rfl) (fun X hX C hret => ?_)
  exact gX6_join_0 C (fun pc lv σ' d hp => hret pc lv σ' d ⟨hp, rfl⟩) hr0 hW gt_F.rf rfl rfl rfl h
-- X6_smooth: smooth(I)Z
def fX6_smooth_12 (T : gt_T) : Option (gt_T × Int) :=
  (if ((0 : Int) = 0 ∨ (0 : Int) = 1) then some (T, (0 : Int)) else none)
def fX6_smooth_123 (k98 : gt_T × Int → Option (gt_T × Int)) (k123 : gt_T × Int × Int → Option (gt_T × Int)) (a : gt_T × Int × Int) : Option (gt_T × Int) :=
  (if (4 : Int) ≤ a.2.2 then (if (-2147483648 ≤ a.2.1 + (1 : Int) ∧ a.2.1 + (1 : Int) < 2147483648) then k98 (a.1, a.2.1 + (1 : Int)) else none) else (if (-2147483648 ≤ (4 : Int) * a.2.1 ∧ (4 : Int) * a.2.1 < 2147483648) ∧ (-2147483648 ≤ ((4 : Int) * a.2.1) + a.2.2 ∧ ((4 : Int) * a.2.1) + a.2.2 < 2147483648) ∧ (-2147483648 ≤ ((4 : Int) * a.2.1) + (4 : Int) ∧ ((4 : Int) * a.2.1) + (4 : Int) < 2147483648) ∧ (-2147483648 ≤ (((4 : Int) * a.2.1) + (4 : Int)) + a.2.2 ∧ (((4 : Int) * a.2.1) + (4 : Int)) + a.2.2 < 2147483648) ∧ (0 ≤ ((((4 : Int) * a.2.1) + (4 : Int)) + a.2.2) ∧ ((((4 : Int) * a.2.1) + (4 : Int)) + a.2.2) < 80) ∧ (0 ≤ (((4 : Int) * a.2.1) + a.2.2) ∧ (((4 : Int) * a.2.1) + a.2.2) < 80) ∧ (-2147483648 ≤ a.2.2 + (1 : Int) ∧ a.2.2 + (1 : Int) < 2147483648) then k123 ((a.1.1, (va_up a.1.2 10 (va_up (a.1.2 10) (((4 : Int) * a.2.1) + a.2.2).toNat (a.1.2 10 ((((4 : Int) * a.2.1) + (4 : Int)) + a.2.2).toNat)))), a.2.1, a.2.2 + (1 : Int)) else none))
def fX6_smooth_98 (k98 : gt_T × Int → Option (gt_T × Int)) (a : gt_T × Int) : Option (gt_T × Int) :=
  (if (a.1.1 5) ≤ a.2 then (if (0 ≤ (0 : Int) ∧ (0 : Int) < 80) ∧ (0 ≤ (1 : Int) ∧ (1 : Int) < 80) then (fX6_join a.1 (a.1.2 15 (0 : Int).toNat) (a.1.2 15 (1 : Int).toNat)).bind (fun (q178 : gt_T) => (if (0 ≤ (2 : Int) ∧ (2 : Int) < 80) ∧ (0 ≤ (3 : Int) ∧ (3 : Int) < 80) then (fX6_join q178 (q178.2 15 (2 : Int).toNat) (q178.2 15 (3 : Int).toNat)).bind (fun (q194 : gt_T) => (if ((1 : Int) = 0 ∨ (1 : Int) = 1) then some (q194, (1 : Int)) else none)) else none)) else none) else (if (-2147483648 ≤ a.2 + (1 : Int) ∧ a.2 + (1 : Int) < 2147483648) ∧ (0 ≤ (a.2 + (1 : Int)) ∧ (a.2 + (1 : Int)) < 20) ∧ (0 ≤ a.2 ∧ a.2 < 20) then gt_loop (fX6_smooth_123 k98) gt_fuel ((a.1.1, (va_up a.1.2 9 (va_up (a.1.2 9) a.2.toNat (a.1.2 9 (a.2 + (1 : Int)).toNat)))), a.2, (0 : Int)) else none))
def fX6_smooth (T : gt_T) (l1 : Int) : Option (gt_T × Int) :=
  (if l1 < 0 then fX6_smooth_12 T else (if l1 < (T.1 5) then (fX6_upperIn T l1).bind (fun (q16 : Int) => (if (-2147483648 ≤ (4 : Int) * l1 ∧ (4 : Int) * l1 < 2147483648) ∧ (0 ≤ ((4 : Int) * l1) ∧ ((4 : Int) * l1) < 80) ∧ (0 ≤ (0 : Int) ∧ (0 : Int) < 80) ∧ (-2147483648 ≤ q16 + (2 : Int) ∧ q16 + (2 : Int) < 2147483648) ∧ 0 ≤ (q16 + (2 : Int)) ∧ (-2147483648 ≤ ((4 : Int) * l1) + ((q16 + (2 : Int)) % (4 : Int)) ∧ ((4 : Int) * l1) + ((q16 + (2 : Int)) % (4 : Int)) < 2147483648) ∧ (0 ≤ (((4 : Int) * l1) + ((q16 + (2 : Int)) % (4 : Int))) ∧ (((4 : Int) * l1) + ((q16 + (2 : Int)) % (4 : Int))) < 80) ∧ (0 ≤ (1 : Int) ∧ (1 : Int) < 80) ∧ (-2147483648 ≤ ((4 : Int) * l1) + q16 ∧ ((4 : Int) * l1) + q16 < 2147483648) ∧ (0 ≤ (((4 : Int) * l1) + q16) ∧ (((4 : Int) * l1) + q16) < 80) ∧ (0 ≤ (2 : Int) ∧ (2 : Int) < 80) ∧ (-2147483648 ≤ ((4 : Int) * l1) + (2 : Int) ∧ ((4 : Int) * l1) + (2 : Int) < 2147483648) ∧ (0 ≤ (((4 : Int) * l1) + (2 : Int)) ∧ (((4 : Int) * l1) + (2 : Int)) < 80) ∧ (0 ≤ (3 : Int) ∧ (3 : Int) < 80) ∧ (-2147483648 ≤ (T.1 5) - (1 : Int) ∧ (T.1 5) - (1 : Int) < 2147483648) then gt_loop (fX6_smooth_98) gt_fuel (((va_up T.1 5 ((T.1 5) - (1 : Int))), (va_up (va_up (va_up (va_up T.2 15 (va_up (T.2 15) (0 : Int).toNat (T.2 10 ((4 : Int) * l1).toNat))) 15 (va_up ((va_up T.2 15 (va_up (T.2 15) (0 : Int).toNat (T.2 10 ((4 : Int) * l1).toNat))) 15) (1 : Int).toNat ((va_up T.2 15 (va_up (T.2 15) (0 : Int).toNat (T.2 10 ((4 : Int) * l1).toNat))) 10 (((4 : Int) * l1) + ((q16 + (2 : Int)) % (4 : Int))).toNat))) 15 (va_up ((va_up (va_up T.2 15 (va_up (T.2 15) (0 : Int).toNat (T.2 10 ((4 : Int) * l1).toNat))) 15 (va_up ((va_up T.2 15 (va_up (T.2 15) (0 : Int).toNat (T.2 10 ((4 : Int) * l1).toNat))) 15) (1 : Int).toNat ((va_up T.2 15 (va_up (T.2 15) (0 : Int).toNat (T.2 10 ((4 : Int) * l1).toNat))) 10 (((4 : Int) * l1) + ((q16 + (2 : Int)) % (4 : Int))).toNat))) 15) (2 : Int).toNat ((va_up (va_up T.2 15 (va_up (T.2 15) (0 : Int).toNat (T.2 10 ((4 : Int) * l1).toNat))) 15 (va_up ((va_up T.2 15 (va_up (T.2 15) (0 : Int).toNat (T.2 10 ((4 : Int) * l1).toNat))) 15) (1 : Int).toNat ((va_up T.2 15 (va_up (T.2 15) (0 : Int).toNat (T.2 10 ((4 : Int) * l1).toNat))) 10 (((4 : Int) * l1) + ((q16 + (2 : Int)) % (4 : Int))).toNat))) 10 (((4 : Int) * l1) + q16).toNat))) 15 (va_up ((va_up (va_up (va_up T.2 15 (va_up (T.2 15) (0 : Int).toNat (T.2 10 ((4 : Int) * l1).toNat))) 15 (va_up ((va_up T.2 15 (va_up (T.2 15) (0 : Int).toNat (T.2 10 ((4 : Int) * l1).toNat))) 15) (1 : Int).toNat ((va_up T.2 15 (va_up (T.2 15) (0 : Int).toNat (T.2 10 ((4 : Int) * l1).toNat))) 10 (((4 : Int) * l1) + ((q16 + (2 : Int)) % (4 : Int))).toNat))) 15 (va_up ((va_up (va_up T.2 15 (va_up (T.2 15) (0 : Int).toNat (T.2 10 ((4 : Int) * l1).toNat))) 15 (va_up ((va_up T.2 15 (va_up (T.2 15) (0 : Int).toNat (T.2 10 ((4 : Int) * l1).toNat))) 15) (1 : Int).toNat ((va_up T.2 15 (va_up (T.2 15) (0 : Int).toNat (T.2 10 ((4 : Int) * l1).toNat))) 10 (((4 : Int) * l1) + ((q16 + (2 : Int)) % (4 : Int))).toNat))) 15) (2 : Int).toNat ((va_up (va_up T.2 15 (va_up (T.2 15) (0 : Int).toNat (T.2 10 ((4 : Int) * l1).toNat))) 15 (va_up ((va_up T.2 15 (va_up (T.2 15) (0 : Int).toNat (T.2 10 ((4 : Int) * l1).toNat))) 15) (1 : Int).toNat ((va_up T.2 15 (va_up (T.2 15) (0 : Int).toNat (T.2 10 ((4 : Int) * l1).toNat))) 10 (((4 : Int) * l1) + ((q16 + (2 : Int)) % (4 : Int))).toNat))) 10 (((4 : Int) * l1) + q16).toNat))) 15) (3 : Int).toNat ((va_up (va_up (va_up T.2 15 (va_up (T.2 15) (0 : Int).toNat (T.2 10 ((4 : Int) * l1).toNat))) 15 (va_up ((va_up T.2 15 (va_up (T.2 15) (0 : Int).toNat (T.2 10 ((4 : Int) * l1).toNat))) 15) (1 : Int).toNat ((va_up T.2 15 (va_up (T.2 15) (0 : Int).toNat (T.2 10 ((4 : Int) * l1).toNat))) 10 (((4 : Int) * l1) + ((q16 + (2 : Int)) % (4 : Int))).toNat))) 15 (va_up ((va_up (va_up T.2 15 (va_up (T.2 15) (0 : Int).toNat (T.2 10 ((4 : Int) * l1).toNat))) 15 (va_up ((va_up T.2 15 (va_up (T.2 15) (0 : Int).toNat (T.2 10 ((4 : Int) * l1).toNat))) 15) (1 : Int).toNat ((va_up T.2 15 (va_up (T.2 15) (0 : Int).toNat (T.2 10 ((4 : Int) * l1).toNat))) 10 (((4 : Int) * l1) + ((q16 + (2 : Int)) % (4 : Int))).toNat))) 15) (2 : Int).toNat ((va_up (va_up T.2 15 (va_up (T.2 15) (0 : Int).toNat (T.2 10 ((4 : Int) * l1).toNat))) 15 (va_up ((va_up T.2 15 (va_up (T.2 15) (0 : Int).toNat (T.2 10 ((4 : Int) * l1).toNat))) 15) (1 : Int).toNat ((va_up T.2 15 (va_up (T.2 15) (0 : Int).toNat (T.2 10 ((4 : Int) * l1).toNat))) 10 (((4 : Int) * l1) + ((q16 + (2 : Int)) % (4 : Int))).toNat))) 10 (((4 : Int) * l1) + q16).toNat))) 10 (((4 : Int) * l1) + (2 : Int)).toNat)))), l1) else none)) else fX6_smooth_12 T))
theorem iX6_smooth_X6 : ∀ w ∈ u_ws RX6 TX6 23, w ∈ wsX6_smooth := by decide +kernel
theorem kX6_smooth_20 : Cond.fieldLink yX6_smooth.cls 20 (TX6 9).1 (TX6 9).2.1 (TX6 9).2.2.1 ∈ wsX6_smooth := by decide +kernel
theorem kX6_smooth_23 : Cond.fieldLink yX6_smooth.cls 23 (TX6 10).1 (TX6 10).2.1 (TX6 10).2.2.1 ∈ wsX6_smooth := by decide +kernel
theorem kX6_smooth_35 : Cond.fieldLink yX6_smooth.cls 35 (TX6 15).1 (TX6 15).2.1 (TX6 15).2.2.1 ∈ wsX6_smooth := by decide +kernel
theorem kX6_smooth_57 : Cond.fieldLink yX6_smooth.cls 57 (TX6 5).1 (TX6 5).2.1 (TX6 5).2.2.1 ∈ wsX6_smooth := by decide +kernel
set_option maxHeartbeats 4000000 in
theorem gX6_smooth_12 {X : ga_X} {D : va_G} {cI cZ : ClassId} {K : Nat} {r : Nat} {σ0 : ga_S} {res : gt_T × Int} (C : ga_C X cX6_smooth yX6_smooth wsX6_smooth [] (gt_rm 2 45) (D, vwCl, cI, cZ) 5) (hRet : ∀ (pc : Nat) (lv : Nat → Option ga_V) (σ' : ga_S) (z : Int), decode cX6_smooth pc = .ok (.ireturn, 1) → (z = 0 ∨ z = 1) → z = res.2 → (gt_O SX6 6 r res.1 σ' ∧ gt_F r (r + 14) σ0 σ') → ga_G X 0 0 K pc lv [.inl z] σ') (hr0 : r ≠ 0) {T : gt_T} {σ : ga_S} {lv : Nat → Option ga_V} (hW : gt_O SX6 6 r T σ) (hF : gt_F r (r + 14) σ0 σ) (h : fX6_smooth_12 T = some res) : ga_G X 0 0 K 12 lv [] σ := by
  unfold fX6_smooth_12 at h
  obtain ⟨hg, h⟩ := gt_gd h
  have g13_0 := hg
  refine ga_iconst C dX6_smooth_12 ⟨by decide, by decide⟩ ?_
  cases h
  exact hRet _ _ _ _ dX6_smooth_13 g13_0 rfl ⟨hW, hF⟩
set_option maxHeartbeats 4000000 in
theorem gX6_smooth_123 {X : ga_X} {D : va_G} {cI cZ : ClassId} {K : Nat} {r : Nat} {σ0 : ga_S} {res : gt_T × Int} {k98 : gt_T × Int → Option (gt_T × Int)} (C : ga_C X cX6_smooth yX6_smooth wsX6_smooth [] (gt_rm 2 45) (D, vwCl, cI, cZ) 5) (hRet : ∀ (pc : Nat) (lv : Nat → Option ga_V) (σ' : ga_S) (z : Int), decode cX6_smooth pc = .ok (.ireturn, 1) → (z = 0 ∨ z = 1) → z = res.2 → (gt_O SX6 6 r res.1 σ' ∧ gt_F r (r + 14) σ0 σ') → ga_G X 0 0 K pc lv [.inl z] σ') (hr0 : r ≠ 0) (hk98 : ∀ (a : gt_T × Int) (σ : ga_S) (lv : Nat → Option ga_V), gt_O SX6 6 r a.1 σ → gt_F r (r + 14) σ0 σ → lv 0 = some (.inr r) → lv 3 = some (.inl a.2) → k98 a = some res → ga_G X 0 0 K 98 lv [] σ) : ∀ (n : Nat) (a : gt_T × Int × Int) (σ : ga_S) (lv : Nat → Option ga_V), gt_O SX6 6 r a.1 σ → gt_F r (r + 14) σ0 σ → lv 0 = some (.inr r) → lv 3 = some (.inl a.2.1) → lv 4 = some (.inl a.2.2) → gt_loop (fX6_smooth_123 k98) n a = some res → ga_G X 0 0 K 123 lv [] σ := by
  intro n
  induction n with
  | zero =>
    intro a _ lv _ _ _ _ _ h
    exact absurd (show (none : Option _) = some _ from h) (fun q => by cases q)
  | succ n hk123 =>
    intro a σ lv hW hF hl0 hl3 hl4 h
    have h : fX6_smooth_123 k98 (gt_loop (fX6_smooth_123 k98) n) a = some res := h
    revert hk123 h
    generalize gt_loop (fX6_smooth_123 k98) n = k123
    intro hk123 h
    unfold fX6_smooth_123 at h
    refine ga_iload C dX6_smooth_123 hl4 ?_
    refine ga_iconst C dX6_smooth_125 ⟨by decide, by decide⟩ ?_
    refine ga_icmp_ge (tgt := 159) C dX6_smooth_126 (by decide) (fun c1 => ?_) (fun c1 => ?_)
    · have h := gt_ip h c1
      obtain ⟨hg, h⟩ := gt_gd h
      have g159_0 := hg
      refine ga_iinc C dX6_smooth_159 hl3 g159_0 ?_
      refine ga_goto (tgt := 98) C dX6_smooth_162 (by decide) ?_
      exact hk98 (a.1, a.2.1 + (1 : Int)) _ _ hW hF (gt_un (by decide) hl0) gt_us h
    · have h := gt_in h c1
      obtain ⟨hg, h⟩ := gt_gd h
      obtain ⟨g135_0, g138_1, g147_2, g150_3, g151_4, g152_5, g153_6⟩ := hg
      refine ga_aload_n C dX6_smooth_129 rfl hl0 hr0 ?_
      refine gt_geta C (iX6_smooth_X6) hW 10 rfl rfl (by decide) kX6_smooth_23 dX6_smooth_130 ?_
      refine ga_iconst C dX6_smooth_133 ⟨by decide, by decide⟩ ?_
      refine ga_iload_n C dX6_smooth_134 rfl hl3 ?_
      refine ga_imul C dX6_smooth_135 g135_0 ?_
      refine ga_iload C dX6_smooth_136 hl4 ?_
      refine ga_iadd C dX6_smooth_138 g138_1 ?_
      refine ga_aload_n C dX6_smooth_139 rfl hl0 hr0 ?_
      refine gt_geta C (iX6_smooth_X6) hW 10 rfl rfl (by decide) kX6_smooth_23 dX6_smooth_140 ?_
      refine ga_iconst C dX6_smooth_143 ⟨by decide, by decide⟩ ?_
      refine ga_iload_n C dX6_smooth_144 rfl hl3 ?_
      refine ga_imul C dX6_smooth_145 g135_0 ?_
      refine ga_iconst C dX6_smooth_146 ⟨by decide, by decide⟩ ?_
      refine ga_iadd C dX6_smooth_147 g147_2 ?_
      refine ga_iload C dX6_smooth_148 hl4 ?_
      refine ga_iadd C dX6_smooth_150 g150_3 ?_
      refine gt_iald C hW 10 rfl g151_4.1 g151_4.2 dX6_smooth_151 ?_
      refine gt_iast C okX6 hW hF ⟨Nat.le_refl _, Nat.le_refl _⟩ 10 rfl g152_5.1 g152_5.2 dX6_smooth_152 (fun σ hW hF hf => ?_)
      refine ga_iinc C dX6_smooth_153 hl4 g153_6 ?_
      refine ga_goto (tgt := 123) C dX6_smooth_156 (by decide) ?_
      exact hk123 ((a.1.1, (va_up a.1.2 10 (va_up (a.1.2 10) (((4 : Int) * a.2.1) + a.2.2).toNat (a.1.2 10 ((((4 : Int) * a.2.1) + (4 : Int)) + a.2.2).toNat)))), a.2.1, a.2.2 + (1 : Int)) _ _ hW hF (gt_un (by decide) hl0) (gt_un (by decide) hl3) gt_us h
set_option maxHeartbeats 4000000 in
theorem gX6_smooth_98 {X : ga_X} {D : va_G} {cI cZ : ClassId} {K : Nat} {r : Nat} {σ0 : ga_S} {res : gt_T × Int} (C : ga_C X cX6_smooth yX6_smooth wsX6_smooth [] (gt_rm 2 45) (D, vwCl, cI, cZ) 5) (hRet : ∀ (pc : Nat) (lv : Nat → Option ga_V) (σ' : ga_S) (z : Int), decode cX6_smooth pc = .ok (.ireturn, 1) → (z = 0 ∨ z = 1) → z = res.2 → (gt_O SX6 6 r res.1 σ' ∧ gt_F r (r + 14) σ0 σ') → ga_G X 0 0 K pc lv [.inl z] σ') (hr0 : r ≠ 0) : ∀ (n : Nat) (a : gt_T × Int) (σ : ga_S) (lv : Nat → Option ga_V), gt_O SX6 6 r a.1 σ → gt_F r (r + 14) σ0 σ → lv 0 = some (.inr r) → lv 3 = some (.inl a.2) → gt_loop (fX6_smooth_98) n a = some res → ga_G X 0 0 K 98 lv [] σ := by
  intro n
  induction n with
  | zero =>
    intro a _ lv _ _ _ _ h
    exact absurd (show (none : Option _) = some _ from h) (fun q => by cases q)
  | succ n hk98 =>
    intro a σ lv hW hF hl0 hl3 h
    have h : fX6_smooth_98 (gt_loop (fX6_smooth_98) n) a = some res := h
    revert hk98 h
    generalize gt_loop (fX6_smooth_98) n = k98
    intro hk98 h
    unfold fX6_smooth_98 at h
    refine ga_iload_n C dX6_smooth_98 rfl hl3 ?_
    refine ga_aload_n C dX6_smooth_99 rfl hl0 hr0 ?_
    refine gt_geti C (iX6_smooth_X6) hW 5 rfl rfl (by decide) kX6_smooth_57 dX6_smooth_100 ?_
    refine ga_icmp_ge (tgt := 165) C dX6_smooth_103 (by decide) (fun c1 => ?_) (fun c1 => ?_)
    · have h := gt_ip h c1
      obtain ⟨hg, h⟩ := gt_gd h
      obtain ⟨g171_0, g177_1⟩ := hg
      refine ga_aload_n C dX6_smooth_165 rfl hl0 hr0 ?_
      refine ga_aload_n C dX6_smooth_166 rfl hl0 hr0 ?_
      refine gt_geta C (iX6_smooth_X6) hW 15 rfl rfl (by decide) kX6_smooth_35 dX6_smooth_167 ?_
      refine ga_iconst C dX6_smooth_170 ⟨by decide, by decide⟩ ?_
      refine gt_iald C hW 15 rfl g171_0.1 g171_0.2 dX6_smooth_171 ?_
      refine ga_aload_n C dX6_smooth_172 rfl hl0 hr0 ?_
      refine gt_geta C (iX6_smooth_X6) hW 15 rfl rfl (by decide) kX6_smooth_35 dX6_smooth_173 ?_
      refine ga_iconst C dX6_smooth_176 ⟨by decide, by decide⟩ ?_
      refine gt_iald C hW 15 rfl g177_1.1 g177_1.2 dX6_smooth_177 ?_
      obtain ⟨q178, hq, h⟩ := Option.bind_eq_some_iff.mp h
      refine gt_cVv (n := 2) (st := []) C (eX6_join X.2.1 D cI cZ K hr0 hW hq) gX6_smooth_X6_join rfl (by decide +kernel) rfl ⟨Nat.le_of_ble_eq_true rfl, Nat.le_of_ble_eq_true rfl⟩ hW.1 rfl rfl (Nat.le_of_ble_eq_true rfl) rfl dX6_smooth_178 (fun σ' hp => ?_)
      obtain ⟨hw, hf⟩ := hp
      have hF := hF.tr hf (Nat.le_refl _) (Nat.le_refl _)
      have hW := hw
      clear hf
      obtain ⟨hg, h⟩ := gt_gd h
      obtain ⟨g187_0, g193_1⟩ := hg
      refine ga_aload_n C dX6_smooth_181 rfl hl0 hr0 ?_
      refine ga_aload_n C dX6_smooth_182 rfl hl0 hr0 ?_
      refine gt_geta C (iX6_smooth_X6) hW 15 rfl rfl (by decide) kX6_smooth_35 dX6_smooth_183 ?_
      refine ga_iconst C dX6_smooth_186 ⟨by decide, by decide⟩ ?_
      refine gt_iald C hW 15 rfl g187_0.1 g187_0.2 dX6_smooth_187 ?_
      refine ga_aload_n C dX6_smooth_188 rfl hl0 hr0 ?_
      refine gt_geta C (iX6_smooth_X6) hW 15 rfl rfl (by decide) kX6_smooth_35 dX6_smooth_189 ?_
      refine ga_iconst C dX6_smooth_192 ⟨by decide, by decide⟩ ?_
      refine gt_iald C hW 15 rfl g193_1.1 g193_1.2 dX6_smooth_193 ?_
      obtain ⟨q194, hq, h⟩ := Option.bind_eq_some_iff.mp h
      refine gt_cVv (n := 2) (st := []) C (eX6_join X.2.1 D cI cZ K hr0 hW hq) gX6_smooth_X6_join rfl (by decide +kernel) rfl ⟨Nat.le_of_ble_eq_true rfl, Nat.le_of_ble_eq_true rfl⟩ hW.1 rfl rfl (Nat.le_of_ble_eq_true rfl) rfl dX6_smooth_194 (fun σ' hp => ?_)
      obtain ⟨hw, hf⟩ := hp
      have hF := hF.tr hf (Nat.le_refl _) (Nat.le_refl _)
      have hW := hw
      clear hf
      obtain ⟨hg, h⟩ := gt_gd h
      have g198_0 := hg
      refine ga_iconst C dX6_smooth_197 ⟨by decide, by decide⟩ ?_
      cases h
      exact hRet _ _ _ _ dX6_smooth_198 g198_0 rfl ⟨hW, hF⟩
    · have h := gt_in h c1
      obtain ⟨hg, h⟩ := gt_gd h
      obtain ⟨g117_0, g118_1, g119_2⟩ := hg
      refine ga_aload_n C dX6_smooth_106 rfl hl0 hr0 ?_
      refine gt_geta C (iX6_smooth_X6) hW 9 rfl rfl (by decide) kX6_smooth_20 dX6_smooth_107 ?_
      refine ga_iload_n C dX6_smooth_110 rfl hl3 ?_
      refine ga_aload_n C dX6_smooth_111 rfl hl0 hr0 ?_
      refine gt_geta C (iX6_smooth_X6) hW 9 rfl rfl (by decide) kX6_smooth_20 dX6_smooth_112 ?_
      refine ga_iload_n C dX6_smooth_115 rfl hl3 ?_
      refine ga_iconst C dX6_smooth_116 ⟨by decide, by decide⟩ ?_
      refine ga_iadd C dX6_smooth_117 g117_0 ?_
      refine gt_iald C hW 9 rfl g118_1.1 g118_1.2 dX6_smooth_118 ?_
      refine gt_iast C okX6 hW hF ⟨Nat.le_refl _, Nat.le_refl _⟩ 9 rfl g119_2.1 g119_2.2 dX6_smooth_119 (fun σ hW hF hf => ?_)
      refine ga_iconst C dX6_smooth_120 ⟨by decide, by decide⟩ ?_
      refine ga_istore C dX6_smooth_121 (by decide) ?_
      exact gX6_smooth_123 C hRet hr0 hk98 gt_fuel ((a.1.1, (va_up a.1.2 9 (va_up (a.1.2 9) a.2.toNat (a.1.2 9 (a.2 + (1 : Int)).toNat)))), a.2, (0 : Int)) _ _ hW hF (gt_un (by decide) hl0) (gt_un (by decide) hl3) gt_us h
set_option maxHeartbeats 4000000 in
theorem gX6_smooth_0 {X : ga_X} {D : va_G} {cI cZ : ClassId} {K : Nat} {r : Nat} {σ0 : ga_S} {res : gt_T × Int} (C : ga_C X cX6_smooth yX6_smooth wsX6_smooth [] (gt_rm 2 45) (D, vwCl, cI, cZ) 5) (hRet : ∀ (pc : Nat) (lv : Nat → Option ga_V) (σ' : ga_S) (z : Int), decode cX6_smooth pc = .ok (.ireturn, 1) → (z = 0 ∨ z = 1) → z = res.2 → (gt_O SX6 6 r res.1 σ' ∧ gt_F r (r + 14) σ0 σ') → ga_G X 0 0 K pc lv [.inl z] σ') (hr0 : r ≠ 0) {T : gt_T} {σ : ga_S} {l1 : Int} {lv : Nat → Option ga_V} (hW : gt_O SX6 6 r T σ) (hF : gt_F r (r + 14) σ0 σ) (hl0 : lv 0 = some (.inr r)) (hl1 : lv 1 = some (.inl l1)) (h : fX6_smooth T l1 = some res) : ga_G X 0 0 K 0 lv [] σ := by
  unfold fX6_smooth at h
  refine ga_iload_n C dX6_smooth_0 rfl hl1 ?_
  refine ga_if_lt (tgt := 12) C dX6_smooth_1 (by decide) (fun c1 => ?_) (fun c1 => ?_)
  · have h := gt_ip h c1
    exact gX6_smooth_12 C hRet hr0 hW hF h
  · have h := gt_in h c1
    refine ga_iload_n C dX6_smooth_4 rfl hl1 ?_
    refine ga_aload_n C dX6_smooth_5 rfl hl0 hr0 ?_
    refine gt_geti C (iX6_smooth_X6) hW 5 rfl rfl (by decide) kX6_smooth_57 dX6_smooth_6 ?_
    refine ga_icmp_lt (tgt := 14) C dX6_smooth_9 (by decide) (fun c1 => ?_) (fun c1 => ?_)
    · have h := gt_ip h c1
      refine ga_aload_n C dX6_smooth_14 rfl hl0 hr0 ?_
      refine ga_iload_n C dX6_smooth_15 rfl hl1 ?_
      obtain ⟨q16, hq, h⟩ := Option.bind_eq_some_iff.mp h
      refine gt_cVi (n := 1) (st := []) C (eX6_upperIn X.2.1 D cI cZ K hr0 hW hq) gX6_smooth_X6_upperIn rfl (by decide +kernel) rfl ⟨Nat.le_of_ble_eq_true rfl, Nat.le_of_ble_eq_true rfl⟩ hW.1 rfl rfl (Nat.le_of_ble_eq_true rfl) rfl dX6_smooth_16 (fun σ' hp => ?_)
      subst hp
      obtain ⟨hg, h⟩ := gt_gd h
      obtain ⟨g31_0, g32_1, g33_2, g48_3, g50_4, g51_5, g52_6, g53_7, g67_8, g68_9, g69_10, g83_11, g84_12, g85_13, g92_14⟩ := hg
      refine ga_istore_n C dX6_smooth_19 rfl (by decide) ?_
      refine ga_aload_n C dX6_smooth_20 rfl (gt_un (by decide) hl0) hr0 ?_
      refine gt_geta C (iX6_smooth_X6) hW 15 rfl rfl (by decide) kX6_smooth_35 dX6_smooth_21 ?_
      refine ga_iconst C dX6_smooth_24 ⟨by decide, by decide⟩ ?_
      refine ga_aload_n C dX6_smooth_25 rfl (gt_un (by decide) hl0) hr0 ?_
      refine gt_geta C (iX6_smooth_X6) hW 10 rfl rfl (by decide) kX6_smooth_23 dX6_smooth_26 ?_
      refine ga_iconst C dX6_smooth_29 ⟨by decide, by decide⟩ ?_
      refine ga_iload_n C dX6_smooth_30 rfl (gt_un (by decide) hl1) ?_
      refine ga_imul C dX6_smooth_31 g31_0 ?_
      refine gt_iald C hW 10 rfl g32_1.1 g32_1.2 dX6_smooth_32 ?_
      refine gt_iast C okX6 hW hF ⟨Nat.le_refl _, Nat.le_refl _⟩ 15 rfl g33_2.1 g33_2.2 dX6_smooth_33 (fun σ hW hF hf => ?_)
      refine ga_aload_n C dX6_smooth_34 rfl (gt_un (by decide) hl0) hr0 ?_
      refine gt_geta C (iX6_smooth_X6) hW 15 rfl rfl (by decide) kX6_smooth_35 dX6_smooth_35 ?_
      refine ga_iconst C dX6_smooth_38 ⟨by decide, by decide⟩ ?_
      refine ga_aload_n C dX6_smooth_39 rfl (gt_un (by decide) hl0) hr0 ?_
      refine gt_geta C (iX6_smooth_X6) hW 10 rfl rfl (by decide) kX6_smooth_23 dX6_smooth_40 ?_
      refine ga_iconst C dX6_smooth_43 ⟨by decide, by decide⟩ ?_
      refine ga_iload_n C dX6_smooth_44 rfl (gt_un (by decide) hl1) ?_
      refine ga_imul C dX6_smooth_45 g31_0 ?_
      refine ga_iload_n C dX6_smooth_46 rfl gt_us ?_
      refine ga_iconst C dX6_smooth_47 ⟨by decide, by decide⟩ ?_
      refine ga_iadd C dX6_smooth_48 g48_3 ?_
      refine ga_iconst C dX6_smooth_49 ⟨by decide, by decide⟩ ?_
      refine ga_irem C dX6_smooth_50 (by decide) g50_4 ?_
      refine ga_iadd C dX6_smooth_51 g51_5 ?_
      refine gt_iald C hW 10 rfl g52_6.1 g52_6.2 dX6_smooth_52 ?_
      refine gt_iast C okX6 hW hF ⟨Nat.le_refl _, Nat.le_refl _⟩ 15 rfl g53_7.1 g53_7.2 dX6_smooth_53 (fun σ hW hF hf => ?_)
      refine ga_aload_n C dX6_smooth_54 rfl (gt_un (by decide) hl0) hr0 ?_
      refine gt_geta C (iX6_smooth_X6) hW 15 rfl rfl (by decide) kX6_smooth_35 dX6_smooth_55 ?_
      refine ga_iconst C dX6_smooth_58 ⟨by decide, by decide⟩ ?_
      refine ga_aload_n C dX6_smooth_59 rfl (gt_un (by decide) hl0) hr0 ?_
      refine gt_geta C (iX6_smooth_X6) hW 10 rfl rfl (by decide) kX6_smooth_23 dX6_smooth_60 ?_
      refine ga_iconst C dX6_smooth_63 ⟨by decide, by decide⟩ ?_
      refine ga_iload_n C dX6_smooth_64 rfl (gt_un (by decide) hl1) ?_
      refine ga_imul C dX6_smooth_65 g31_0 ?_
      refine ga_iload_n C dX6_smooth_66 rfl gt_us ?_
      refine ga_iadd C dX6_smooth_67 g67_8 ?_
      refine gt_iald C hW 10 rfl g68_9.1 g68_9.2 dX6_smooth_68 ?_
      refine gt_iast C okX6 hW hF ⟨Nat.le_refl _, Nat.le_refl _⟩ 15 rfl g69_10.1 g69_10.2 dX6_smooth_69 (fun σ hW hF hf => ?_)
      refine ga_aload_n C dX6_smooth_70 rfl (gt_un (by decide) hl0) hr0 ?_
      refine gt_geta C (iX6_smooth_X6) hW 15 rfl rfl (by decide) kX6_smooth_35 dX6_smooth_71 ?_
      refine ga_iconst C dX6_smooth_74 ⟨by decide, by decide⟩ ?_
      refine ga_aload_n C dX6_smooth_75 rfl (gt_un (by decide) hl0) hr0 ?_
      refine gt_geta C (iX6_smooth_X6) hW 10 rfl rfl (by decide) kX6_smooth_23 dX6_smooth_76 ?_
      refine ga_iconst C dX6_smooth_79 ⟨by decide, by decide⟩ ?_
      refine ga_iload_n C dX6_smooth_80 rfl (gt_un (by decide) hl1) ?_
      refine ga_imul C dX6_smooth_81 g31_0 ?_
      refine ga_iconst C dX6_smooth_82 ⟨by decide, by decide⟩ ?_
      refine ga_iadd C dX6_smooth_83 g83_11 ?_
      refine gt_iald C hW 10 rfl g84_12.1 g84_12.2 dX6_smooth_84 ?_
      refine gt_iast C okX6 hW hF ⟨Nat.le_refl _, Nat.le_refl _⟩ 15 rfl g85_13.1 g85_13.2 dX6_smooth_85 (fun σ hW hF hf => ?_)
      refine ga_aload_n C dX6_smooth_86 rfl (gt_un (by decide) hl0) hr0 ?_
      refine ga_dup C dX6_smooth_87 ?_
      refine gt_geti C (iX6_smooth_X6) hW 5 rfl rfl (by decide) kX6_smooth_57 dX6_smooth_88 ?_
      refine ga_iconst C dX6_smooth_91 ⟨by decide, by decide⟩ ?_
      refine ga_isub C dX6_smooth_92 g92_14 ?_
      refine gt_puti C okX6 (by decide) (iX6_smooth_X6) tyX6 tyX6_ok nmX6 hW hF ⟨Nat.le_refl _, Nat.le_refl _⟩ 5 rfl rfl (by decide) kX6_smooth_57 rfl (by decide +kernel) dX6_smooth_93 (fun σ hW hF hf => ?_)
      refine ga_iload_n C dX6_smooth_96 rfl (gt_un (by decide) hl1) ?_
      refine ga_istore_n C dX6_smooth_97 rfl (by decide) ?_
      exact gX6_smooth_98 C hRet hr0 gt_fuel (((va_up T.1 5 ((T.1 5) - (1 : Int))), (va_up (va_up (va_up (va_up T.2 15 (va_up (T.2 15) (0 : Int).toNat (T.2 10 ((4 : Int) * l1).toNat))) 15 (va_up ((va_up T.2 15 (va_up (T.2 15) (0 : Int).toNat (T.2 10 ((4 : Int) * l1).toNat))) 15) (1 : Int).toNat ((va_up T.2 15 (va_up (T.2 15) (0 : Int).toNat (T.2 10 ((4 : Int) * l1).toNat))) 10 (((4 : Int) * l1) + ((q16 + (2 : Int)) % (4 : Int))).toNat))) 15 (va_up ((va_up (va_up T.2 15 (va_up (T.2 15) (0 : Int).toNat (T.2 10 ((4 : Int) * l1).toNat))) 15 (va_up ((va_up T.2 15 (va_up (T.2 15) (0 : Int).toNat (T.2 10 ((4 : Int) * l1).toNat))) 15) (1 : Int).toNat ((va_up T.2 15 (va_up (T.2 15) (0 : Int).toNat (T.2 10 ((4 : Int) * l1).toNat))) 10 (((4 : Int) * l1) + ((q16 + (2 : Int)) % (4 : Int))).toNat))) 15) (2 : Int).toNat ((va_up (va_up T.2 15 (va_up (T.2 15) (0 : Int).toNat (T.2 10 ((4 : Int) * l1).toNat))) 15 (va_up ((va_up T.2 15 (va_up (T.2 15) (0 : Int).toNat (T.2 10 ((4 : Int) * l1).toNat))) 15) (1 : Int).toNat ((va_up T.2 15 (va_up (T.2 15) (0 : Int).toNat (T.2 10 ((4 : Int) * l1).toNat))) 10 (((4 : Int) * l1) + ((q16 + (2 : Int)) % (4 : Int))).toNat))) 10 (((4 : Int) * l1) + q16).toNat))) 15 (va_up ((va_up (va_up (va_up T.2 15 (va_up (T.2 15) (0 : Int).toNat (T.2 10 ((4 : Int) * l1).toNat))) 15 (va_up ((va_up T.2 15 (va_up (T.2 15) (0 : Int).toNat (T.2 10 ((4 : Int) * l1).toNat))) 15) (1 : Int).toNat ((va_up T.2 15 (va_up (T.2 15) (0 : Int).toNat (T.2 10 ((4 : Int) * l1).toNat))) 10 (((4 : Int) * l1) + ((q16 + (2 : Int)) % (4 : Int))).toNat))) 15 (va_up ((va_up (va_up T.2 15 (va_up (T.2 15) (0 : Int).toNat (T.2 10 ((4 : Int) * l1).toNat))) 15 (va_up ((va_up T.2 15 (va_up (T.2 15) (0 : Int).toNat (T.2 10 ((4 : Int) * l1).toNat))) 15) (1 : Int).toNat ((va_up T.2 15 (va_up (T.2 15) (0 : Int).toNat (T.2 10 ((4 : Int) * l1).toNat))) 10 (((4 : Int) * l1) + ((q16 + (2 : Int)) % (4 : Int))).toNat))) 15) (2 : Int).toNat ((va_up (va_up T.2 15 (va_up (T.2 15) (0 : Int).toNat (T.2 10 ((4 : Int) * l1).toNat))) 15 (va_up ((va_up T.2 15 (va_up (T.2 15) (0 : Int).toNat (T.2 10 ((4 : Int) * l1).toNat))) 15) (1 : Int).toNat ((va_up T.2 15 (va_up (T.2 15) (0 : Int).toNat (T.2 10 ((4 : Int) * l1).toNat))) 10 (((4 : Int) * l1) + ((q16 + (2 : Int)) % (4 : Int))).toNat))) 10 (((4 : Int) * l1) + q16).toNat))) 15) (3 : Int).toNat ((va_up (va_up (va_up T.2 15 (va_up (T.2 15) (0 : Int).toNat (T.2 10 ((4 : Int) * l1).toNat))) 15 (va_up ((va_up T.2 15 (va_up (T.2 15) (0 : Int).toNat (T.2 10 ((4 : Int) * l1).toNat))) 15) (1 : Int).toNat ((va_up T.2 15 (va_up (T.2 15) (0 : Int).toNat (T.2 10 ((4 : Int) * l1).toNat))) 10 (((4 : Int) * l1) + ((q16 + (2 : Int)) % (4 : Int))).toNat))) 15 (va_up ((va_up (va_up T.2 15 (va_up (T.2 15) (0 : Int).toNat (T.2 10 ((4 : Int) * l1).toNat))) 15 (va_up ((va_up T.2 15 (va_up (T.2 15) (0 : Int).toNat (T.2 10 ((4 : Int) * l1).toNat))) 15) (1 : Int).toNat ((va_up T.2 15 (va_up (T.2 15) (0 : Int).toNat (T.2 10 ((4 : Int) * l1).toNat))) 10 (((4 : Int) * l1) + ((q16 + (2 : Int)) % (4 : Int))).toNat))) 15) (2 : Int).toNat ((va_up (va_up T.2 15 (va_up (T.2 15) (0 : Int).toNat (T.2 10 ((4 : Int) * l1).toNat))) 15 (va_up ((va_up T.2 15 (va_up (T.2 15) (0 : Int).toNat (T.2 10 ((4 : Int) * l1).toNat))) 15) (1 : Int).toNat ((va_up T.2 15 (va_up (T.2 15) (0 : Int).toNat (T.2 10 ((4 : Int) * l1).toNat))) 10 (((4 : Int) * l1) + ((q16 + (2 : Int)) % (4 : Int))).toNat))) 10 (((4 : Int) * l1) + q16).toNat))) 10 (((4 : Int) * l1) + (2 : Int)).toNat)))), l1) _ _ hW hF (gt_un (by decide) (gt_un (by decide) hl0)) gt_us h
    · have h := gt_in h c1
      exact gX6_smooth_12 C hRet hr0 hW hF h
set_option maxHeartbeats 4000000 in
theorem eX6_smooth (l : Launch) (D : va_G) (cI cZ : ClassId) (K : Nat) {r : Nat} (hr0 : r ≠ 0) {σ : ga_S} {T : gt_T} (hW : gt_O SX6 6 r T σ) {l1 : Int} {res : gt_T × Int} (h : fX6_smooth T l1 = some res) : ga_Ev l (D, vwCl, cI, cZ) yX6_smooth wsX6_smooth (gt_rm 2 45) [] 0 0 K [.inr r, .inl l1] σ (fun σ' rv => (gt_O SX6 6 r res.1 σ' ∧ gt_F r (r + 14) σ σ') ∧ rv = some (.inl res.2)) := by
  refine ga_ofZ (by decide +kernel) rfl gt_hcl (Nat.le_of_ble_eq_true rfl) (fun X hX C hret => ?_)
  exact gX6_smooth_0 C (fun pc lv σ' z d h01 hz hp => hret pc lv σ' z d h01 ⟨hp, by rw [hz]⟩) hr0 hW gt_F.rf rfl rfl h
