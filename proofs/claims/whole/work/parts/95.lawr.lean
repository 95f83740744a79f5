/-! The law's own frame: place 0 holds the script. -/
def gl_L (b0 : Nat) (ad : Nat → Nat) (K : Nat) (ls : Array Slot) (nL : Nat) (lv : Nat → Option ga_V) : Prop := lv_has ls nL ((0, .ref b0) :: ga_ll ad nL lv) ∧ ∀ i v, lv i = some v → i < nL ∧ ga_cV K v
theorem gl_L.at {b0 : Nat} {ad : Nat → Nat} {K nL : Nat} {ls : Array Slot} {lv : Nat → Option ga_V} (h : gl_L b0 ad K ls nL lv) {i : Nat} {v : ga_V} (hi : lv i = some v) : ls[i]? = some (.val (ga_v ad v)) := by
  obtain ⟨k, hk⟩ := ga_mem_ll (ad := ad) (h.2 i v hi).1 hi
  exact h.1.2.2 (i, ga_v ad v) (List.mem_cons_of_mem _ (List.mem_of_getElem? hk))
theorem gl_L.put {b0 : Nat} {ad : Nat → Nat} {K nL : Nat} {ls' : Array Slot} {lv : Nat → Option ga_V} {i : Nat} {v : ga_V} (hc : ∀ j w, lv j = some w → j < nL ∧ ga_cV K w) (hi : i < nL) (h0 : i ≠ 0) (hv : ga_cV K v) (h : lv_has ls' nL ((i, ga_v ad v) :: ((0, .ref b0) :: ga_ll ad nL lv).filter (fun q => !(q.1 == i) && !(q.1 + 1 == i && q.2.category == 2)))) : gl_L b0 ad K ls' nL (va_up lv i (some v)) := by
  have hp := ga_L.put (ad := ad) (K := K) (nL := nL) (ls' := ls') (lv := lv) (i := i) (v := v) hc hi hv ⟨h.1, h.2.1, fun q hq => by
    rcases List.mem_cons.mp hq with e | e
    · exact h.2.2 q (by rw [e]; exact List.mem_cons_self)
    · obtain ⟨e1, e2⟩ := List.mem_filter.mp e
      exact h.2.2 q (List.mem_cons_of_mem _ (List.mem_filter.mpr ⟨List.mem_cons_of_mem _ e1, e2⟩))⟩
  refine ⟨⟨hp.1.1, hp.1.2.1, fun q hq => ?_⟩, hp.2⟩
  rcases List.mem_cons.mp hq with e | e
  · refine h.2.2 q (List.mem_cons_of_mem _ (List.mem_filter.mpr ⟨by rw [e]; exact List.mem_cons_self, ?_⟩))
    rw [e]
    have h1 : ((0 : Nat) == i) = false := by rw [beq_eq_false_iff_ne]; exact fun z => h0 z.symm
    show (!((0 : Nat) == i) && !((0 + 1 == i) && false)) = true
    rw [h1, Bool.and_false]; rfl
  · exact hp.1.2.2 q e
def gl_G (X : ga_X) (b0 ce sl K pc : Nat) (lv : Nat → Option ga_V) (st : List ga_V) (σ : ga_S) : Prop := match X with
  | (p, l, e, R, s, m, args, below, meth, c, nL, D, cl, cI, cZ, A, Q, K0, ad0) => ∀ (ad : Nat → Nat) (H : Heap) (locs : List Loc) (ls : Array Slot), K0 ≤ K → (∀ k, k ≤ K0 → ad k = ad0 k) → va_P D cl (ga_w ad cI cZ K σ) H → va_D A (ga_w ad cI cZ K σ) → va_S A s.heap H locs → gl_L b0 ad K ls nL lv → ga_cS K σ → (∀ v ∈ st, ga_cV K v) →
    W p l e R s m args below meth c H locs ce sl Q (F0 m pc ls (st.map (ga_v ad)))
def gl_X (X : ga_X) (b0 L : Nat) (xs : Nat → Int32) : Prop := match X with
  | (p, l, e, R, s, m, args, below, meth, c, nL, D, cl, cI, cZ, A, Q, K0, ad0) => va_X b0 L xs s s.heap ∧ b0 < s.heap.size ∧ ¬ A b0
section GL
variable {X : ga_X} {b0 : Nat} {cc : ByteArray} {y : MethodName} {Ts : List Cond} {nw : ga_N} {R0 : Room} {gD : va_G × List vw_C × ClassId × ClassId} {nL0 : Nat}
variable {ce sl K pc : Nat} {lv : Nat → Option ga_V} {st stk : List ga_V} {σ : ga_S}
theorem gl_iconst (C : ga_C X cc y Ts nw R0 gD nL0) {n : Int} (d : decode cc pc = .ok (.iconst n, 1)) (hr : ga_r n) (k : gl_G X b0 ce sl K (pc + 1) lv (.inl n :: st) σ) : gl_G X b0 ce sl K pc lv (st) σ := by
  obtain ⟨p, l, e, R, s, m, args, below, meth, c, nL, D, cl, cI, cZ, A, Q, K0, ad0⟩ := X
  obtain ⟨⟨hx, hb, hml, hown, hts⟩, hK, hA, hlk, hcl, hnw, hR, hnm, hgD, hnL⟩ := C
  intro ad H locs ls hKK h0 hP hD hS hL hc hst
  exact lv_iconst hx hb d rfl (k ad H locs ls hKK h0 hP hD hS hL hc (ga_1 hst hr))
theorem gl_bipush (C : ga_C X cc y Ts nw R0 gD nL0) {n : Int} (d : decode cc pc = .ok (.bipush n, 2)) (hr : ga_r n) (hn : (Int8.ofInt n).toInt32 = Int32.ofInt n) (k : gl_G X b0 ce sl K (pc + 2) lv (.inl n :: st) σ) : gl_G X b0 ce sl K pc lv (st) σ := by
  obtain ⟨p, l, e, R, s, m, args, below, meth, c, nL, D, cl, cI, cZ, A, Q, K0, ad0⟩ := X
  obtain ⟨⟨hx, hb, hml, hown, hts⟩, hK, hA, hlk, hcl, hnw, hR, hnm, hgD, hnL⟩ := C
  intro ad H locs ls hKK h0 hP hD hS hL hc hst
  exact lv_bipush hx hb d hn (k ad H locs ls hKK h0 hP hD hS hL hc (ga_1 hst hr))
theorem gl_iload_n (C : ga_C X cc y Ts nw R0 gD nL0) {q : Fin 4} {i : Nat} {x : Int} (d : decode cc pc = .ok (.iload_n q, 1)) (hq : (q : Nat) = i) (hl : lv i = some (.inl x))  (k : gl_G X b0 ce sl K (pc + 1) lv (.inl x :: st) σ) : gl_G X b0 ce sl K pc lv (st) σ := by
  obtain ⟨p, l, e, R, s, m, args, below, meth, c, nL, D, cl, cI, cZ, A, Q, K0, ad0⟩ := X
  obtain ⟨⟨hx, hb, hml, hown, hts⟩, hK, hA, hlk, hcl, hnw, hR, hnm, hgD, hnL⟩ := C
  intro ad H locs ls hKK h0 hP hD hS hL hc hst
  exact lv_iload_n hx hb d hq (hL.at hl) (k ad H locs ls hKK h0 hP hD hS hL hc (ga_1 hst (hL.2 _ _ hl).2))
theorem gl_aload_n (C : ga_C X cc y Ts nw R0 gD nL0) {q : Fin 4} {i : Nat} {x : Nat} (d : decode cc pc = .ok (.aload_n q, 1)) (hq : (q : Nat) = i) (hl : lv i = some (.inr x)) (h1 : x ≠ 0)  (k : gl_G X b0 ce sl K (pc + 1) lv (.inr x :: st) σ) : gl_G X b0 ce sl K pc lv (st) σ := by
  obtain ⟨p, l, e, R, s, m, args, below, meth, c, nL, D, cl, cI, cZ, A, Q, K0, ad0⟩ := X
  obtain ⟨⟨hx, hb, hml, hown, hts⟩, hK, hA, hlk, hcl, hnw, hR, hnm, hgD, hnL⟩ := C
  intro ad H locs ls hKK h0 hP hD hS hL hc hst
  obtain ⟨x, rfl⟩ := Nat.exists_eq_succ_of_ne_zero h1
  exact lv_aload_n hx hb d hq (hL.at hl) (k ad H locs ls hKK h0 hP hD hS hL hc (ga_1 hst (hL.2 _ _ hl).2))
theorem gl_iadd (C : ga_C X cc y Ts nw R0 gD nL0) {x z : Int} (d : decode cc pc = .ok (.iadd, 1)) (hr : ga_r (x + z)) (k : gl_G X b0 ce sl K (pc + 1) lv (.inl (x + z) :: st) σ) : gl_G X b0 ce sl K pc lv (.inl z :: .inl x :: st) σ := by
  obtain ⟨p, l, e, R, s, m, args, below, meth, c, nL, D, cl, cI, cZ, A, Q, K0, ad0⟩ := X
  obtain ⟨⟨hx, hb, hml, hown, hts⟩, hK, hA, hlk, hcl, hnw, hR, hnm, hgD, hnL⟩ := C
  intro ad H locs ls hKK h0 hP hD hS hL hc hst
  have h := k ad H locs ls hKK h0 hP hD hS hL hc (ga_1 (ga_t (ga_t hst)) hr)
  refine lv_iadd hx hb d ?_
  rw [← Int32.ofInt_add]
  exact h
theorem gl_isub (C : ga_C X cc y Ts nw R0 gD nL0) {x z : Int} (d : decode cc pc = .ok (.isub, 1)) (hr : ga_r (x - z)) (k : gl_G X b0 ce sl K (pc + 1) lv (.inl (x - z) :: st) σ) : gl_G X b0 ce sl K pc lv (.inl z :: .inl x :: st) σ := by
  obtain ⟨p, l, e, R, s, m, args, below, meth, c, nL, D, cl, cI, cZ, A, Q, K0, ad0⟩ := X
  obtain ⟨⟨hx, hb, hml, hown, hts⟩, hK, hA, hlk, hcl, hnw, hR, hnm, hgD, hnL⟩ := C
  intro ad H locs ls hKK h0 hP hD hS hL hc hst
  have h := k ad H locs ls hKK h0 hP hD hS hL hc (ga_1 (ga_t (ga_t hst)) hr)
  refine lv_isub hx hb d ?_
  rw [← Int32.ofInt_sub]
  exact h
theorem gl_dup (C : ga_C X cc y Ts nw R0 gD nL0) {v : ga_V} (d : decode cc pc = .ok (.dup, 1)) (k : gl_G X b0 ce sl K (pc + 1) lv (v :: v :: st) σ) : gl_G X b0 ce sl K pc lv (v :: st) σ := by
  obtain ⟨p, l, e, R, s, m, args, below, meth, c, nL, D, cl, cI, cZ, A, Q, K0, ad0⟩ := X
  obtain ⟨⟨hx, hb, hml, hown, hts⟩, hK, hA, hlk, hcl, hnw, hR, hnm, hgD, hnL⟩ := C
  intro ad H locs ls hKK h0 hP hD hS hL hc hst
  exact lv_dup hx hb d (ga_v_cat ad v) (k ad H locs ls hKK h0 hP hD hS hL hc (ga_1 hst (ga_h hst)))
theorem gl_icmp_gt (C : ga_C X cc y Ts nw R0 gD nL0) {x z : Int} {off : Int} {tgt : Nat} (d : decode cc pc = .ok (.if_icmp .gt off, 3)) (ht : (pc : Int) + off = (tgt : Int)) (kt : z < x → gl_G X b0 ce sl K tgt lv st σ) (kf : ¬ (z < x) → gl_G X b0 ce sl K (pc + 3) lv st σ) : gl_G X b0 ce sl K pc lv (.inl z :: .inl x :: st) σ := by
  obtain ⟨p, l, e, R, s, m, args, below, meth, c, nL, D, cl, cI, cZ, A, Q, K0, ad0⟩ := X
  obtain ⟨⟨hx, hb, hml, hown, hts⟩, hK, hA, hlk, hcl, hnw, hR, hnm, hgD, hnL⟩ := C
  intro ad H locs ls hKK h0 hP hD hS hL hc hst
  have hz1 : ga_r z := ga_h hst
  have hx1 : ga_r x := ga_h (ga_t hst)
  exact lv_icmp_gt hx hb d ht (fun q => kt ((ga_lt hz1 hx1).mp q) ad H locs ls hKK h0 hP hD hS hL hc (ga_t (ga_t hst))) (fun q => kf (fun q2 => q ((ga_lt hz1 hx1).mpr q2)) ad H locs ls hKK h0 hP hD hS hL hc (ga_t (ga_t hst)))
theorem gl_icmp_eq (C : ga_C X cc y Ts nw R0 gD nL0) {x z : Int} {off : Int} {tgt : Nat} (d : decode cc pc = .ok (.if_icmp .eq off, 3)) (ht : (pc : Int) + off = (tgt : Int)) (kt : x = z → gl_G X b0 ce sl K tgt lv st σ) (kf : ¬ x = z → gl_G X b0 ce sl K (pc + 3) lv st σ) : gl_G X b0 ce sl K pc lv (.inl z :: .inl x :: st) σ := by
  obtain ⟨p, l, e, R, s, m, args, below, meth, c, nL, D, cl, cI, cZ, A, Q, K0, ad0⟩ := X
  obtain ⟨⟨hx, hb, hml, hown, hts⟩, hK, hA, hlk, hcl, hnw, hR, hnm, hgD, hnL⟩ := C
  intro ad H locs ls hKK h0 hP hD hS hL hc hst
  have hz1 : ga_r z := ga_h hst
  have hx1 : ga_r x := ga_h (ga_t hst)
  exact lv_icmp_eq hx hb d ht (fun q => kt ((ga_eq hx1 hz1).mp q) ad H locs ls hKK h0 hP hD hS hL hc (ga_t (ga_t hst))) (fun q => kf (fun q2 => q ((ga_eq hx1 hz1).mpr q2)) ad H locs ls hKK h0 hP hD hS hL hc (ga_t (ga_t hst)))
theorem gl_goto (C : ga_C X cc y Ts nw R0 gD nL0) {off : Int} {tgt : Nat} (d : decode cc pc = .ok (.goto off, 3)) (ht : (pc : Int) + off = (tgt : Int)) (k : gl_G X b0 ce sl K tgt lv st σ) : gl_G X b0 ce sl K pc lv (st) σ := by
  obtain ⟨p, l, e, R, s, m, args, below, meth, c, nL, D, cl, cI, cZ, A, Q, K0, ad0⟩ := X
  obtain ⟨⟨hx, hb, hml, hown, hts⟩, hK, hA, hlk, hcl, hnw, hR, hnm, hgD, hnL⟩ := C
  intro ad H locs ls hKK h0 hP hD hS hL hc hst
  exact lv_goto hx hb d ht (k ad H locs ls hKK h0 hP hD hS hL hc hst)
theorem gl_tabOut (C : ga_C X cc y Ts nw R0 gD nL0) {dflt lo hi : Int} {offs : Array Int} {len : Nat} {x : Int} {tgt : Nat} (d : decode cc pc = .ok (.tableswitch dflt lo hi offs, len)) (h : x < lo ∨ hi < x) (ht : (pc : Int) + dflt = (tgt : Int)) (k : gl_G X b0 ce sl K tgt lv st σ) : gl_G X b0 ce sl K pc lv (.inl x :: st) σ := by
  obtain ⟨p, l, e, R, s, m, args, below, meth, c, nL, D, cl, cI, cZ, A, Q, K0, ad0⟩ := X
  obtain ⟨⟨hx, hb, hml, hown, hts⟩, hK, hA, hlk, hcl, hnw, hR, hnm, hgD, hnL⟩ := C
  intro ad H locs ls hKK h0 hP hD hS hL hc hst
  have hx1 : ga_r x := ga_h hst
  exact lv_tableOut hx hb d (by rw [ga_of hx1]; exact h) ht (k ad H locs ls hKK h0 hP hD hS hL hc (ga_t hst))
theorem gl_tabIn (C : ga_C X cc y Ts nw R0 gD nL0) {dflt lo hi : Int} {offs : Array Int} {len : Nat} {x off : Int} {tgt : Nat} (d : decode cc pc = .ok (.tableswitch dflt lo hi offs, len)) (h1 : ¬ x < lo) (h2 : ¬ hi < x) (ho : offs[(x - lo).toNat]? = some off) (ht : (pc : Int) + off = (tgt : Int)) (k : gl_G X b0 ce sl K tgt lv st σ) : gl_G X b0 ce sl K pc lv (.inl x :: st) σ := by
  obtain ⟨p, l, e, R, s, m, args, below, meth, c, nL, D, cl, cI, cZ, A, Q, K0, ad0⟩ := X
  obtain ⟨⟨hx, hb, hml, hown, hts⟩, hK, hA, hlk, hcl, hnw, hR, hnm, hgD, hnL⟩ := C
  intro ad H locs ls hKK h0 hP hD hS hL hc hst
  have hx1 : ga_r x := ga_h hst
  exact lv_tableIn hx hb d (by rw [ga_of hx1]; exact h1) (by rw [ga_of hx1]; exact h2) (by rw [ga_of hx1]; exact ho) ht (k ad H locs ls hKK h0 hP hD hS hL hc (ga_t hst))
theorem gl_istore_n (C : ga_C X cc y Ts nw R0 gD nL0) {q : Fin 4} {i : Nat} {x : Int} (d : decode cc pc = .ok (.istore_n q, 1)) (hq : (q : Nat) = i) (hn : i < nL0) (hi0 : i ≠ 0) (k : gl_G X b0 ce sl K (pc + 1) (va_up lv i (some (.inl x))) st σ) : gl_G X b0 ce sl K pc lv (.inl x :: st) σ := by
  obtain ⟨p, l, e, R, s, m, args, below, meth, c, nL, D, cl, cI, cZ, A, Q, K0, ad0⟩ := X
  obtain ⟨⟨hx, hb, hml, hown, hts⟩, hK, hA, hlk, hcl, hnw, hR, hnm, hgD, hnL⟩ := C
  intro ad H locs ls hKK h0 hP hD hS hL hc hst
  subst hnL
  exact lv_istore_n hx hb d hq hL.1 hn rfl (fun ls' h' => k ad H locs ls' hKK h0 hP hD hS (gl_L.put hL.2 hn hi0 (ga_h hst) h') hc (ga_t hst))
theorem gl_astore_n (C : ga_C X cc y Ts nw R0 gD nL0) {q : Fin 4} {i : Nat} {x : Nat} (d : decode cc pc = .ok (.astore_n q, 1)) (hq : (q : Nat) = i) (hn : i < nL0) (hi0 : i ≠ 0) (h1 : x ≠ 0) (k : gl_G X b0 ce sl K (pc + 1) (va_up lv i (some (.inr x))) st σ) : gl_G X b0 ce sl K pc lv (.inr x :: st) σ := by
  obtain ⟨p, l, e, R, s, m, args, below, meth, c, nL, D, cl, cI, cZ, A, Q, K0, ad0⟩ := X
  obtain ⟨⟨hx, hb, hml, hown, hts⟩, hK, hA, hlk, hcl, hnw, hR, hnm, hgD, hnL⟩ := C
  intro ad H locs ls hKK h0 hP hD hS hL hc hst
  subst hnL
  obtain ⟨x, rfl⟩ := Nat.exists_eq_succ_of_ne_zero h1
  exact lv_astore_n hx hb d hq hL.1 hn rfl (fun ls' h' => k ad H locs ls' hKK h0 hP hD hS (gl_L.put (v := .inr (x + 1)) hL.2 hn hi0 (ga_h hst) h') hc (ga_t hst))
theorem gl_iinc (C : ga_C X cc y Ts nw R0 gD nL0) {i : Nat} {x n : Int} (d : decode cc pc = .ok (.iinc i n, 3)) (hl : lv i = some (.inl x)) (hi0 : i ≠ 0) (hr : ga_r (x + n)) (k : gl_G X b0 ce sl K (pc + 3) (va_up lv i (some (.inl (x + n)))) st σ) : gl_G X b0 ce sl K pc lv (st) σ := by
  obtain ⟨p, l, e, R, s, m, args, below, meth, c, nL, D, cl, cI, cZ, A, Q, K0, ad0⟩ := X
  obtain ⟨⟨hx, hb, hml, hown, hts⟩, hK, hA, hlk, hcl, hnw, hR, hnm, hgD, hnL⟩ := C
  intro ad H locs ls hKK h0 hP hD hS hL hc hst
  have hin := (hL.2 _ _ hl).1
  obtain ⟨q, hq⟩ := ga_mem_ll (ad := ad) hin hl
  exact lv_iinc (k := q + 1) (v := Int32.ofInt (x + n)) hx hb d hL.1 hq (Int32.ofInt_add x n).symm hin rfl (fun ls' h' => k ad H locs ls' hKK h0 hP hD hS (gl_L.put (v := .inl (x + n)) hL.2 hin hi0 hr h') hc hst)
theorem gl_and {x : Int} (hx : ga_r x) : Int32.ofInt x &&& Int32.ofInt 15 = Int32.ofInt (x % 16) := by
  apply Int32.toBitVec_inj.mp
  rw [Int32.toBitVec_and]
  apply BitVec.eq_of_toNat_eq
  rw [BitVec.toNat_and]
  show (BitVec.ofInt 32 x).toNat &&& (BitVec.ofInt 32 15).toNat = (BitVec.ofInt 32 (x % 16)).toNat
  rw [BitVec.toNat_ofInt, BitVec.toNat_ofInt, BitVec.toNat_ofInt]
  rw [show ((15 : Int) % ((2 ^ 32 : Nat) : Int)).toNat = 2 ^ 4 - 1 by decide, Nat.and_two_pow_sub_one_eq_mod]
  unfold ga_r at hx
  omega
theorem gl_iand (C : ga_C X cc y Ts nw R0 gD nL0) {x : Int} (d : decode cc pc = .ok (.iand, 1)) (k : gl_G X b0 ce sl K (pc + 1) lv (.inl (x % 16) :: st) σ) : gl_G X b0 ce sl K pc lv (.inl 15 :: .inl x :: st) σ := by
  obtain ⟨p, l, e, R, s, m, args, below, meth, c, nL, D, cl, cI, cZ, A, Q, K0, ad0⟩ := X
  obtain ⟨⟨hx, hb, hml, hown, hts⟩, hK, hA, hlk, hcl, hnw, hR, hnm, hgD, hnL⟩ := C
  intro ad H locs ls hKK h0 hP hD hS hL hc hst
  have hx1 : ga_r x := ga_h (ga_t hst)
  have h := k ad H locs ls hKK h0 hP hD hS hL hc (ga_1 (ga_t (ga_t hst)) (show ga_r (x % 16) from ⟨by omega, by omega⟩))
  refine lv_iand hx hb d ?_
  rw [gl_and hx1]
  exact h
theorem gl_i32 (x : Int32) : ga_r x.toInt ∧ Int32.ofInt x.toInt = x := ⟨⟨Int32.le_toInt x, Int32.toInt_lt x⟩, Int32.ofInt_toInt x⟩
/-- aload_0; arraylength -/
theorem gl_len (C : ga_C X cc y Ts nw R0 gD nL0) {L : Nat} {xs : Nat → Int32} (hX : gl_X X b0 L xs) (hL4 : L ≤ 4000) {q : Fin 4} (d : decode cc pc = .ok (.aload_n q, 1)) (hq : (q : Nat) = 0) (d2 : decode cc (pc + 1) = .ok (.arraylength, 1)) (k : gl_G X b0 ce sl K (pc + 2) lv (.inl (L : Int) :: st) σ) : gl_G X b0 ce sl K pc lv st σ := by
  obtain ⟨p, l, e, R, s, m, args, below, meth, c, nL, D, cl, cI, cZ, A, Q, K0, ad0⟩ := X
  obtain ⟨⟨hx, hb, hml, hown, hts⟩, hK, hA, hlk, hcl, hnw, hR, hnm, hgD, hnL⟩ := C
  intro ad H locs ls hKK h0 hP hD hS hL hc hst
  obtain ⟨hX1, hX2, hX3⟩ := hX
  refine lv_aload_n hx hb d hq (hL.1.2.2 (0, .ref b0) List.mem_cons_self) ?_
  refine va_slen hx hb hX1 hX2 hX3 hS d2 ?_
  exact k ad H locs ls hKK h0 hP hD hS hL hc (ga_1 hst (show ga_r (L : Int) from ⟨by omega, by omega⟩))
/-- aload_0; iload_3; iaload -/
theorem gl_rd0 (C : ga_C X cc y Ts nw R0 gD nL0) {L : Nat} {xs : Nat → Int32} (hX : gl_X X b0 L xs) {q q3 : Fin 4} {i : Nat} (d : decode cc pc = .ok (.aload_n q, 1)) (hq : (q : Nat) = 0) (d2 : decode cc (pc + 1) = .ok (.iload_n q3, 1)) (hq3 : (q3 : Nat) = 3) (hl : lv 3 = some (.inl (i : Int))) (hi : i < L) (d3 : decode cc (pc + 1 + 1) = .ok (.iaload, 1)) (k : gl_G X b0 ce sl K (pc + 3) lv (.inl (xs i).toInt :: st) σ) : gl_G X b0 ce sl K pc lv st σ := by
  obtain ⟨p, l, e, R, s, m, args, below, meth, c, nL, D, cl, cI, cZ, A, Q, K0, ad0⟩ := X
  obtain ⟨⟨hx, hb, hml, hown, hts⟩, hK, hA, hlk, hcl, hnw, hR, hnm, hgD, hnL⟩ := C
  intro ad H locs ls hKK h0 hP hD hS hL hc hst
  obtain ⟨hX1, hX2, hX3⟩ := hX
  obtain ⟨r1, r2⟩ := gl_i32 (xs i)
  have hri : ga_r (i : Int) := (hL.2 _ _ hl).2
  refine lv_aload_n hx hb d hq (hL.1.2.2 (0, .ref b0) List.mem_cons_self) ?_
  refine lv_iload_n hx hb d2 hq3 (hL.at hl) ?_
  refine va_sld hx hb hX1 hX2 hX3 hS (ga_in hri (by omega) (by omega)) d3 ?_
  have h := k ad H locs ls hKK h0 hP hD hS hL hc (ga_1 hst r1)
  rw [ga_cl hri, Int.toNat_natCast]
  rw [← r2]
  exact h
/-- aload_0; iload_3; iconst j; iadd; iaload -/
theorem gl_rdk (C : ga_C X cc y Ts nw R0 gD nL0) {L : Nat} {xs : Nat → Int32} (hX : gl_X X b0 L xs) {q q3 : Fin 4} {i j : Nat} {n : Int} (d : decode cc pc = .ok (.aload_n q, 1)) (hq : (q : Nat) = 0) (d2 : decode cc (pc + 1) = .ok (.iload_n q3, 1)) (hq3 : (q3 : Nat) = 3) (hl : lv 3 = some (.inl (i : Int))) (hij : i + j < L) (hL4 : L ≤ 4000) (d3 : decode cc (pc + 1 + 1) = .ok (.iconst n, 1)) (hn : n = (j : Int)) (d4 : decode cc (pc + 1 + 1 + 1) = .ok (.iadd, 1)) (d5 : decode cc (pc + 1 + 1 + 1 + 1) = .ok (.iaload, 1)) (k : gl_G X b0 ce sl K (pc + 5) lv (.inl (xs (i + j)).toInt :: st) σ) : gl_G X b0 ce sl K pc lv st σ := by
  obtain ⟨p, l, e, R, s, m, args, below, meth, c, nL, D, cl, cI, cZ, A, Q, K0, ad0⟩ := X
  obtain ⟨⟨hx, hb, hml, hown, hts⟩, hK, hA, hlk, hcl, hnw, hR, hnm, hgD, hnL⟩ := C
  intro ad H locs ls hKK h0 hP hD hS hL hc hst
  obtain ⟨hX1, hX2, hX3⟩ := hX
  obtain ⟨r1, r2⟩ := gl_i32 (xs (i + j))
  subst hn
  have hri : ga_r ((i : Int) + (j : Int)) := ⟨by omega, by omega⟩
  refine lv_aload_n hx hb d hq (hL.1.2.2 (0, .ref b0) List.mem_cons_self) ?_
  refine lv_iload_n hx hb d2 hq3 (hL.at hl) ?_
  refine lv_iconst hx hb d3 rfl ?_
  refine lv_iadd hx hb d4 ?_
  rw [← Int32.ofInt_add]
  refine va_sld hx hb hX1 hX2 hX3 hS (ga_in hri (by omega) (by omega)) d5 ?_
  have h := k ad H locs ls hKK h0 hP hD hS hL hc (ga_1 hst r1)
  rw [ga_cl hri, show ((i : Int) + (j : Int)).toNat = i + j by omega]
  rw [← r2]
  exact h
theorem gl_push {p : Program} {l : Launch} {e : Env} {R : Room} {s : State} {m : MethodId} {args : Array Value} {below : List Frame} {meth : Method} {c : Code} {nL : Nat} {D : va_G} {cl : List vw_C} {cI cZ : ClassId} {A : Nat → Prop} {Q : State → Prop} {K0 : Nat} {ad0 : Nat → Nat} {ce' sl' pc' : Nat} {x : ga_E} (hx : ga_cE (K + 1) x)
    (k : gl_G (p, l, e, R, s, m, args, below, meth, c, nL, D, cl, cI, cZ, A, Q, K0, ad0) b0 ce' sl' (K + 1) pc' lv (.inr (K + 1) :: st) (va_up σ (K + 1) x)) {ad : Nat → Nat} {H1 : Heap} {locs : List Loc} {ls : Array Slot} (hKK : K0 ≤ K) (h0 : ∀ k, k ≤ K0 → ad k = ad0 k) (hL : gl_L b0 ad K ls nL lv) (hc : ga_cS K σ) (hst : ∀ v ∈ st, ga_cV K v) {q : Nat} {e0 : va_E} (he : ga_e (va_up ad (K + 1) q) cI cZ x = e0) (hP : va_P D cl (ga_w ad cI cZ K σ ++ [(q, e0)]) H1) (hD : va_D A (ga_w ad cI cZ K σ ++ [(q, e0)])) (hS : va_S A s.heap H1 locs) :
    W p l e R s m args below meth c H1 locs ce' sl' Q (F0 m pc' ls (.ref q :: st.map (ga_v ad))) := by
  have hsame : ∀ j, j ≤ K → va_up ad (K + 1) q j = ad j := fun j hj => by unfold va_up; rw [if_neg (by omega)]
  have ew : ga_w (va_up ad (K + 1) q) cI cZ (K + 1) (va_up σ (K + 1) x) = ga_w ad cI cZ K σ ++ [(q, e0)] := by
    rw [ga_w_push]
    have e1 : ga_w (va_up ad (K + 1) q) cI cZ K (va_up σ (K + 1) x) = ga_w ad cI cZ K σ := by
      unfold ga_w
      refine List.map_congr_left (fun i hi => ?_)
      have hi' := List.mem_range.mp hi
      rw [hsame (i + 1) (by omega)]
      have : va_up σ (K + 1) x (i + 1) = σ (i + 1) := by unfold va_up; rw [if_neg (by omega)]
      rw [this, ga_e_same hsame (hc.1 (i + 1))]
    rw [e1]
    have e2 : va_up σ (K + 1) x (K + 1) = x := by unfold va_up; rw [if_pos rfl]
    have e3 : va_up ad (K + 1) q (K + 1) = q := by unfold va_up; rw [if_pos rfl]
    rw [e2, e3, he]
  have h := k (va_up ad (K + 1) q) H1 locs ls (by omega) (fun j hj => by rw [hsame j (by omega)]; exact h0 j hj) (by rw [ew]; exact hP) (by rw [ew]; exact hD) hS ⟨by rw [ga_ll_same hsame (fun i v hv => (hL.2 i v hv).2)]; exact hL.1, fun i v hv => ⟨(hL.2 i v hv).1, (hL.2 i v hv).2.up (Nat.le_succ K)⟩⟩ (hc.push hx) (List.forall_mem_cons.mpr ⟨Nat.le_refl _, fun v hv => (hst v hv).up (Nat.le_succ K)⟩)
  have e4 : ((Sum.inr (K + 1) : ga_V) :: st).map (ga_v (va_up ad (K + 1) q)) = .ref q :: st.map (ga_v ad) := by
    rw [List.map_cons, ga_st_same hsame hst]
    show Value.ref (va_up ad (K + 1) q (K + 1)) :: _ = _
    unfold va_up; rw [if_pos rfl]
  rw [e4] at h
  exact h
theorem gl_new (C : ga_C X cc y Ts nw R0 gD nL0) {Cn : String} {T : u_T} {N ci index : Nat} {fs : List ga_V} (hin : ∀ w ∈ u_ws Cn T N, w ∈ Ts) (ty : Nat → FieldType) (hty : ∀ k, k < N → parseFieldDescriptor (T k).2.2.1 = some (ty k)) (hcl : Cond.classLink y.cls index Cn ∈ Ts) (hinst : Cond.instantiable Cn N ∈ Ts) (hini : Cond.initialized Cn ∈ Ts) (hci : gD.2.1[ci]? = some (Cn, T, N)) (hz : ∀ v ∈ fs, v = .inl 0 ∨ v = .inr 0) (hfs : ∀ j, j < N → defaultValue (ty j) = vp_V (fs.map (ga_v (fun _ => 0))) j) (hf : ce + 1 ≤ R0.cells ∧ sl + N ≤ R0.slots) (d : decode cc pc = .ok (.new index, 3))
    (k : ∀ σ', σ' (K + 1) = .inr (ci, fs) → (∀ j, j ≠ K + 1 → σ' j = σ j) → gl_G X b0 (ce + 1) (sl + N) (K + 1) (pc + 3) lv (.inr (K + 1) :: st) σ') : gl_G X b0 ce sl K pc lv st σ := by
  obtain ⟨p, l, e, R, s, m, args, below, meth, c, nL, D, cl, cI, cZ, A, Q, K0, ad0⟩ := X
  obtain ⟨⟨hx, hb, hml, hown, hts⟩, hK, hA, hlk, hcln, hnw, hR, hnm, hgD, hnL⟩ := C
  subst hgD
  subst hR
  intro ad H locs ls hKK h0 hP hD hS hL hc hst
  have hv : ∀ a : Nat → Nat, fs.map (ga_v a) = fs.map (ga_v (fun _ => 0)) := fun a => List.map_congr_left (fun v hv => by rcases hz v hv with e | e <;> rw [e] <;> rfl)
  have hcE : ga_cE (K + 1) (.inr (ci, fs)) := fun v hv => by
    rcases hz v hv with e | e <;> rw [e]
    · exact ga_r0
    · exact Nat.zero_le _
  refine va_new hx hb hts hin ty hty hown (hts _ hcl) (hts _ hinst) (hts _ hini) hK hP hD hS hA hci hfs hf.1 hf.2 d (fun q H1 hP1 hD1 hS1 => ?_)
  exact gl_push hcE (k _ (by unfold va_up; rw [if_pos rfl]) (fun j hj => by unfold va_up; rw [if_neg hj])) hKK h0 hL hc hst (by show Sum.inr (ci, fs.map _) = _; rw [hv]) hP1 hD1 hS1
end GL
section GLC
variable {p : Program} {l : Launch} {e : Env} {R : Room} {s : State} {m : MethodId} {args : Array Value} {below : List Frame} {meth : Method} {c : Code} {nL : Nat} {D : va_G} {cl : List vw_C} {cI cZ : ClassId} {A : Nat → Prop} {Q : State → Prop} {K0 : Nat} {ad0 : Nat → Nat} {b0 : Nat}
theorem gl_after {ce sl K mc ms pc : Nat} {lv : Nat → Option ga_V} {st : List ga_V} {σ : ga_S} {Post : ga_S → Option ga_V → Prop} {a : Array Value} {st0 : List Value} {ad : Nat → Nat} {H : Heap} {locs : List Loc} {ls : Array Slot}
    (hA : ∀ q, s.heap.size ≤ q → A q) (hKK : K0 ≤ K) (h0 : ∀ k, k ≤ K0 → ad k = ad0 k) (hD : va_D A (ga_w ad cI cZ K σ)) (hS : va_S A s.heap H locs) (hL : gl_L b0 ad K ls nL lv) (hst : ∀ v ∈ st, ga_cV K v)
    (hr : va_Run p l e R s m args below meth c H locs ce sl mc ms (F0 m pc ls st0) (st.map (ga_v ad)) (ga_Q (D, cl, cI, cZ) K mc ad σ H.size Post a) (va_A (ga_w ad cI cZ K σ) H.size))
    (k : ∀ σ' r, Post σ' r → gl_G (p, l, e, R, s, m, args, below, meth, c, nL, D, cl, cI, cZ, A, Q, K0, ad0) b0 (ce + mc) (sl + ms) (K + mc) (pc + 3) lv (r.toList ++ st) σ') : W p l e R s m args below meth c H locs ce sl Q (F0 m pc ls st0) := by
  intro T hT X
  obtain ⟨v, st₀, t, T', L, hh, X', hL2, e1, e2, ⟨⟨ad', σ', r, hv, hcr, hPost, hsame, hP', hD', hc'⟩, hz, hk⟩, stp⟩ := hr T hT X
  cases hv
  rw [hh] at hz hk
  have hfree : ∀ q, va_A (ga_w ad cI cZ K σ) H.size q → A q := by
    intro q hq
    rcases hq with ⟨i, x, hi⟩ | hq
    · exact hD.2 i _ hi
    · exact hA q (Nat.le_trans hS.1 hq)
  have hS2 : va_S A s.heap T'.heap (locs ++ L) := by
    refine ⟨Nat.le_trans hS.1 (by rw [e1]; exact hz), fun q h1 h2 => ?_, fun q hq => ?_⟩
    · rw [e1, hk q (Nat.lt_of_lt_of_le h1 hS.1) (fun z => h2 (hfree q z))]
      exact hS.2.1 q h1 h2
    · rcases List.mem_append.mp hq with h | h
      · exact hS.2.2 q h
      · exact hfree _ (hL2 q h)
  have hLn : gl_L b0 ad' (K + mc) ls nL lv := ⟨by rw [ga_ll_same hsame (fun i v h => (hL.2 i v h).2)]; exact hL.1, fun i v h => ⟨(hL.2 i v h).1, (hL.2 i v h).2.up (Nat.le_add_right _ _)⟩⟩
  have hstn : ∀ v ∈ r.toList ++ st, ga_cV (K + mc) v := by
    intro v hv
    rcases List.mem_append.mp hv with h | h
    · exact hcr v (Option.mem_toList.mp h)
    · exact (hst v h).up (Nat.le_add_right _ _)
  have hG := k σ' r hPost ad' T'.heap (locs ++ L) ls (by omega) (fun q hq => (hsame q (Nat.le_trans hq hKK)).trans (h0 q hq)) (by rw [e1]; exact hP') (hD'.weaken (fun _ q _ h => hfree q.1 h)) hS2 hLn hc' hstn
  obtain ⟨t2, a1, b1⟩ := hG T' rfl X'
  refine ⟨t2, stp t2 ?_, b1⟩
  have he : (r.toList ++ st).map (ga_v ad') = (r.map (ga_v ad')).toList ++ st.map (ga_v ad) := by
    rw [List.map_append, ga_st_same hsame hst]
    cases r <;> rfl
  rw [he] at a1
  exact a1
end GLC
section GLD
variable {X : ga_X} {b0 : Nat} {cc : ByteArray} {y : MethodName} {Ts : List Cond} {nw : ga_N} {R0 : Room} {gD : va_G × List vw_C × ClassId × ClassId} {nL0 : Nat}
variable {ce sl K pc : Nat} {lv : Nat → Option ga_V} {st stk : List ga_V} {σ : ga_S}
variable {y' : MethodName} {ws' ws'' : List Cond} {bytes : ByteArray} {maxL : Nat} {ret : Option FieldType} {rm' : Room} {nw' : ga_N} {mc ms b index ci : Nat} {As : List ga_V} {fs : List ga_V} {q : vw_C} {Post : ga_S → Option ga_V → Prop}
theorem gl_callV (C : ga_C X cc y Ts nw R0 gD nL0) (hE : ga_Ev X.2.1 gD y' ws' rm' nw' mc ms K (.inr b :: As) σ Post) (hG : GoodIn Ts (wsV y.cls index y'.cls y' ws')) (hw : ws' = Cond.code y' bytes maxL ret :: ws'') (hrc : rm'.cells = mc) (hrs : rm'.slots = ms) (hd : y'.cls ≠ "java/lang/invoke/MethodHandle" ∧ y'.cls ≠ "java/lang/invoke/VarHandle" ∧ (parseMethodDescriptor y'.desc).map (fun d => d.parameters.length) = some As.length) (hR : rm'.frames + 1 ≤ R0.frames ∧ 8 + (maxL + 11) + rm'.locals ≤ R0.locals) (hf : ce + mc ≤ R0.cells ∧ sl + ms ≤ R0.slots) (hnws : ∀ q ∈ nw', q ∈ nw) (hσ : σ b = .inr (ci, fs)) (hci : gD.2.1[ci]? = some q) (hq : q.1 = y'.cls) (h8 : st.length ≤ 8) (hstk : stk = As.reverse ++ .inr b :: st) (d : decode cc pc = .ok (.invokevirtual index, 3)) (k : ∀ σ' r, Post σ' r → gl_G X b0 (ce + mc) (sl + ms) (K + mc) (pc + 3) lv (r.toList ++ st) σ') : gl_G X b0 ce sl K pc lv stk σ := by
  obtain ⟨p, l, e, R, s, m, args, below, meth, c, nL, D, cl, cI, cZ, A, Q, K0, ad0⟩ := X
  obtain ⟨⟨hx, hb, hml, hown, hts⟩, hK, hA, hlk, hcl, hnw, hRR, hnm, hgD, hnL⟩ := C
  subst hgD
  subst hRR
  subst hstk
  intro ad H locs ls hKK h0 hP hD hS hL hc hst
  obtain ⟨b, rfl, hbK⟩ := ga_at hc (by rw [hσ]; exact ga_obj hcl hci)
  have hw2 := ga_w_get ad cI cZ σ hbK
  rw [hσ] at hw2
  have hst1 : ∀ v ∈ As, ga_cV K v := fun v hv => hst v (List.mem_append_left _ (List.mem_reverse.mpr hv))
  have hst2 : ∀ v ∈ st, ga_cV K v := fun v hv => hst v (List.mem_append_right _ (List.mem_cons_of_mem _ hv))
  refine gl_after hA hKK h0 hD hS hL hst2 (va_runV (C := y'.cls) (b := ad (b + 1)) (As := As.map (ga_v ad)) (rest := st.map (ga_v ad)) (n := As.length) ⟨hx, hb, hml, hown, hts⟩ (hE ad H.size) (cwV As.length hts hG hw hrc hrs ⟨rfl, hd⟩ hR) ⟨ga_P_blind, by have := va_recv hK hP hci hw2; rw [hq] at this; exact this, fun U hU hW => ⟨rfl, by rw [hU], by rw [hU]; exact hP, va_K.moved hW.alike hK, hD.weaken (fun _ _ _ _ => trivial), hc, List.forall_mem_cons.mpr ⟨hbK, hst1⟩, ga_nws.warm hW hnw hnws⟩⟩ rfl (List.length_map ..) hL.1.1 ?_ (lv_room (by rw [ga_cats]; exact h8)) d hf) k
  show (As.reverse ++ Sum.inr (b + 1) :: st).map (ga_v ad) = _
  rw [List.map_append, List.map_reverse]
  rfl
theorem gl_callI (C : ga_C X cc y Ts nw R0 gD nL0) (hE : ga_Ev X.2.1 gD y' ws' rm' nw' mc ms K (.inr b :: As) σ Post) (hG : GoodIn Ts ws') (hini : Cond.initialized y'.cls ∈ Ts) (hl : Cond.methodLink y.cls index y' ∈ Ts) (hin : Cond.instanceMethod y' ∈ Ts) (hy1 : y'.name = "<init>") (hw : ws' = Cond.code y' bytes maxL none :: ws'') (hrc : rm'.cells = mc) (hrs : rm'.slots = ms) (hd : y'.cls ≠ "java/lang/invoke/MethodHandle" ∧ y'.cls ≠ "java/lang/invoke/VarHandle" ∧ (parseMethodDescriptor y'.desc).map (fun d => d.parameters.length) = some As.length) (hR : rm'.frames + 1 ≤ R0.frames ∧ 8 + (maxL + 11) + rm'.locals ≤ R0.locals) (hf : ce + mc ≤ R0.cells ∧ sl + ms ≤ R0.slots) (hnws : ∀ q ∈ nw', q ∈ nw) (hb0 : b ≠ 0) (h8 : st.length ≤ 8) (hstk : stk = As.reverse ++ .inr b :: st) (d : decode cc pc = .ok (.invokespecial index, 3)) (k : ∀ σ' r, Post σ' r → gl_G X b0 (ce + mc) (sl + ms) (K + mc) (pc + 3) lv (r.toList ++ st) σ') : gl_G X b0 ce sl K pc lv stk σ := by
  obtain ⟨p, l, e, R, s, m, args, below, meth, c, nL, D, cl, cI, cZ, A, Q, K0, ad0⟩ := X
  obtain ⟨⟨hx, hb, hml, hown, hts⟩, hK, hA, hlk, hcl, hnw, hRR, hnm, hgD, hnL⟩ := C
  subst hgD
  subst hRR
  subst hstk
  intro ad H locs ls hKK h0 hP hD hS hL hc hst
  obtain ⟨b, rfl⟩ : ∃ b', b = b' + 1 := ⟨b - 1, by omega⟩
  have hst1 : ∀ v ∈ As, ga_cV K v := fun v hv => hst v (List.mem_append_left _ (List.mem_reverse.mpr hv))
  have hst2 : ∀ v ∈ st, ga_cV K v := fun v hv => hst v (List.mem_append_right _ (List.mem_cons_of_mem _ hv))
  have hbK : ga_cV K (.inr (b + 1)) := hst _ (List.mem_append_right _ List.mem_cons_self)
  refine gl_after hA hKK h0 hD hS hL hst2 (va_runI (b := ad (b + 1)) (As := As.map (ga_v ad)) (rest := st.map (ga_v ad)) (n := As.length) ⟨hx, hb, hml, hown, hts⟩ (hE ad H.size) (cwI As.length hts hG hw hrc hrs (hts _ hini) (hts _ hl) (hts _ hin) hy1 hd hR) ⟨ga_P_blind, fun U hU hW => ⟨rfl, by rw [hU], by rw [hU]; exact hP, va_K.moved hW.alike hK, hD.weaken (fun _ _ _ _ => trivial), hc, List.forall_mem_cons.mpr ⟨hbK, hst1⟩, ga_nws.warm hW hnw hnws⟩⟩ rfl (List.length_map ..) hL.1.1 ?_ (lv_room (by rw [ga_cats]; exact h8)) d hf) k
  show (As.reverse ++ Sum.inr (b + 1) :: st).map (ga_v ad) = _
  rw [List.map_append, List.map_reverse]
  rfl
end GLD
