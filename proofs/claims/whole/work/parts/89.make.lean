/-! Making objects and arrays; constructors. -/
section MK
variable {X : ga_X} {cc : ByteArray} {y : MethodName} {Ts : List Cond} {nw : ga_N} {R0 : Room} {gD : va_G × List vw_C × ClassId × ClassId} {nL0 : Nat}
variable {ce sl K pc : Nat} {lv : Nat → Option ga_V} {st stk : List ga_V} {σ : ga_S}
theorem ga_cS.push {K : Nat} {σ : ga_S} {x : ga_E} (h : ga_cS K σ) (hx : ga_cE (K + 1) x) : ga_cS (K + 1) (va_up σ (K + 1) x) := by
  refine ⟨fun k => ?_, fun k hk => ?_⟩
  · unfold va_up
    split
    · exact hx
    · exact (h.1 k).up (Nat.le_succ K)
  · unfold va_up
    rw [if_neg (by omega)]
    exact h.2 k (by omega)
theorem ga_push {p : Program} {l : Launch} {e : Env} {R : Room} {s : State} {m : MethodId} {args : Array Value} {below : List Frame} {meth : Method} {c : Code} {nL : Nat} {D : va_G} {cl : List vw_C} {cI cZ : ClassId} {A : Nat → Prop} {Q : State → Prop} {K0 : Nat} {ad0 : Nat → Nat} {ce' sl' pc' : Nat} {x : ga_E} (hx : ga_cE (K + 1) x)
    (k : ga_G (p, l, e, R, s, m, args, below, meth, c, nL, D, cl, cI, cZ, A, Q, K0, ad0) ce' sl' (K + 1) pc' lv (.inr (K + 1) :: st) (va_up σ (K + 1) x)) {ad : Nat → Nat} {H1 : Heap} {locs : List Loc} {ls : Array Slot} (hKK : K0 ≤ K) (h0 : ∀ k, k ≤ K0 → ad k = ad0 k) (hL : ga_L ad K ls nL lv) (hc : ga_cS K σ) (hst : ∀ v ∈ st, ga_cV K v) {q : Nat} {e0 : va_E} (he : ga_e (va_up ad (K + 1) q) cI cZ x = e0) (hP : va_P D cl (ga_w ad cI cZ K σ ++ [(q, e0)]) H1) (hD : va_D A (ga_w ad cI cZ K σ ++ [(q, e0)])) (hS : va_S A s.heap H1 locs) :
    W p l e R s m args below meth c H1 locs ce' sl' Q (F0 m pc' ls (.ref q :: st.map (ga_v ad))) := by
  have hsame : ∀ j, j ≤ K → va_up ad (K + 1) q j = ad j := fun j hj => by unfold va_up; rw [if_neg (by omega)]
  have ew : ga_w (va_up ad (K + 1) q) cI cZ (K + 1) (va_up σ (K + 1) x) = ga_w ad cI cZ K σ ++ [(q, e0)] := by
    rw [ga_w_push]
    have e1 : ga_w (va_up ad (K + 1) q) cI cZ K (va_up σ (K + 1) x) = ga_w ad cI cZ K σ := by
      unfold ga_w
      refine List.map_congr_left (fun i hi => ?_)
      have hi' := List.mem_range.mp hi
      rw [hsame (i + 1) (by omega)]
      have : va_up σ (K + 1) x (i + 1) = σ (i + 1) := by unfold va_up; rw [if_neg (by omega)]
      rw [this, ga_e_same hsame (hc.1 (i + 1))]
    rw [e1]
    have e2 : va_up σ (K + 1) x (K + 1) = x := by unfold va_up; rw [if_pos rfl]
    have e3 : va_up ad (K + 1) q (K + 1) = q := by unfold va_up; rw [if_pos rfl]
    rw [e2, e3, he]
  have h := k (va_up ad (K + 1) q) H1 locs ls (by omega) (fun j hj => by rw [hsame j (by omega)]; exact h0 j hj) (by rw [ew]; exact hP) (by rw [ew]; exact hD) hS ⟨by rw [ga_ll_same hsame (fun i v hv => (hL.2 i v hv).2)]; exact hL.1, fun i v hv => ⟨(hL.2 i v hv).1, (hL.2 i v hv).2.up (Nat.le_succ K)⟩⟩ (hc.push hx) (List.forall_mem_cons.mpr ⟨Nat.le_refl _, fun v hv => (hst v hv).up (Nat.le_succ K)⟩)
  have e4 : ((Sum.inr (K + 1) : ga_V) :: st).map (ga_v (va_up ad (K + 1) q)) = .ref q :: st.map (ga_v ad) := by
    rw [List.map_cons, ga_st_same hsame hst]
    show Value.ref (va_up ad (K + 1) q (K + 1)) :: _ = _
    unfold va_up; rw [if_pos rfl]
  rw [e4] at h
  exact h
theorem ga_new (C : ga_C X cc y Ts nw R0 gD nL0) {Cn : String} {T : u_T} {N ci index : Nat} {fs : List ga_V} (hin : ∀ w ∈ u_ws Cn T N, w ∈ Ts) (ty : Nat → FieldType) (hty : ∀ k, k < N → parseFieldDescriptor (T k).2.2.1 = some (ty k)) (hcl : Cond.classLink y.cls index Cn ∈ Ts) (hinst : Cond.instantiable Cn N ∈ Ts) (hini : Cond.initialized Cn ∈ Ts) (hci : gD.2.1[ci]? = some (Cn, T, N)) (hz : ∀ v ∈ fs, v = .inl 0 ∨ v = .inr 0) (hfs : ∀ j, j < N → defaultValue (ty j) = vp_V (fs.map (ga_v (fun _ => 0))) j) (hf : ce + 1 ≤ R0.cells ∧ sl + N ≤ R0.slots) (d : decode cc pc = .ok (.new index, 3))
    (k : ∀ σ', σ' (K + 1) = .inr (ci, fs) → (∀ j, j ≠ K + 1 → σ' j = σ j) → ga_G X (ce + 1) (sl + N) (K + 1) (pc + 3) lv (.inr (K + 1) :: st) σ') : ga_G X ce sl K pc lv st σ := by
  obtain ⟨p, l, e, R, s, m, args, below, meth, c, nL, D, cl, cI, cZ, A, Q, K0, ad0⟩ := X
  obtain ⟨⟨hx, hb, hml, hown, hts⟩, hK, hA, hlk, hcln, hnw, hR, hnm, hgD, hnL⟩ := C
  subst hgD
  subst hR
  intro ad H locs ls hKK h0 hP hD hS hL hc hst
  have hv : ∀ a : Nat → Nat, fs.map (ga_v a) = fs.map (ga_v (fun _ => 0)) := fun a => List.map_congr_left (fun v hv => by rcases hz v hv with e | e <;> rw [e] <;> rfl)
  have hcE : ga_cE (K + 1) (.inr (ci, fs)) := fun v hv => by
    rcases hz v hv with e | e <;> rw [e]
    · exact ga_r0
    · exact Nat.zero_le _
  refine va_new hx hb hts hin ty hty hown (hts _ hcl) (hts _ hinst) (hts _ hini) hK hP hD hS hA hci hfs hf.1 hf.2 d (fun q H1 hP1 hD1 hS1 => ?_)
  exact ga_push hcE (k _ (by unfold va_up; rw [if_pos rfl]) (fun j hj => by unfold va_up; rw [if_neg hj])) hKK h0 hL hc hst (by show Sum.inr (ci, fs.map _) = _; rw [hv]) hP1 hD1 hS1
theorem ga_newi (C : ga_C X cc y Ts nw R0 gD nL0) {n : Nat} (harr : Cond.arrayClass .int ∈ Ts) (hn : n ≤ 1000) (hf : ce + 1 ≤ R0.cells ∧ sl + n ≤ R0.slots) (d : decode cc pc = .ok (.newarray .int, 2))
    (k : ∀ σ', σ' (K + 1) = .inl (false, n, fun _ => 0) → (∀ j, j ≠ K + 1 → σ' j = σ j) → ga_G X (ce + 1) (sl + n) (K + 1) (pc + 2) lv (.inr (K + 1) :: st) σ') : ga_G X ce sl K pc lv (.inl (n : Int) :: st) σ := by
  obtain ⟨p, l, e, R, s, m, args, below, meth, c, nL, D, cl, cI, cZ, A, Q, K0, ad0⟩ := X
  obtain ⟨⟨hx, hb, hml, hown, hts⟩, hK, hA, hlk, hcln, hnw, hR, hnm, hgD, hnL⟩ := C
  subst hgD
  subst hR
  intro ad H locs ls hKK h0 hP hD hS hL hc hst
  have hr : ga_r (n : Int) := ⟨by omega, by omega⟩
  refine va_newa (atype := .int) (ty := .int) hx hb (hts _ harr) rfl hK hP hD hS hA (n := Int32.ofInt (n : Int)) (N' := n) (a0 := (n, .inl (fun _ => Int32.ofInt 0))) (fun cA => rfl) ?_ ?_ ?_ hf.1 hf.2 d (fun q cA H1 hK1 hP1 hD1 hS1 => ?_)
  · rw [ga_z0, ga_lt hr ga_r0]; omega
  · rw [ga_cl hr]; exact Int.toNat_natCast n
  · show n * componentBytes FieldType.int ≤ 536870912
    have : componentBytes FieldType.int = 4 := by decide
    rw [this]; omega
  · have e1 := (hK1.2 0 (cI, .int) rfl).2
    have e2 := (hK1.2 2 (cA, .int) rfl).2
    have ec : cA = cI := Option.some.inj ((show s.vm.findClass _ = some cA from e2).symm.trans e1)
    subst ec
    exact ga_push (x := .inl (false, n, fun _ => 0)) (fun j _ => ga_r0) (k _ (by unfold va_up; rw [if_pos rfl]) (fun j hj => by unfold va_up; rw [if_neg hj])) hKK h0 hL hc (ga_t hst) rfl hP1 hD1 hS1
theorem ga_newz (C : ga_C X cc y Ts nw R0 gD nL0) {n : Nat} (harr : Cond.arrayClass .boolean ∈ Ts) (hn : n ≤ 1000) (hf : ce + 1 ≤ R0.cells ∧ sl + n ≤ R0.slots) (d : decode cc pc = .ok (.newarray .boolean, 2))
    (k : ∀ σ', σ' (K + 1) = .inl (true, n, fun _ => 0) → (∀ j, j ≠ K + 1 → σ' j = σ j) → ga_G X (ce + 1) (sl + n) (K + 1) (pc + 2) lv (.inr (K + 1) :: st) σ') : ga_G X ce sl K pc lv (.inl (n : Int) :: st) σ := by
  obtain ⟨p, l, e, R, s, m, args, below, meth, c, nL, D, cl, cI, cZ, A, Q, K0, ad0⟩ := X
  obtain ⟨⟨hx, hb, hml, hown, hts⟩, hK, hA, hlk, hcln, hnw, hR, hnm, hgD, hnL⟩ := C
  subst hgD
  subst hR
  intro ad H locs ls hKK h0 hP hD hS hL hc hst
  have hr : ga_r (n : Int) := ⟨by omega, by omega⟩
  refine va_newa (atype := .boolean) (ty := .boolean) hx hb (hts _ harr) rfl hK hP hD hS hA (n := Int32.ofInt (n : Int)) (N' := n) (a0 := (n, .inl (fun _ => Int32.ofInt 0))) (fun cA => rfl) ?_ ?_ ?_ hf.1 hf.2 d (fun q cA H1 hK1 hP1 hD1 hS1 => ?_)
  · rw [ga_z0, ga_lt hr ga_r0]; omega
  · rw [ga_cl hr]; exact Int.toNat_natCast n
  · show n * componentBytes FieldType.boolean ≤ 536870912
    have : componentBytes FieldType.boolean = 1 := by decide
    rw [this]; omega
  · have e1 := (hK1.2 1 (cZ, .boolean) rfl).2
    have e2 := (hK1.2 2 (cA, .boolean) rfl).2
    have ec : cA = cZ := Option.some.inj ((show s.vm.findClass _ = some cA from e2).symm.trans e1)
    subst ec
    exact ga_push (x := .inl (true, n, fun _ => 0)) (fun j _ => ga_r0) (k _ (by unfold va_up; rw [if_pos rfl]) (fun j hj => by unfold va_up; rw [if_neg hj])) hKK h0 hL hc (ga_t hst) rfl hP1 hD1 hS1
/-- Object's constructor -/
theorem ga_objI (C : ga_C X cc y Ts nw R0 gD nL0) {idx a : Nat} (h1 : Cond.methodLink y.cls idx Lib.objectInit ∈ Ts) (h2 : Cond.instanceMethod Lib.objectInit ∈ Ts) (h3 : Cond.code Lib.objectInit ⟨#[0xb1]⟩ 1 none ∈ Ts) (ha : a ≠ 0) (h8 : st.length ≤ 8) (hr : 1 ≤ R0.frames ∧ 20 ≤ R0.locals) (d : decode cc pc = .ok (.invokespecial idx, 3)) (k : ga_G X ce sl K (pc + 3) lv st σ) : ga_G X ce sl K pc lv (.inr a :: st) σ := by
  obtain ⟨p, l, e, R, s, m, args, below, meth, c, nL, D, cl, cI, cZ, A, Q, K0, ad0⟩ := X
  obtain ⟨⟨hx, hb, hml, hown, hts⟩, hK, hA, hlk, hcln, hnw, hR, hnm, hgD, hnL⟩ := C
  subst hR
  intro ad H locs ls hKK h0 hP hD hS hL hc hst
  obtain ⟨b, rfl⟩ : ∃ b, a = b + 1 := ⟨a - 1, by omega⟩
  have h := k ad H locs ls hKK h0 hP hD hS hL hc (ga_t hst)
  refine W.objInit hx hb hown (hts _ h1) (hts _ h2) (hts _ h3) (g := F0 m pc ls ((Sum.inr (b + 1) :: st).map (ga_v ad))) rfl (by rw [hml]; exact hL.1.1) (a := ad (b + 1)) (rest := st.map (ga_v ad)) rfl d hr.1 ?_ h
  exact Nat.le_trans (Nat.add_le_add_right (lv_room (by rw [ga_cats]; exact h8)) 12) hr.2
variable {y' : MethodName} {ws' ws'' : List Cond} {bytes : ByteArray} {maxL : Nat} {rm' : Room} {nw' : ga_N} {mc ms b index : Nat} {As : List ga_V} {Post : ga_S → Option ga_V → Prop}
theorem ga_callI (C : ga_C X cc y Ts nw R0 gD nL0) (hE : ga_Ev X.2.1 gD y' ws' rm' nw' mc ms K (.inr b :: As) σ Post) (hG : GoodIn Ts ws') (hini : Cond.initialized y'.cls ∈ Ts) (hl : Cond.methodLink y.cls index y' ∈ Ts) (hin : Cond.instanceMethod y' ∈ Ts) (hy1 : y'.name = "<init>") (hw : ws' = Cond.code y' bytes maxL none :: ws'') (hrc : rm'.cells = mc) (hrs : rm'.slots = ms) (hd : y'.cls ≠ "java/lang/invoke/MethodHandle" ∧ y'.cls ≠ "java/lang/invoke/VarHandle" ∧ (parseMethodDescriptor y'.desc).map (fun d => d.parameters.length) = some As.length) (hR : rm'.frames + 1 ≤ R0.frames ∧ 8 + (maxL + 11) + rm'.locals ≤ R0.locals) (hf : ce + mc ≤ R0.cells ∧ sl + ms ≤ R0.slots) (hnws : ∀ q ∈ nw', q ∈ nw) (hb0 : b ≠ 0) (h8 : st.length ≤ 8) (hstk : stk = As.reverse ++ .inr b :: st) (d : decode cc pc = .ok (.invokespecial index, 3)) (k : ∀ σ' r, Post σ' r → ga_G X (ce + mc) (sl + ms) (K + mc) (pc + 3) lv (r.toList ++ st) σ') : ga_G X ce sl K pc lv stk σ := by
  obtain ⟨p, l, e, R, s, m, args, below, meth, c, nL, D, cl, cI, cZ, A, Q, K0, ad0⟩ := X
  obtain ⟨⟨hx, hb, hml, hown, hts⟩, hK, hA, hlk, hcl, hnw, hRR, hnm, hgD, hnL⟩ := C
  subst hgD
  subst hRR
  subst hstk
  intro ad H locs ls hKK h0 hP hD hS hL hc hst
  obtain ⟨b, rfl⟩ : ∃ b', b = b' + 1 := ⟨b - 1, by omega⟩
  have hst1 : ∀ v ∈ As, ga_cV K v := fun v hv => hst v (List.mem_append_left _ (List.mem_reverse.mpr hv))
  have hst2 : ∀ v ∈ st, ga_cV K v := fun v hv => hst v (List.mem_append_right _ (List.mem_cons_of_mem _ hv))
  have hbK : ga_cV K (.inr (b + 1)) := hst _ (List.mem_append_right _ List.mem_cons_self)
  refine ga_after hA hKK h0 hD hS hL hst2 (va_runI (b := ad (b + 1)) (As := As.map (ga_v ad)) (rest := st.map (ga_v ad)) (n := As.length) ⟨hx, hb, hml, hown, hts⟩ (hE ad H.size) (cwI As.length hts hG hw hrc hrs (hts _ hini) (hts _ hl) (hts _ hin) hy1 hd hR) ⟨ga_P_blind, fun U hU hW => ⟨rfl, by rw [hU], by rw [hU]; exact hP, va_K.moved hW.alike hK, hD.weaken (fun _ _ _ _ => trivial), hc, List.forall_mem_cons.mpr ⟨hbK, hst1⟩, ga_nws.warm hW hnw hnws⟩⟩ rfl (List.length_map ..) hL.1.1 ?_ (lv_room (by rw [ga_cats]; exact h8)) d hf) k
  show (As.reverse ++ Sum.inr (b + 1) :: st).map (ga_v ad) = _
  rw [List.map_append, List.map_reverse]
  rfl
theorem ga_callIN (C : ga_C X cc y Ts nw R0 gD nL0) {host : String} (hE : ga_Ev X.2.1 gD y' ws' rm' nw' mc ms K (.inr b :: As) σ Post) (hG : GoodIn Ts ws') (hini : Cond.initialized y'.cls ∈ Ts) (hl : (y.cls, index, y', host) ∈ nw) (hin : Cond.instanceMethod y' ∈ Ts) (hy1 : y'.name = "<init>") (hw : ws' = Cond.code y' bytes maxL none :: ws'') (hrc : rm'.cells = mc) (hrs : rm'.slots = ms) (hd : y'.cls ≠ "java/lang/invoke/MethodHandle" ∧ y'.cls ≠ "java/lang/invoke/VarHandle" ∧ (parseMethodDescriptor y'.desc).map (fun d => d.parameters.length) = some As.length) (hR : rm'.frames + 1 ≤ R0.frames ∧ 8 + (maxL + 11) + rm'.locals ≤ R0.locals) (hf : ce + mc ≤ R0.cells ∧ sl + ms ≤ R0.slots) (hnws : ∀ q ∈ nw', q ∈ nw) (hb0 : b ≠ 0) (h8 : st.length ≤ 8) (hstk : stk = As.reverse ++ .inr b :: st) (d : decode cc pc = .ok (.invokespecial index, 3)) (k : ∀ σ' r, Post σ' r → ga_G X (ce + mc) (sl + ms) (K + mc) (pc + 3) lv (r.toList ++ st) σ') : ga_G X ce sl K pc lv stk σ := by
  obtain ⟨p, l, e, R, s, m, args, below, meth, c, nL, D, cl, cI, cZ, A, Q, K0, ad0⟩ := X
  obtain ⟨⟨hx, hb, hml, hown, hts⟩, hK, hA, hlk, hcl, hnw, hRR, hnm, hgD, hnL⟩ := C
  subst hgD
  subst hRR
  subst hstk
  intro ad H locs ls hKK h0 hP hD hS hL hc hst
  obtain ⟨b, rfl⟩ : ∃ b', b = b' + 1 := ⟨b - 1, by omega⟩
  have hst1 : ∀ v ∈ As, ga_cV K v := fun v hv => hst v (List.mem_append_left _ (List.mem_reverse.mpr hv))
  have hst2 : ∀ v ∈ st, ga_cV K v := fun v hv => hst v (List.mem_append_right _ (List.mem_cons_of_mem _ hv))
  have hbK : ga_cV K (.inr (b + 1)) := hst _ (List.mem_append_right _ List.mem_cons_self)
  refine ga_after hA hKK h0 hD hS hL hst2 (va_runIN (b := ad (b + 1)) (As := As.map (ga_v ad)) (rest := st.map (ga_v ad)) (n := As.length) ⟨hx, hb, hml, hown, hts⟩ (hE ad H.size) ⟨va_cnB As.length hts hG hw hrc hrs (hnw _ hl) (hts _ hini) hd hR, hy1, hts _ hin⟩ ⟨ga_P_blind, fun U hU hW => ⟨rfl, by rw [hU], by rw [hU]; exact hP, va_K.moved hW.alike hK, hD.weaken (fun _ _ _ _ => trivial), hc, List.forall_mem_cons.mpr ⟨hbK, hst1⟩, ga_nws.warm hW hnw hnws⟩⟩ rfl (List.length_map ..) hL.1.1 ?_ (lv_room (by rw [ga_cats]; exact h8)) d hf) k
  show (As.reverse ++ Sum.inr (b + 1) :: st).map (ga_v ad) = _
  rw [List.map_append, List.map_reverse]
  rfl
/-- putfield of a reference or a number, final or not, in a constructor -/
theorem ga_putC (C : ga_C X cc y Ts nw R0 gD nL0) {Cn : String} {T : u_T} {N ci i a j : Nat} {fs : List ga_V} {v : ga_V} {ty : FieldType} (hin : ∀ w ∈ u_ws Cn T N, w ∈ Ts) (ty0 : Nat → FieldType) (hty : ∀ k, k < N → parseFieldDescriptor (T k).2.2.1 = some (ty0 k)) (hnmT : ∀ a, a < N → ∀ b, b < N → a ≠ b → (T a).2.1 ≠ (T b).2.1) (hσ : σ a = .inr (ci, fs)) (hc1 : gD.2.1[ci]? = some (Cn, T, N)) (hj : j < N) (hl : Cond.fieldLink y.cls i (T j).1 (T j).2.1 (T j).2.2.1 ∈ Ts) (hfin : (T j).2.2.2 = false ∨ ((T j).2.2.2 = true ∧ y.name = "<init>" ∧ (T j).1 = y.cls)) (hd : parseFieldDescriptor (T j).2.2.1 = some ty) (hnf : ∀ ad, narrow ty (ga_v ad v) = ga_v ad v ∧ fits ty (ga_v ad v) = true) (hlen : j < fs.length) (d : decode cc pc = .ok (.putfield i, 3)) (k : ∀ σ', σ' a = .inr (ci, fs.set j v) → (∀ j, j ≠ a → σ' j = σ j) → ga_G X ce sl K (pc + 3) lv st σ') : ga_G X ce sl K pc lv (v :: .inr a :: st) σ := by
  have kk := k (va_up σ a (.inr (ci, fs.set j v))) (by unfold va_up; rw [if_pos rfl]) (fun j hj => by unfold va_up; rw [if_neg hj])
  rcases hfin with h | ⟨h1, h2, h3⟩
  · exact ga_put C hin ty0 hty hnmT hσ hc1 hj hl h hd hnf hlen d kk
  · exact ga_putF C hin ty0 hty hnmT hσ hc1 hj hl h1 h2 h3 hd hnf hlen d kk
end MK
