/-! The layer of mathematical states. A value is a whole number (.inl) or a cell's number (.inr; 0: null); a store gives each cell's number an array (of booleans or ints) or an object. -/
abbrev ga_V : Type := Int ⊕ Nat
abbrev ga_E : Type := (Bool × Nat × (Nat → Int)) ⊕ (Nat × List ga_V)
abbrev ga_S : Type := Nat → ga_E
def ga_r (z : Int) : Prop := -2147483648 ≤ z ∧ z < 2147483648
def ga_v (ad : Nat → Nat) (v : ga_V) : Value := match v with
  | .inl z => .int (Int32.ofInt z)
  | .inr 0 => .null
  | .inr (k + 1) => .ref (ad (k + 1))
def ga_e (ad : Nat → Nat) (cI cZ : ClassId) (x : ga_E) : va_E := match x with
  | .inl a => .inl (if a.1 then cZ else cI, a.2.1, .inl (fun j => Int32.ofInt (a.2.2 j)))
  | .inr o => .inr (o.1, o.2.map (ga_v ad))
def ga_w (ad : Nat → Nat) (cI cZ : ClassId) (K : Nat) (σ : ga_S) : va_W := (List.range K).map (fun i => (ad (i + 1), ga_e ad cI cZ (σ (i + 1))))
def ga_cV (K : Nat) (v : ga_V) : Prop := match v with
  | .inl z => ga_r z
  | .inr k => k ≤ K
def ga_cE (K : Nat) (x : ga_E) : Prop := match x with
  | .inl a => ∀ j, j < a.2.1 → ga_r (a.2.2 j)
  | .inr o => ∀ v ∈ o.2, ga_cV K v
def ga_no : ga_E := .inr (1000000, [])
def ga_cS (K : Nat) (σ : ga_S) : Prop := (∀ k, ga_cE K (σ k)) ∧ ∀ k, (k = 0 ∨ K < k) → σ k = ga_no
def ga_ll (ad : Nat → Nat) (nL : Nat) (lv : Nat → Option ga_V) : List (Nat × Value) := (List.range nL).filterMap (fun i => (lv i).map (fun v => (i, ga_v ad v)))
def ga_L (ad : Nat → Nat) (K : Nat) (ls : Array Slot) (nL : Nat) (lv : Nat → Option ga_V) : Prop := lv_has ls nL (ga_ll ad nL lv) ∧ ∀ i v, lv i = some v → i < nL ∧ ga_cV K v
abbrev ga_X : Type := Program × Launch × Env × Room × State × MethodId × Array Value × List Frame × Method × Code × Nat × va_G × List vw_C × ClassId × ClassId × (Nat → Prop) × (State → Prop) × Nat × (Nat → Nat)
abbrev ga_tys (cI cZ : ClassId) : List (ClassId × FieldType) := [(cI, .int), (cZ, .boolean)]
abbrev ga_N : Type := List (String × Nat × MethodName × String)
/-- the machine, at pc with these locals, this stack and this store, comes to its end -/
def ga_G (X : ga_X) (ce sl K pc : Nat) (lv : Nat → Option ga_V) (st : List ga_V) (σ : ga_S) : Prop := match X with
  | (p, l, e, R, s, m, args, below, meth, c, nL, D, cl, cI, cZ, A, Q, K0, ad0) => ∀ (ad : Nat → Nat) (H : Heap) (locs : List Loc) (ls : Array Slot), K0 ≤ K → (∀ k, k ≤ K0 → ad k = ad0 k) → va_P D cl (ga_w ad cI cZ K σ) H → va_D A (ga_w ad cI cZ K σ) → va_S A s.heap H locs → ga_L ad K ls nL lv → ga_cS K σ → (∀ v ∈ st, ga_cV K v) →
    W p l e R s m args below meth c H locs ce sl Q (F0 m pc ls (st.map (ga_v ad)))
def ga_nws (nw : ga_N) (U : State) : Prop := ∀ q ∈ nw, va_Nw (.methodLinkNest q.1 q.2.1 q.2.2.1 q.2.2.2) U
def ga_C (X : ga_X) (cc : ByteArray) (y : MethodName) (Ts : List Cond) (nw : ga_N) (R0 : Room) (gD : va_G × List vw_C × ClassId × ClassId) (nL0 : Nat) : Prop := match X with
  | (p, l, e, R, s, m, args, below, meth, c, nL, D, cl, cI, cZ, A, Q, K0, ad0) => CallFix p m c cc nL s args Ts y.cls ∧ va_K D cl (ga_tys cI cZ) s ∧ (∀ q, s.heap.size ≤ q → A q) ∧ meth.locks = false ∧ cl.length ≤ 1000000 ∧ ga_nws nw s ∧ R = R0 ∧ meth.name = y.name ∧ gD = (D, cl, cI, cZ) ∧ nL = nL0
theorem ga_cV.up {K K' : Nat} (h : K ≤ K') {v : ga_V} (hv : ga_cV K v) : ga_cV K' v := by
  cases v with
  | inl z => exact hv
  | inr k => exact Nat.le_trans hv h
theorem ga_cE.up {K K' : Nat} (h : K ≤ K') {x : ga_E} (hx : ga_cE K x) : ga_cE K' x := by
  cases x with
  | inl z => exact hx
  | inr k => exact fun v hv => (hx v hv).up h
theorem ga_w_len (ad : Nat → Nat) (cI cZ : ClassId) (K : Nat) (σ : ga_S) : (ga_w ad cI cZ K σ).length = K := by simp [ga_w]
theorem ga_w_get (ad : Nat → Nat) (cI cZ : ClassId) {K a : Nat} (σ : ga_S) (h : a < K) : (ga_w ad cI cZ K σ)[a]? = some (ad (a + 1), ga_e ad cI cZ (σ (a + 1))) := by
  simp [ga_w, h]
theorem ga_w_set (ad : Nat → Nat) (cI cZ : ClassId) {K a : Nat} (σ : ga_S) (x : ga_E) : (ga_w ad cI cZ K σ).set a (ad (a + 1), ga_e ad cI cZ x) = ga_w ad cI cZ K (va_up σ (a + 1) x) := by
  apply List.ext_getElem?
  intro i
  simp only [ga_w, List.getElem?_set, List.length_map, List.length_range, List.getElem?_map, va_up]
  by_cases hi : a = i
  · subst hi
    by_cases h : a < K
    · simp [h]
    · simp [h]
  · rw [if_neg hi]
    by_cases h : i < K
    · have : ¬ (i + 1 = a + 1) := by omega
      simp only [List.getElem?_range h, Option.map_some, if_neg this]
    · simp [h]
theorem ga_w_push (ad : Nat → Nat) (cI cZ : ClassId) {K : Nat} (σ : ga_S) : ga_w ad cI cZ (K + 1) σ = ga_w ad cI cZ K σ ++ [(ad (K + 1), ga_e ad cI cZ (σ (K + 1)))] := by
  simp [ga_w, List.range_succ]
theorem ga_v_same {ad ad' : Nat → Nat} {K : Nat} (h : ∀ k, k ≤ K → ad' k = ad k) {v : ga_V} (hv : ga_cV K v) : ga_v ad' v = ga_v ad v := by
  cases v with
  | inl z => rfl
  | inr k =>
    cases k with
    | zero => rfl
    | succ k => show Value.ref (ad' (k + 1)) = Value.ref (ad (k + 1)); rw [h _ hv]
theorem ga_e_same {ad ad' : Nat → Nat} {cI cZ : ClassId} {K : Nat} (h : ∀ k, k ≤ K → ad' k = ad k) {x : ga_E} (hx : ga_cE K x) : ga_e ad' cI cZ x = ga_e ad cI cZ x := by
  cases x with
  | inl a => rfl
  | inr o =>
    show Sum.inr (o.1, o.2.map (ga_v ad')) = Sum.inr (o.1, o.2.map (ga_v ad))
    rw [List.map_congr_left (fun v hv => ga_v_same h (hx v hv))]
theorem ga_w_same {ad ad' : Nat → Nat} {cI cZ : ClassId} {K K' : Nat} {σ : ga_S} (hK : K ≤ K') (h : ∀ k, k ≤ K' → ad' k = ad k) (hc : ∀ k, ga_cE K' (σ k)) : ga_w ad' cI cZ K σ = ga_w ad cI cZ K σ := by
  unfold ga_w
  refine List.map_congr_left (fun i hi => ?_)
  have := List.mem_range.mp hi
  rw [h _ (by omega), ga_e_same h (hc _)]
theorem ga_st_same {ad ad' : Nat → Nat} {K : Nat} (h : ∀ k, k ≤ K → ad' k = ad k) {st : List ga_V} (hc : ∀ v ∈ st, ga_cV K v) : st.map (ga_v ad') = st.map (ga_v ad) := List.map_congr_left (fun v hv => ga_v_same h (hc v hv))
theorem ga_ll_same {ad ad' : Nat → Nat} {K nL : Nat} {lv : Nat → Option ga_V} (h : ∀ k, k ≤ K → ad' k = ad k) (hc : ∀ i v, lv i = some v → ga_cV K v) : ga_ll ad' nL lv = ga_ll ad nL lv := by
  unfold ga_ll
  congr 1
  funext i
  cases hi : lv i with
  | none => rfl
  | some v => simp only [Option.map_some]; rw [ga_v_same h (hc i v hi)]
theorem ga_L.at {ad : Nat → Nat} {K nL : Nat} {ls : Array Slot} {lv : Nat → Option ga_V} (h : ga_L ad K ls nL lv) {i : Nat} {v : ga_V} (hi : lv i = some v) : ls[i]? = some (.val (ga_v ad v)) := by
  refine h.1.2.2 (i, ga_v ad v) ?_
  unfold ga_ll
  exact List.mem_filterMap.mpr ⟨i, List.mem_range.mpr (h.2 i v hi).1, by rw [hi]; rfl⟩
theorem ga_v_cat (ad : Nat → Nat) (v : ga_V) : (ga_v ad v).category = 1 := by
  cases v with
  | inl z => rfl
  | inr k => cases k <;> rfl
theorem ga_cats (ad : Nat → Nat) (st : List ga_V) : ((st.map (ga_v ad)).map fun v => v.category).sum = st.length := by
  induction st with
  | nil => rfl
  | cons v st ih => simp only [List.map_cons, List.sum_cons, ga_v_cat, ih, List.length_cons]; omega
theorem ga_L.put {ad : Nat → Nat} {K nL : Nat} {ls' : Array Slot} {lv : Nat → Option ga_V} {i : Nat} {v : ga_V} (hc : ∀ j w, lv j = some w → j < nL ∧ ga_cV K w) (hi : i < nL) (hv : ga_cV K v) (h : lv_has ls' nL ((i, ga_v ad v) :: (ga_ll ad nL lv).filter (fun q => !(q.1 == i) && !(q.1 + 1 == i && q.2.category == 2)))) : ga_L ad K ls' nL (va_up lv i (some v)) := by
  refine ⟨⟨h.1, h.2.1, fun q hq => ?_⟩, fun j w hj => ?_⟩
  · unfold ga_ll at hq
    obtain ⟨j, hj1, hj2⟩ := List.mem_filterMap.mp hq
    have hjn := List.mem_range.mp hj1
    by_cases hji : j = i
    · subst hji
      simp only [va_up, if_true, Option.map_some, Option.some.injEq] at hj2
      rw [← hj2]
      exact h.2.2 _ List.mem_cons_self
    · simp only [va_up, if_neg hji] at hj2
      cases hlj : lv j with
      | none => rw [hlj] at hj2; cases hj2
      | some w =>
        rw [hlj] at hj2
        simp only [Option.map_some, Option.some.injEq] at hj2
        rw [← hj2]
        refine h.2.2 _ (List.mem_cons_of_mem _ (List.mem_filter.mpr ⟨?_, ?_⟩))
        · unfold ga_ll
          exact List.mem_filterMap.mpr ⟨j, hj1, by rw [hlj]; rfl⟩
        · simp [hji, ga_v_cat]
  · by_cases hji : j = i
    · subst hji
      simp only [va_up, if_true, Option.some.injEq] at hj
      rw [← hj]
      exact ⟨hi, hv⟩
    · simp only [va_up, if_neg hji] at hj
      exact hc j w hj
theorem ga_of {z : Int} (h : ga_r z) : (Int32.ofInt z).toInt = z := Int32.toInt_ofInt_of_le (by have := h.1; omega) (by have := h.2; omega)
theorem ga_eq {x y : Int} (hx : ga_r x) (hy : ga_r y) : Int32.ofInt x = Int32.ofInt y ↔ x = y := ⟨fun h => by rw [← ga_of hx, ← ga_of hy, h], fun h => by rw [h]⟩
theorem ga_lt {x y : Int} (hx : ga_r x) (hy : ga_r y) : Int32.ofInt x < Int32.ofInt y ↔ x < y := by rw [Int32.lt_iff_toInt_lt, ga_of hx, ga_of hy]
theorem ga_le {x y : Int} (hx : ga_r x) (hy : ga_r y) : Int32.ofInt x ≤ Int32.ofInt y ↔ x ≤ y := by rw [Int32.le_iff_toInt_le, ga_of hx, ga_of hy]
theorem ga_z0 : (0 : Int32) = Int32.ofInt 0 := rfl
theorem ga_r0 : ga_r 0 := by unfold ga_r; omega
theorem ga_cl {z : Int} (h : ga_r z) : (Int32.ofInt z).toNatClampNeg = z.toNat := by rw [← Int32.toNat_toInt, ga_of h]
theorem ga_in {z : Int} {n : Nat} (h : ga_r z) (h0 : 0 ≤ z) (hn : z < n) : vp_in (Int32.ofInt z) n := by
  rw [vp_in_iff, ga_of h]; exact ⟨h0, hn⟩
theorem ga_tdiv {x y : Int} (hx : ga_r x) (hy : ga_r y) (h1 : y ≠ -1) : Int32.ofInt x / Int32.ofInt y = Int32.ofInt (x.tdiv y) := by
  refine Int32.toInt_inj.mp ?_
  rw [Int32.toInt_div_of_ne_right _ _ ?_, ga_of hx, ga_of hy, ga_of]
  · unfold ga_r at hx hy ⊢
    rcases Int.lt_or_le x 0 with h | h
    · obtain ⟨n, rfl⟩ : ∃ n : Nat, x = -(n : Int) := ⟨x.natAbs, by omega⟩
      rcases Int.lt_or_le y 0 with h2 | h2
      · obtain ⟨k, rfl⟩ : ∃ n : Nat, y = -(n : Int) := ⟨y.natAbs, by omega⟩
        rw [Int.neg_tdiv, Int.tdiv_neg, Int.neg_neg, Int.tdiv_eq_ediv_of_nonneg (by omega)]
        have hk : 2 ≤ k := by omega
        have h4 : 0 ≤ (n : Int) / k := Int.ediv_nonneg (by omega) (by omega)
        have h3 : n / k ≤ n / 2 := Nat.div_le_div_left hk (by omega)
        omega
      · obtain ⟨k, rfl⟩ : ∃ n : Nat, y = (n : Int) := ⟨y.natAbs, by omega⟩
        rw [Int.neg_tdiv, Int.tdiv_eq_ediv_of_nonneg (by omega)]
        have h4 : 0 ≤ (n : Int) / k := Int.ediv_nonneg (by omega) (by omega)
        have h3 : n / k ≤ n := Nat.div_le_self _ _
        omega
    · obtain ⟨n, rfl⟩ : ∃ n : Nat, x = (n : Int) := ⟨x.natAbs, by omega⟩
      rcases Int.lt_or_le y 0 with h2 | h2
      · obtain ⟨k, rfl⟩ : ∃ n : Nat, y = -(n : Int) := ⟨y.natAbs, by omega⟩
        rw [Int.tdiv_neg, Int.tdiv_eq_ediv_of_nonneg (by omega)]
        have h4 : 0 ≤ (n : Int) / k := Int.ediv_nonneg (by omega) (by omega)
        have h3 : n / k ≤ n := Nat.div_le_self _ _
        omega
      · obtain ⟨k, rfl⟩ : ∃ n : Nat, y = (n : Int) := ⟨y.natAbs, by omega⟩
        rw [Int.tdiv_eq_ediv_of_nonneg (by omega)]
        have h4 : 0 ≤ (n : Int) / k := Int.ediv_nonneg (by omega) (by omega)
        have h3 : n / k ≤ n := Nat.div_le_self _ _
        omega
  · intro h
    apply h1
    have := congrArg Int32.toInt h
    rw [ga_of hy] at this
    exact this
theorem ga_upd (f : Nat → Int) (k : Nat) (x : Int) : upd (fun j => Int32.ofInt (f j)) k (Int32.ofInt x) = fun j => Int32.ofInt (va_up f k x j) := by
  funext j
  unfold upd va_up
  split <;> rfl
theorem ga_2 {P : ga_V → Prop} {a b : ga_V} {st : List ga_V} (h : ∀ v ∈ a :: st, P v) (hb : P b) : ∀ v ∈ b :: a :: st, P v := List.forall_mem_cons.mpr ⟨hb, h⟩
theorem ga_1 {P : ga_V → Prop} {b : ga_V} {st : List ga_V} (h : ∀ v ∈ st, P v) (hb : P b) : ∀ v ∈ b :: st, P v := List.forall_mem_cons.mpr ⟨hb, h⟩
theorem ga_t {P : ga_V → Prop} {a : ga_V} {st : List ga_V} (h : ∀ v ∈ a :: st, P v) : ∀ v ∈ st, P v := (List.forall_mem_cons.mp h).2
theorem ga_h {P : ga_V → Prop} {a : ga_V} {st : List ga_V} (h : ∀ v ∈ a :: st, P v) : P a := (List.forall_mem_cons.mp h).1
section GA
variable {X : ga_X} {cc : ByteArray} {y : MethodName} {Ts : List Cond} {nw : ga_N} {R0 : Room} {gD : va_G × List vw_C × ClassId × ClassId} {nL0 : Nat}
variable {ce sl K pc : Nat} {lv : Nat → Option ga_V} {st : List ga_V} {σ : ga_S}
theorem ga_iconst (C : ga_C X cc y Ts nw R0 gD nL0) {n : Int} (d : decode cc pc = .ok (.iconst n, 1)) (hr : ga_r n) (k : ga_G X ce sl K (pc + 1) lv (.inl n :: st) σ) : ga_G X ce sl K pc lv (st) σ := by
  obtain ⟨p, l, e, R, s, m, args, below, meth, c, nL, D, cl, cI, cZ, A, Q, K0, ad0⟩ := X
  obtain ⟨⟨hx, hb, hml, hown, hts⟩, hK, hA, hlk, hcl, hnw, hR, hnm, hgD, hnL⟩ := C
  intro ad H locs ls hKK h0 hP hD hS hL hc hst
  exact lv_iconst hx hb d rfl (k ad H locs ls hKK h0 hP hD hS hL hc (ga_1 hst hr))
theorem ga_bipush (C : ga_C X cc y Ts nw R0 gD nL0) {n : Int} (d : decode cc pc = .ok (.bipush n, 2)) (hr : ga_r n) (hn : (Int8.ofInt n).toInt32 = Int32.ofInt n) (k : ga_G X ce sl K (pc + 2) lv (.inl n :: st) σ) : ga_G X ce sl K pc lv (st) σ := by
  obtain ⟨p, l, e, R, s, m, args, below, meth, c, nL, D, cl, cI, cZ, A, Q, K0, ad0⟩ := X
  obtain ⟨⟨hx, hb, hml, hown, hts⟩, hK, hA, hlk, hcl, hnw, hR, hnm, hgD, hnL⟩ := C
  intro ad H locs ls hKK h0 hP hD hS hL hc hst
  exact lv_bipush hx hb d hn (k ad H locs ls hKK h0 hP hD hS hL hc (ga_1 hst hr))
theorem ga_sipush (C : ga_C X cc y Ts nw R0 gD nL0) {n : Int} (d : decode cc pc = .ok (.sipush n, 3)) (hr : ga_r n) (hn : (Int16.ofInt n).toInt32 = Int32.ofInt n) (k : ga_G X ce sl K (pc + 3) lv (.inl n :: st) σ) : ga_G X ce sl K pc lv (st) σ := by
  obtain ⟨p, l, e, R, s, m, args, below, meth, c, nL, D, cl, cI, cZ, A, Q, K0, ad0⟩ := X
  obtain ⟨⟨hx, hb, hml, hown, hts⟩, hK, hA, hlk, hcl, hnw, hR, hnm, hgD, hnL⟩ := C
  intro ad H locs ls hKK h0 hP hD hS hL hc hst
  exact lv_sipush hx hb d hn (k ad H locs ls hKK h0 hP hD hS hL hc (ga_1 hst hr))
theorem ga_iload_n (C : ga_C X cc y Ts nw R0 gD nL0) {q : Fin 4} {i : Nat} {x : Int} (d : decode cc pc = .ok (.iload_n q, 1)) (hq : (q : Nat) = i) (hl : lv i = some (.inl x))  (k : ga_G X ce sl K (pc + 1) lv (.inl x :: st) σ) : ga_G X ce sl K pc lv (st) σ := by
  obtain ⟨p, l, e, R, s, m, args, below, meth, c, nL, D, cl, cI, cZ, A, Q, K0, ad0⟩ := X
  obtain ⟨⟨hx, hb, hml, hown, hts⟩, hK, hA, hlk, hcl, hnw, hR, hnm, hgD, hnL⟩ := C
  intro ad H locs ls hKK h0 hP hD hS hL hc hst
  exact lv_iload_n hx hb d hq (hL.at hl) (k ad H locs ls hKK h0 hP hD hS hL hc (ga_1 hst (hL.2 _ _ hl).2))
theorem ga_iload (C : ga_C X cc y Ts nw R0 gD nL0) {i : Nat} {x : Int} (d : decode cc pc = .ok (.iload i, 2)) (hl : lv i = some (.inl x))  (k : ga_G X ce sl K (pc + 2) lv (.inl x :: st) σ) : ga_G X ce sl K pc lv (st) σ := by
  obtain ⟨p, l, e, R, s, m, args, below, meth, c, nL, D, cl, cI, cZ, A, Q, K0, ad0⟩ := X
  obtain ⟨⟨hx, hb, hml, hown, hts⟩, hK, hA, hlk, hcl, hnw, hR, hnm, hgD, hnL⟩ := C
  intro ad H locs ls hKK h0 hP hD hS hL hc hst
  exact lv_iload hx hb d (hL.at hl) (k ad H locs ls hKK h0 hP hD hS hL hc (ga_1 hst (hL.2 _ _ hl).2))
theorem ga_aload_n (C : ga_C X cc y Ts nw R0 gD nL0) {q : Fin 4} {i : Nat} {x : Nat} (d : decode cc pc = .ok (.aload_n q, 1)) (hq : (q : Nat) = i) (hl : lv i = some (.inr x)) (h1 : x ≠ 0)  (k : ga_G X ce sl K (pc + 1) lv (.inr x :: st) σ) : ga_G X ce sl K pc lv (st) σ := by
  obtain ⟨p, l, e, R, s, m, args, below, meth, c, nL, D, cl, cI, cZ, A, Q, K0, ad0⟩ := X
  obtain ⟨⟨hx, hb, hml, hown, hts⟩, hK, hA, hlk, hcl, hnw, hR, hnm, hgD, hnL⟩ := C
  intro ad H locs ls hKK h0 hP hD hS hL hc hst
  obtain ⟨x, rfl⟩ := Nat.exists_eq_succ_of_ne_zero h1
  exact lv_aload_n hx hb d hq (hL.at hl) (k ad H locs ls hKK h0 hP hD hS hL hc (ga_1 hst (hL.2 _ _ hl).2))
theorem ga_aload (C : ga_C X cc y Ts nw R0 gD nL0) {i : Nat} {x : Nat} (d : decode cc pc = .ok (.aload i, 2)) (hl : lv i = some (.inr x)) (h1 : x ≠ 0)  (k : ga_G X ce sl K (pc + 2) lv (.inr x :: st) σ) : ga_G X ce sl K pc lv (st) σ := by
  obtain ⟨p, l, e, R, s, m, args, below, meth, c, nL, D, cl, cI, cZ, A, Q, K0, ad0⟩ := X
  obtain ⟨⟨hx, hb, hml, hown, hts⟩, hK, hA, hlk, hcl, hnw, hR, hnm, hgD, hnL⟩ := C
  intro ad H locs ls hKK h0 hP hD hS hL hc hst
  obtain ⟨x, rfl⟩ := Nat.exists_eq_succ_of_ne_zero h1
  exact lv_aload hx hb d (hL.at hl) (k ad H locs ls hKK h0 hP hD hS hL hc (ga_1 hst (hL.2 _ _ hl).2))
theorem ga_istore_n (C : ga_C X cc y Ts nw R0 gD nL0) {q : Fin 4} {i : Nat} {x : Int} (d : decode cc pc = .ok (.istore_n q, 1)) (hq : (q : Nat) = i) (hn : i < nL0)  (k : ga_G X ce sl K (pc + 1) (va_up lv i (some (.inl x))) st σ) : ga_G X ce sl K pc lv (.inl x :: st) σ := by
  obtain ⟨p, l, e, R, s, m, args, below, meth, c, nL, D, cl, cI, cZ, A, Q, K0, ad0⟩ := X
  obtain ⟨⟨hx, hb, hml, hown, hts⟩, hK, hA, hlk, hcl, hnw, hR, hnm, hgD, hnL⟩ := C
  intro ad H locs ls hKK h0 hP hD hS hL hc hst
  subst hnL
  exact lv_istore_n hx hb d hq hL.1 hn rfl (fun ls' h' => k ad H locs ls' hKK h0 hP hD hS (ga_L.put hL.2 hn (ga_h hst) h') hc (ga_t hst))
theorem ga_istore (C : ga_C X cc y Ts nw R0 gD nL0) {i : Nat} {x : Int} (d : decode cc pc = .ok (.istore i, 2)) (hn : i < nL0)  (k : ga_G X ce sl K (pc + 2) (va_up lv i (some (.inl x))) st σ) : ga_G X ce sl K pc lv (.inl x :: st) σ := by
  obtain ⟨p, l, e, R, s, m, args, below, meth, c, nL, D, cl, cI, cZ, A, Q, K0, ad0⟩ := X
  obtain ⟨⟨hx, hb, hml, hown, hts⟩, hK, hA, hlk, hcl, hnw, hR, hnm, hgD, hnL⟩ := C
  intro ad H locs ls hKK h0 hP hD hS hL hc hst
  subst hnL
  exact lv_istore hx hb d hL.1 hn rfl (fun ls' h' => k ad H locs ls' hKK h0 hP hD hS (ga_L.put hL.2 hn (ga_h hst) h') hc (ga_t hst))
theorem ga_astore_n (C : ga_C X cc y Ts nw R0 gD nL0) {q : Fin 4} {i : Nat} {x : Nat} (d : decode cc pc = .ok (.astore_n q, 1)) (hq : (q : Nat) = i) (hn : i < nL0) (h1 : x ≠ 0)  (k : ga_G X ce sl K (pc + 1) (va_up lv i (some (.inr x))) st σ) : ga_G X ce sl K pc lv (.inr x :: st) σ := by
  obtain ⟨p, l, e, R, s, m, args, below, meth, c, nL, D, cl, cI, cZ, A, Q, K0, ad0⟩ := X
  obtain ⟨⟨hx, hb, hml, hown, hts⟩, hK, hA, hlk, hcl, hnw, hR, hnm, hgD, hnL⟩ := C
  intro ad H locs ls hKK h0 hP hD hS hL hc hst
  subst hnL
  obtain ⟨x, rfl⟩ := Nat.exists_eq_succ_of_ne_zero h1
  exact lv_astore_n hx hb d hq hL.1 hn rfl (fun ls' h' => k ad H locs ls' hKK h0 hP hD hS (ga_L.put hL.2 hn (ga_h hst) h') hc (ga_t hst))
theorem ga_astore (C : ga_C X cc y Ts nw R0 gD nL0) {i : Nat} {x : Nat} (d : decode cc pc = .ok (.astore i, 2)) (hn : i < nL0) (h1 : x ≠ 0)  (k : ga_G X ce sl K (pc + 2) (va_up lv i (some (.inr x))) st σ) : ga_G X ce sl K pc lv (.inr x :: st) σ := by
  obtain ⟨p, l, e, R, s, m, args, below, meth, c, nL, D, cl, cI, cZ, A, Q, K0, ad0⟩ := X
  obtain ⟨⟨hx, hb, hml, hown, hts⟩, hK, hA, hlk, hcl, hnw, hR, hnm, hgD, hnL⟩ := C
  intro ad H locs ls hKK h0 hP hD hS hL hc hst
  subst hnL
  obtain ⟨x, rfl⟩ := Nat.exists_eq_succ_of_ne_zero h1
  exact lv_astore hx hb d hL.1 hn rfl (fun ls' h' => k ad H locs ls' hKK h0 hP hD hS (ga_L.put hL.2 hn (ga_h hst) h') hc (ga_t hst))
theorem ga_mem_ll {ad : Nat → Nat} {nL i : Nat} {lv : Nat → Option ga_V} {v : ga_V} (hi : i < nL) (hl : lv i = some v) : ∃ k : Nat, (ga_ll ad nL lv)[k]? = some (i, ga_v ad v) := by
  refine List.getElem?_of_mem ?_
  unfold ga_ll
  exact List.mem_filterMap.mpr ⟨i, List.mem_range.mpr hi, by rw [hl]; rfl⟩
theorem ga_iinc (C : ga_C X cc y Ts nw R0 gD nL0) {i : Nat} {x n : Int} (d : decode cc pc = .ok (.iinc i n, 3)) (hl : lv i = some (.inl x)) (hr : ga_r (x + n)) (k : ga_G X ce sl K (pc + 3) (va_up lv i (some (.inl (x + n)))) st σ) : ga_G X ce sl K pc lv (st) σ := by
  obtain ⟨p, l, e, R, s, m, args, below, meth, c, nL, D, cl, cI, cZ, A, Q, K0, ad0⟩ := X
  obtain ⟨⟨hx, hb, hml, hown, hts⟩, hK, hA, hlk, hcl, hnw, hR, hnm, hgD, hnL⟩ := C
  intro ad H locs ls hKK h0 hP hD hS hL hc hst
  have hin := (hL.2 _ _ hl).1
  obtain ⟨q, hq⟩ := ga_mem_ll (ad := ad) hin hl
  exact lv_iinc (v := Int32.ofInt (x + n)) hx hb d hL.1 hq (Int32.ofInt_add x n).symm hin rfl (fun ls' h' => k ad H locs ls' hKK h0 hP hD hS (ga_L.put (v := .inl (x + n)) hL.2 hin hr h') hc hst)
theorem ga_iadd (C : ga_C X cc y Ts nw R0 gD nL0) {x z : Int} (d : decode cc pc = .ok (.iadd, 1)) (hr : ga_r (x + z)) (k : ga_G X ce sl K (pc + 1) lv (.inl (x + z) :: st) σ) : ga_G X ce sl K pc lv (.inl z :: .inl x :: st) σ := by
  obtain ⟨p, l, e, R, s, m, args, below, meth, c, nL, D, cl, cI, cZ, A, Q, K0, ad0⟩ := X
  obtain ⟨⟨hx, hb, hml, hown, hts⟩, hK, hA, hlk, hcl, hnw, hR, hnm, hgD, hnL⟩ := C
  intro ad H locs ls hKK h0 hP hD hS hL hc hst
  have h := k ad H locs ls hKK h0 hP hD hS hL hc (ga_1 (ga_t (ga_t hst)) hr)
  refine lv_iadd hx hb d ?_
  rw [← Int32.ofInt_add]
  exact h
theorem ga_isub (C : ga_C X cc y Ts nw R0 gD nL0) {x z : Int} (d : decode cc pc = .ok (.isub, 1)) (hr : ga_r (x - z)) (k : ga_G X ce sl K (pc + 1) lv (.inl (x - z) :: st) σ) : ga_G X ce sl K pc lv (.inl z :: .inl x :: st) σ := by
  obtain ⟨p, l, e, R, s, m, args, below, meth, c, nL, D, cl, cI, cZ, A, Q, K0, ad0⟩ := X
  obtain ⟨⟨hx, hb, hml, hown, hts⟩, hK, hA, hlk, hcl, hnw, hR, hnm, hgD, hnL⟩ := C
  intro ad H locs ls hKK h0 hP hD hS hL hc hst
  have h := k ad H locs ls hKK h0 hP hD hS hL hc (ga_1 (ga_t (ga_t hst)) hr)
  refine lv_isub hx hb d ?_
  rw [← Int32.ofInt_sub]
  exact h
theorem ga_imul (C : ga_C X cc y Ts nw R0 gD nL0) {x z : Int} (d : decode cc pc = .ok (.imul, 1)) (hr : ga_r (x * z)) (k : ga_G X ce sl K (pc + 1) lv (.inl (x * z) :: st) σ) : ga_G X ce sl K pc lv (.inl z :: .inl x :: st) σ := by
  obtain ⟨p, l, e, R, s, m, args, below, meth, c, nL, D, cl, cI, cZ, A, Q, K0, ad0⟩ := X
  obtain ⟨⟨hx, hb, hml, hown, hts⟩, hK, hA, hlk, hcl, hnw, hR, hnm, hgD, hnL⟩ := C
  intro ad H locs ls hKK h0 hP hD hS hL hc hst
  have h := k ad H locs ls hKK h0 hP hD hS hL hc (ga_1 (ga_t (ga_t hst)) hr)
  refine lv_imul hx hb d ?_
  rw [← Int32.ofInt_mul]
  exact h
theorem ga_ineg (C : ga_C X cc y Ts nw R0 gD nL0) {x : Int} (d : decode cc pc = .ok (.ineg, 1)) (hr : ga_r (-x)) (k : ga_G X ce sl K (pc + 1) lv (.inl (-x) :: st) σ) : ga_G X ce sl K pc lv (.inl x :: st) σ := by
  obtain ⟨p, l, e, R, s, m, args, below, meth, c, nL, D, cl, cI, cZ, A, Q, K0, ad0⟩ := X
  obtain ⟨⟨hx, hb, hml, hown, hts⟩, hK, hA, hlk, hcl, hnw, hR, hnm, hgD, hnL⟩ := C
  intro ad H locs ls hKK h0 hP hD hS hL hc hst
  have h := k ad H locs ls hKK h0 hP hD hS hL hc (ga_1 (ga_t hst) hr)
  refine lv_ineg hx hb d ?_
  rw [← Int32.ofInt_neg]
  exact h
theorem ga_tdiv_r {x z : Int} (hx : ga_r x) (h2 : 2 ≤ z) : ga_r (x.tdiv z) := by
  unfold ga_r at hx ⊢
  obtain ⟨k, rfl⟩ : ∃ n : Nat, z = (n : Int) := ⟨z.natAbs, by omega⟩
  rcases Int.lt_or_le x 0 with h | h
  · obtain ⟨n, rfl⟩ : ∃ n : Nat, x = -(n : Int) := ⟨x.natAbs, by omega⟩
    rw [Int.neg_tdiv, Int.tdiv_eq_ediv_of_nonneg (by omega)]
    have h4 : 0 ≤ (n : Int) / k := Int.ediv_nonneg (by omega) (by omega)
    have h3 : n / k ≤ n := Nat.div_le_self _ _
    omega
  · obtain ⟨n, rfl⟩ : ∃ n : Nat, x = (n : Int) := ⟨x.natAbs, by omega⟩
    rw [Int.tdiv_eq_ediv_of_nonneg (by omega)]
    have h4 : 0 ≤ (n : Int) / k := Int.ediv_nonneg (by omega) (by omega)
    have h3 : n / k ≤ n := Nat.div_le_self _ _
    omega
theorem ga_idiv (C : ga_C X cc y Ts nw R0 gD nL0) {x z : Int} (d : decode cc pc = .ok (.idiv, 1)) (h2 : 2 ≤ z) (k : ga_G X ce sl K (pc + 1) lv (.inl (x.tdiv z) :: st) σ) : ga_G X ce sl K pc lv (.inl z :: .inl x :: st) σ := by
  obtain ⟨p, l, e, R, s, m, args, below, meth, c, nL, D, cl, cI, cZ, A, Q, K0, ad0⟩ := X
  obtain ⟨⟨hx, hb, hml, hown, hts⟩, hK, hA, hlk, hcl, hnw, hR, hnm, hgD, hnL⟩ := C
  intro ad H locs ls hKK h0 hP hD hS hL hc hst
  have hrz : ga_r z := ga_h hst
  have hrx : ga_r x := ga_h (ga_t hst)
  have h := k ad H locs ls hKK h0 hP hD hS hL hc (ga_1 (ga_t (ga_t hst)) (ga_tdiv_r hrx h2))
  refine lv_idiv hx hb d (by rw [ga_z0, ga_eq hrz ga_r0]; omega) ?_
  rw [ga_tdiv hrx hrz (by omega)]
  exact h
theorem ga_irem (C : ga_C X cc y Ts nw R0 gD nL0) {x z : Int} (d : decode cc pc = .ok (.irem, 1)) (h2 : 2 ≤ z) (h1 : 0 ≤ x) (k : ga_G X ce sl K (pc + 1) lv (.inl (x % z) :: st) σ) : ga_G X ce sl K pc lv (.inl z :: .inl x :: st) σ := by
  obtain ⟨p, l, e, R, s, m, args, below, meth, c, nL, D, cl, cI, cZ, A, Q, K0, ad0⟩ := X
  obtain ⟨⟨hx, hb, hml, hown, hts⟩, hK, hA, hlk, hcl, hnw, hR, hnm, hgD, hnL⟩ := C
  intro ad H locs ls hKK h0 hP hD hS hL hc hst
  have hrz : ga_r z := ga_h hst
  have hrx : ga_r x := ga_h (ga_t hst)
  have h3 : 0 ≤ x % z := Int.emod_nonneg x (by omega)
  have h4 : x % z < z := Int.emod_lt_of_pos x (by omega)
  have h := k ad H locs ls hKK h0 hP hD hS hL hc (ga_1 (ga_t (ga_t hst)) (show ga_r (x % z) from ⟨by omega, by have := hrz.2; omega⟩))
  refine lv_irem hx hb d (by rw [ga_z0, ga_eq hrz ga_r0]; omega) ?_
  rw [ga_tdiv hrx hrz (by omega), ← Int32.ofInt_mul, ← Int32.ofInt_sub, Int.tdiv_eq_ediv_of_nonneg h1, show x - x / z * z = x % z by rw [Int.emod_def, Int.mul_comm]]
  exact h
theorem ga_dup (C : ga_C X cc y Ts nw R0 gD nL0) {v : ga_V} (d : decode cc pc = .ok (.dup, 1)) (k : ga_G X ce sl K (pc + 1) lv (v :: v :: st) σ) : ga_G X ce sl K pc lv (v :: st) σ := by
  obtain ⟨p, l, e, R, s, m, args, below, meth, c, nL, D, cl, cI, cZ, A, Q, K0, ad0⟩ := X
  obtain ⟨⟨hx, hb, hml, hown, hts⟩, hK, hA, hlk, hcl, hnw, hR, hnm, hgD, hnL⟩ := C
  intro ad H locs ls hKK h0 hP hD hS hL hc hst
  exact lv_dup hx hb d (ga_v_cat ad v) (k ad H locs ls hKK h0 hP hD hS hL hc (ga_1 hst (ga_h hst)))
theorem ga_pop (C : ga_C X cc y Ts nw R0 gD nL0) {v : ga_V} (d : decode cc pc = .ok (.pop, 1)) (k : ga_G X ce sl K (pc + 1) lv st σ) : ga_G X ce sl K pc lv (v :: st) σ := by
  obtain ⟨p, l, e, R, s, m, args, below, meth, c, nL, D, cl, cI, cZ, A, Q, K0, ad0⟩ := X
  obtain ⟨⟨hx, hb, hml, hown, hts⟩, hK, hA, hlk, hcl, hnw, hR, hnm, hgD, hnL⟩ := C
  intro ad H locs ls hKK h0 hP hD hS hL hc hst
  exact lv_pop hx hb d (ga_v_cat ad v) (k ad H locs ls hKK h0 hP hD hS hL hc (ga_t hst))
theorem ga_dup_x1 (C : ga_C X cc y Ts nw R0 gD nL0) {v u : ga_V} (d : decode cc pc = .ok (.dup_x1, 1)) (k : ga_G X ce sl K (pc + 1) lv (v :: u :: v :: st) σ) : ga_G X ce sl K pc lv (v :: u :: st) σ := by
  obtain ⟨p, l, e, R, s, m, args, below, meth, c, nL, D, cl, cI, cZ, A, Q, K0, ad0⟩ := X
  obtain ⟨⟨hx, hb, hml, hown, hts⟩, hK, hA, hlk, hcl, hnw, hR, hnm, hgD, hnL⟩ := C
  intro ad H locs ls hKK h0 hP hD hS hL hc hst
  exact lv_dup_x1 hx hb d (ga_v_cat ad v) (ga_v_cat ad u) (k ad H locs ls hKK h0 hP hD hS hL hc (ga_1 (ga_1 (ga_1 (ga_t (ga_t hst)) (ga_h hst)) (ga_h (ga_t hst))) (ga_h hst)))
theorem ga_dup2 (C : ga_C X cc y Ts nw R0 gD nL0) {v u : ga_V} (d : decode cc pc = .ok (.dup2, 1)) (k : ga_G X ce sl K (pc + 1) lv (v :: u :: v :: u :: st) σ) : ga_G X ce sl K pc lv (v :: u :: st) σ := by
  obtain ⟨p, l, e, R, s, m, args, below, meth, c, nL, D, cl, cI, cZ, A, Q, K0, ad0⟩ := X
  obtain ⟨⟨hx, hb, hml, hown, hts⟩, hK, hA, hlk, hcl, hnw, hR, hnm, hgD, hnL⟩ := C
  intro ad H locs ls hKK h0 hP hD hS hL hc hst
  exact lv_dup2_11 hx hb d (ga_v_cat ad v) (ga_v_cat ad u) (k ad H locs ls hKK h0 hP hD hS hL hc (ga_1 (ga_1 hst (ga_h (ga_t hst))) (ga_h hst)))
theorem ga_icmp_eq (C : ga_C X cc y Ts nw R0 gD nL0) {x z : Int} {off : Int} {tgt : Nat} (d : decode cc pc = .ok (.if_icmp .eq off, 3)) (ht : (pc : Int) + off = (tgt : Int)) (kt : x = z → ga_G X ce sl K tgt lv st σ) (kf : ¬ x = z → ga_G X ce sl K (pc + 3) lv st σ) : ga_G X ce sl K pc lv (.inl z :: .inl x :: st) σ := by
  obtain ⟨p, l, e, R, s, m, args, below, meth, c, nL, D, cl, cI, cZ, A, Q, K0, ad0⟩ := X
  obtain ⟨⟨hx, hb, hml, hown, hts⟩, hK, hA, hlk, hcl, hnw, hR, hnm, hgD, hnL⟩ := C
  intro ad H locs ls hKK h0 hP hD hS hL hc hst
  have hz1 : ga_r z := ga_h hst
  have hx1 : ga_r x := ga_h (ga_t hst)
  exact lv_icmp_eq hx hb d ht (fun q => kt ((ga_eq hx1 hz1).mp q) ad H locs ls hKK h0 hP hD hS hL hc (ga_t (ga_t hst))) (fun q => kf (fun q2 => q ((ga_eq hx1 hz1).mpr q2)) ad H locs ls hKK h0 hP hD hS hL hc (ga_t (ga_t hst)))
theorem ga_if_eq (C : ga_C X cc y Ts nw R0 gD nL0) {x : Int} {off : Int} {tgt : Nat} (d : decode cc pc = .ok (.ifCond .eq off, 3)) (ht : (pc : Int) + off = (tgt : Int)) (kt : x = 0 → ga_G X ce sl K tgt lv st σ) (kf : ¬ x = 0 → ga_G X ce sl K (pc + 3) lv st σ) : ga_G X ce sl K pc lv (.inl x :: st) σ := by
  obtain ⟨p, l, e, R, s, m, args, below, meth, c, nL, D, cl, cI, cZ, A, Q, K0, ad0⟩ := X
  obtain ⟨⟨hx, hb, hml, hown, hts⟩, hK, hA, hlk, hcl, hnw, hR, hnm, hgD, hnL⟩ := C
  intro ad H locs ls hKK h0 hP hD hS hL hc hst
  have hx1 : ga_r x := ga_h hst
  have hz1 := ga_r0
  exact lv_if_eq hx hb d ht (fun q => kt ((ga_eq hx1 hz1).mp q) ad H locs ls hKK h0 hP hD hS hL hc (ga_t hst)) (fun q => kf (fun q2 => q ((ga_eq hx1 hz1).mpr q2)) ad H locs ls hKK h0 hP hD hS hL hc (ga_t hst))
theorem ga_icmp_ne (C : ga_C X cc y Ts nw R0 gD nL0) {x z : Int} {off : Int} {tgt : Nat} (d : decode cc pc = .ok (.if_icmp .ne off, 3)) (ht : (pc : Int) + off = (tgt : Int)) (kt : ¬ x = z → ga_G X ce sl K tgt lv st σ) (kf : x = z → ga_G X ce sl K (pc + 3) lv st σ) : ga_G X ce sl K pc lv (.inl z :: .inl x :: st) σ := by
  obtain ⟨p, l, e, R, s, m, args, below, meth, c, nL, D, cl, cI, cZ, A, Q, K0, ad0⟩ := X
  obtain ⟨⟨hx, hb, hml, hown, hts⟩, hK, hA, hlk, hcl, hnw, hR, hnm, hgD, hnL⟩ := C
  intro ad H locs ls hKK h0 hP hD hS hL hc hst
  have hz1 : ga_r z := ga_h hst
  have hx1 : ga_r x := ga_h (ga_t hst)
  exact lv_icmp_ne hx hb d ht (fun q => kt (fun q2 => q ((ga_eq hx1 hz1).mpr q2)) ad H locs ls hKK h0 hP hD hS hL hc (ga_t (ga_t hst))) (fun q => kf ((ga_eq hx1 hz1).mp q) ad H locs ls hKK h0 hP hD hS hL hc (ga_t (ga_t hst)))
theorem ga_if_ne (C : ga_C X cc y Ts nw R0 gD nL0) {x : Int} {off : Int} {tgt : Nat} (d : decode cc pc = .ok (.ifCond .ne off, 3)) (ht : (pc : Int) + off = (tgt : Int)) (kt : ¬ x = 0 → ga_G X ce sl K tgt lv st σ) (kf : x = 0 → ga_G X ce sl K (pc + 3) lv st σ) : ga_G X ce sl K pc lv (.inl x :: st) σ := by
  obtain ⟨p, l, e, R, s, m, args, below, meth, c, nL, D, cl, cI, cZ, A, Q, K0, ad0⟩ := X
  obtain ⟨⟨hx, hb, hml, hown, hts⟩, hK, hA, hlk, hcl, hnw, hR, hnm, hgD, hnL⟩ := C
  intro ad H locs ls hKK h0 hP hD hS hL hc hst
  have hx1 : ga_r x := ga_h hst
  have hz1 := ga_r0
  exact lv_if_ne hx hb d ht (fun q => kt (fun q2 => q ((ga_eq hx1 hz1).mpr q2)) ad H locs ls hKK h0 hP hD hS hL hc (ga_t hst)) (fun q => kf ((ga_eq hx1 hz1).mp q) ad H locs ls hKK h0 hP hD hS hL hc (ga_t hst))
theorem ga_icmp_lt (C : ga_C X cc y Ts nw R0 gD nL0) {x z : Int} {off : Int} {tgt : Nat} (d : decode cc pc = .ok (.if_icmp .lt off, 3)) (ht : (pc : Int) + off = (tgt : Int)) (kt : x < z → ga_G X ce sl K tgt lv st σ) (kf : ¬ (x < z) → ga_G X ce sl K (pc + 3) lv st σ) : ga_G X ce sl K pc lv (.inl z :: .inl x :: st) σ := by
  obtain ⟨p, l, e, R, s, m, args, below, meth, c, nL, D, cl, cI, cZ, A, Q, K0, ad0⟩ := X
  obtain ⟨⟨hx, hb, hml, hown, hts⟩, hK, hA, hlk, hcl, hnw, hR, hnm, hgD, hnL⟩ := C
  intro ad H locs ls hKK h0 hP hD hS hL hc hst
  have hz1 : ga_r z := ga_h hst
  have hx1 : ga_r x := ga_h (ga_t hst)
  exact lv_icmp_lt hx hb d ht (fun q => kt ((ga_lt hx1 hz1).mp q) ad H locs ls hKK h0 hP hD hS hL hc (ga_t (ga_t hst))) (fun q => kf (fun q2 => q ((ga_lt hx1 hz1).mpr q2)) ad H locs ls hKK h0 hP hD hS hL hc (ga_t (ga_t hst)))
theorem ga_if_lt (C : ga_C X cc y Ts nw R0 gD nL0) {x : Int} {off : Int} {tgt : Nat} (d : decode cc pc = .ok (.ifCond .lt off, 3)) (ht : (pc : Int) + off = (tgt : Int)) (kt : x < 0 → ga_G X ce sl K tgt lv st σ) (kf : ¬ (x < 0) → ga_G X ce sl K (pc + 3) lv st σ) : ga_G X ce sl K pc lv (.inl x :: st) σ := by
  obtain ⟨p, l, e, R, s, m, args, below, meth, c, nL, D, cl, cI, cZ, A, Q, K0, ad0⟩ := X
  obtain ⟨⟨hx, hb, hml, hown, hts⟩, hK, hA, hlk, hcl, hnw, hR, hnm, hgD, hnL⟩ := C
  intro ad H locs ls hKK h0 hP hD hS hL hc hst
  have hx1 : ga_r x := ga_h hst
  have hz1 := ga_r0
  exact lv_if_lt hx hb d ht (fun q => kt ((ga_lt hx1 hz1).mp q) ad H locs ls hKK h0 hP hD hS hL hc (ga_t hst)) (fun q => kf (fun q2 => q ((ga_lt hx1 hz1).mpr q2)) ad H locs ls hKK h0 hP hD hS hL hc (ga_t hst))
theorem ga_icmp_ge (C : ga_C X cc y Ts nw R0 gD nL0) {x z : Int} {off : Int} {tgt : Nat} (d : decode cc pc = .ok (.if_icmp .ge off, 3)) (ht : (pc : Int) + off = (tgt : Int)) (kt : z ≤ x → ga_G X ce sl K tgt lv st σ) (kf : ¬ (z ≤ x) → ga_G X ce sl K (pc + 3) lv st σ) : ga_G X ce sl K pc lv (.inl z :: .inl x :: st) σ := by
  obtain ⟨p, l, e, R, s, m, args, below, meth, c, nL, D, cl, cI, cZ, A, Q, K0, ad0⟩ := X
  obtain ⟨⟨hx, hb, hml, hown, hts⟩, hK, hA, hlk, hcl, hnw, hR, hnm, hgD, hnL⟩ := C
  intro ad H locs ls hKK h0 hP hD hS hL hc hst
  have hz1 : ga_r z := ga_h hst
  have hx1 : ga_r x := ga_h (ga_t hst)
  exact lv_icmp_ge hx hb d ht (fun q => kt ((ga_le hz1 hx1).mp q) ad H locs ls hKK h0 hP hD hS hL hc (ga_t (ga_t hst))) (fun q => kf (fun q2 => q ((ga_le hz1 hx1).mpr q2)) ad H locs ls hKK h0 hP hD hS hL hc (ga_t (ga_t hst)))
theorem ga_if_ge (C : ga_C X cc y Ts nw R0 gD nL0) {x : Int} {off : Int} {tgt : Nat} (d : decode cc pc = .ok (.ifCond .ge off, 3)) (ht : (pc : Int) + off = (tgt : Int)) (kt : 0 ≤ x → ga_G X ce sl K tgt lv st σ) (kf : ¬ (0 ≤ x) → ga_G X ce sl K (pc + 3) lv st σ) : ga_G X ce sl K pc lv (.inl x :: st) σ := by
  obtain ⟨p, l, e, R, s, m, args, below, meth, c, nL, D, cl, cI, cZ, A, Q, K0, ad0⟩ := X
  obtain ⟨⟨hx, hb, hml, hown, hts⟩, hK, hA, hlk, hcl, hnw, hR, hnm, hgD, hnL⟩ := C
  intro ad H locs ls hKK h0 hP hD hS hL hc hst
  have hx1 : ga_r x := ga_h hst
  have hz1 := ga_r0
  exact lv_if_ge hx hb d ht (fun q => kt ((ga_le hz1 hx1).mp q) ad H locs ls hKK h0 hP hD hS hL hc (ga_t hst)) (fun q => kf (fun q2 => q ((ga_le hz1 hx1).mpr q2)) ad H locs ls hKK h0 hP hD hS hL hc (ga_t hst))
theorem ga_icmp_gt (C : ga_C X cc y Ts nw R0 gD nL0) {x z : Int} {off : Int} {tgt : Nat} (d : decode cc pc = .ok (.if_icmp .gt off, 3)) (ht : (pc : Int) + off = (tgt : Int)) (kt : z < x → ga_G X ce sl K tgt lv st σ) (kf : ¬ (z < x) → ga_G X ce sl K (pc + 3) lv st σ) : ga_G X ce sl K pc lv (.inl z :: .inl x :: st) σ := by
  obtain ⟨p, l, e, R, s, m, args, below, meth, c, nL, D, cl, cI, cZ, A, Q, K0, ad0⟩ := X
  obtain ⟨⟨hx, hb, hml, hown, hts⟩, hK, hA, hlk, hcl, hnw, hR, hnm, hgD, hnL⟩ := C
  intro ad H locs ls hKK h0 hP hD hS hL hc hst
  have hz1 : ga_r z := ga_h hst
  have hx1 : ga_r x := ga_h (ga_t hst)
  exact lv_icmp_gt hx hb d ht (fun q => kt ((ga_lt hz1 hx1).mp q) ad H locs ls hKK h0 hP hD hS hL hc (ga_t (ga_t hst))) (fun q => kf (fun q2 => q ((ga_lt hz1 hx1).mpr q2)) ad H locs ls hKK h0 hP hD hS hL hc (ga_t (ga_t hst)))
theorem ga_if_gt (C : ga_C X cc y Ts nw R0 gD nL0) {x : Int} {off : Int} {tgt : Nat} (d : decode cc pc = .ok (.ifCond .gt off, 3)) (ht : (pc : Int) + off = (tgt : Int)) (kt : 0 < x → ga_G X ce sl K tgt lv st σ) (kf : ¬ (0 < x) → ga_G X ce sl K (pc + 3) lv st σ) : ga_G X ce sl K pc lv (.inl x :: st) σ := by
  obtain ⟨p, l, e, R, s, m, args, below, meth, c, nL, D, cl, cI, cZ, A, Q, K0, ad0⟩ := X
  obtain ⟨⟨hx, hb, hml, hown, hts⟩, hK, hA, hlk, hcl, hnw, hR, hnm, hgD, hnL⟩ := C
  intro ad H locs ls hKK h0 hP hD hS hL hc hst
  have hx1 : ga_r x := ga_h hst
  have hz1 := ga_r0
  exact lv_if_gt hx hb d ht (fun q => kt ((ga_lt hz1 hx1).mp q) ad H locs ls hKK h0 hP hD hS hL hc (ga_t hst)) (fun q => kf (fun q2 => q ((ga_lt hz1 hx1).mpr q2)) ad H locs ls hKK h0 hP hD hS hL hc (ga_t hst))
theorem ga_icmp_le (C : ga_C X cc y Ts nw R0 gD nL0) {x z : Int} {off : Int} {tgt : Nat} (d : decode cc pc = .ok (.if_icmp .le off, 3)) (ht : (pc : Int) + off = (tgt : Int)) (kt : x ≤ z → ga_G X ce sl K tgt lv st σ) (kf : ¬ (x ≤ z) → ga_G X ce sl K (pc + 3) lv st σ) : ga_G X ce sl K pc lv (.inl z :: .inl x :: st) σ := by
  obtain ⟨p, l, e, R, s, m, args, below, meth, c, nL, D, cl, cI, cZ, A, Q, K0, ad0⟩ := X
  obtain ⟨⟨hx, hb, hml, hown, hts⟩, hK, hA, hlk, hcl, hnw, hR, hnm, hgD, hnL⟩ := C
  intro ad H locs ls hKK h0 hP hD hS hL hc hst
  have hz1 : ga_r z := ga_h hst
  have hx1 : ga_r x := ga_h (ga_t hst)
  exact lv_icmp_le hx hb d ht (fun q => kt ((ga_le hx1 hz1).mp q) ad H locs ls hKK h0 hP hD hS hL hc (ga_t (ga_t hst))) (fun q => kf (fun q2 => q ((ga_le hx1 hz1).mpr q2)) ad H locs ls hKK h0 hP hD hS hL hc (ga_t (ga_t hst)))
theorem ga_if_le (C : ga_C X cc y Ts nw R0 gD nL0) {x : Int} {off : Int} {tgt : Nat} (d : decode cc pc = .ok (.ifCond .le off, 3)) (ht : (pc : Int) + off = (tgt : Int)) (kt : x ≤ 0 → ga_G X ce sl K tgt lv st σ) (kf : ¬ (x ≤ 0) → ga_G X ce sl K (pc + 3) lv st σ) : ga_G X ce sl K pc lv (.inl x :: st) σ := by
  obtain ⟨p, l, e, R, s, m, args, below, meth, c, nL, D, cl, cI, cZ, A, Q, K0, ad0⟩ := X
  obtain ⟨⟨hx, hb, hml, hown, hts⟩, hK, hA, hlk, hcl, hnw, hR, hnm, hgD, hnL⟩ := C
  intro ad H locs ls hKK h0 hP hD hS hL hc hst
  have hx1 : ga_r x := ga_h hst
  have hz1 := ga_r0
  exact lv_if_le hx hb d ht (fun q => kt ((ga_le hx1 hz1).mp q) ad H locs ls hKK h0 hP hD hS hL hc (ga_t hst)) (fun q => kf (fun q2 => q ((ga_le hx1 hz1).mpr q2)) ad H locs ls hKK h0 hP hD hS hL hc (ga_t hst))
theorem ga_goto (C : ga_C X cc y Ts nw R0 gD nL0) {off : Int} {tgt : Nat} (d : decode cc pc = .ok (.goto off, 3)) (ht : (pc : Int) + off = (tgt : Int)) (k : ga_G X ce sl K tgt lv st σ) : ga_G X ce sl K pc lv (st) σ := by
  obtain ⟨p, l, e, R, s, m, args, below, meth, c, nL, D, cl, cI, cZ, A, Q, K0, ad0⟩ := X
  obtain ⟨⟨hx, hb, hml, hown, hts⟩, hK, hA, hlk, hcl, hnw, hR, hnm, hgD, hnL⟩ := C
  intro ad H locs ls hKK h0 hP hD hS hL hc hst
  exact lv_goto hx hb d ht (k ad H locs ls hKK h0 hP hD hS hL hc hst)
theorem ga_tabOut (C : ga_C X cc y Ts nw R0 gD nL0) {dflt lo hi : Int} {offs : Array Int} {len : Nat} {x : Int} {tgt : Nat} (d : decode cc pc = .ok (.tableswitch dflt lo hi offs, len)) (h : x < lo ∨ hi < x) (ht : (pc : Int) + dflt = (tgt : Int)) (k : ga_G X ce sl K tgt lv st σ) : ga_G X ce sl K pc lv (.inl x :: st) σ := by
  obtain ⟨p, l, e, R, s, m, args, below, meth, c, nL, D, cl, cI, cZ, A, Q, K0, ad0⟩ := X
  obtain ⟨⟨hx, hb, hml, hown, hts⟩, hK, hA, hlk, hcl, hnw, hR, hnm, hgD, hnL⟩ := C
  intro ad H locs ls hKK h0 hP hD hS hL hc hst
  have hx1 : ga_r x := ga_h hst
  exact lv_tableOut hx hb d (by rw [ga_of hx1]; exact h) ht (k ad H locs ls hKK h0 hP hD hS hL hc (ga_t hst))
theorem ga_tabIn (C : ga_C X cc y Ts nw R0 gD nL0) {dflt lo hi : Int} {offs : Array Int} {len : Nat} {x off : Int} {tgt : Nat} (d : decode cc pc = .ok (.tableswitch dflt lo hi offs, len)) (h1 : ¬ x < lo) (h2 : ¬ hi < x) (ho : offs[(x - lo).toNat]? = some off) (ht : (pc : Int) + off = (tgt : Int)) (k : ga_G X ce sl K tgt lv st σ) : ga_G X ce sl K pc lv (.inl x :: st) σ := by
  obtain ⟨p, l, e, R, s, m, args, below, meth, c, nL, D, cl, cI, cZ, A, Q, K0, ad0⟩ := X
  obtain ⟨⟨hx, hb, hml, hown, hts⟩, hK, hA, hlk, hcl, hnw, hR, hnm, hgD, hnL⟩ := C
  intro ad H locs ls hKK h0 hP hD hS hL hc hst
  have hx1 : ga_r x := ga_h hst
  exact lv_tableIn hx hb d (by rw [ga_of hx1]; exact h1) (by rw [ga_of hx1]; exact h2) (by rw [ga_of hx1]; exact ho) ht (k ad H locs ls hKK h0 hP hD hS hL hc (ga_t hst))
theorem ga_at {K a : Nat} {σ : ga_S} (hc : ga_cS K σ) (h : σ a ≠ ga_no) : ∃ b, a = b + 1 ∧ b < K := by
  rcases Nat.eq_zero_or_pos a with h1 | h1
  · exact absurd (hc.2 a (Or.inl h1)) h
  · rcases Nat.lt_or_ge K a with h2 | h2
    · exact absurd (hc.2 a (Or.inr h2)) h
    · exact ⟨a - 1, by omega, by omega⟩
theorem ga_obj {cl : List vw_C} {ci : Nat} {fs : List ga_V} {q : vw_C} (hcl : cl.length ≤ 1000000) (hci : cl[ci]? = some q) : (Sum.inr (ci, fs) : ga_E) ≠ ga_no := by
  intro h
  unfold ga_no at h
  have h2 := congrArg Prod.fst (Sum.inr.inj h)
  have h3 := (List.getElem?_eq_some_iff.mp hci).1
  simp only at h2
  omega
theorem ga_arr {a : Bool × Nat × (Nat → Int)} : (Sum.inl a : ga_E) ≠ ga_no := by intro h; cases h
theorem ga_cS.set {K a : Nat} {σ : ga_S} {x : ga_E} (h : ga_cS K σ) (h1 : 1 ≤ a) (h2 : a ≤ K) (hx : ga_cE K x) : ga_cS K (va_up σ a x) := by
  refine ⟨fun k => ?_, fun k hk => ?_⟩
  · unfold va_up
    split
    · exact hx
    · exact h.1 k
  · unfold va_up
    rw [if_neg (by omega)]
    exact h.2 k hk
theorem ga_get (C : ga_C X cc y Ts nw R0 gD nL0) {Cn : String} {T : u_T} {N ci i a j : Nat} {fs : List ga_V} {v : ga_V} (hin : ∀ w ∈ u_ws Cn T N, w ∈ Ts) (hσ : σ a = .inr (ci, fs)) (hc1 : gD.2.1[ci]? = some (Cn, T, N)) (hj : j < N) (hl : Cond.fieldLink y.cls i (T j).1 (T j).2.1 (T j).2.2.1 ∈ Ts) (hv : fs[j]? = some v) (d : decode cc pc = .ok (.getfield i, 3)) (k : ga_G X ce sl K (pc + 3) lv (v :: st) σ) : ga_G X ce sl K pc lv (.inr a :: st) σ := by
  obtain ⟨p, l, e, R, s, m, args, below, meth, c, nL, D, cl, cI, cZ, A, Q, K0, ad0⟩ := X
  obtain ⟨⟨hx, hb, hml, hown, hts⟩, hK, hA, hlk, hcl, hnw, hR, hnm, hgD, hnL⟩ := C
  intro ad H locs ls hKK h0 hP hD hS hL hc hst
  subst hgD
  obtain ⟨b, rfl, hbK⟩ := ga_at hc (by rw [hσ]; exact ga_obj hcl hc1)
  have hw := ga_w_get ad cI cZ σ hbK
  rw [hσ] at hw
  have hcv : ga_cV K v := by
    have := hc.1 (b + 1)
    rw [hσ] at this
    exact this v (List.mem_of_getElem? hv)
  exact va_get hx hb hts hin hown hK hP b hw hc1 j hj (hts _ hl) (fun _ h => h) (v := ga_v ad v) (by rw [List.getElem?_map, hv]; rfl) d (k ad H locs ls hKK h0 hP hD hS hL hc (ga_1 (ga_t hst) hcv))
theorem ga_put (C : ga_C X cc y Ts nw R0 gD nL0) {Cn : String} {T : u_T} {N ci i a j : Nat} {fs : List ga_V} {v : ga_V} {ty : FieldType} (hin : ∀ w ∈ u_ws Cn T N, w ∈ Ts) (ty0 : Nat → FieldType) (hty : ∀ k, k < N → parseFieldDescriptor (T k).2.2.1 = some (ty0 k)) (hnmT : ∀ a, a < N → ∀ b, b < N → a ≠ b → (T a).2.1 ≠ (T b).2.1) (hσ : σ a = .inr (ci, fs)) (hc1 : gD.2.1[ci]? = some (Cn, T, N)) (hj : j < N) (hl : Cond.fieldLink y.cls i (T j).1 (T j).2.1 (T j).2.2.1 ∈ Ts) (hfin : (T j).2.2.2 = false) (hd : parseFieldDescriptor (T j).2.2.1 = some ty) (hnf : ∀ ad, narrow ty (ga_v ad v) = ga_v ad v ∧ fits ty (ga_v ad v) = true) (hlen : j < fs.length) (d : decode cc pc = .ok (.putfield i, 3)) (k : ga_G X ce sl K (pc + 3) lv st (va_up σ a (.inr (ci, fs.set j v)))) : ga_G X ce sl K pc lv (v :: .inr a :: st) σ := by
  obtain ⟨p, l, e, R, s, m, args, below, meth, c, nL, D, cl, cI, cZ, A, Q, K0, ad0⟩ := X
  obtain ⟨⟨hx, hb, hml, hown, hts⟩, hK, hA, hlk, hcl, hnw, hR, hnm, hgD, hnL⟩ := C
  intro ad H locs ls hKK h0 hP hD hS hL hc hst
  subst hgD
  obtain ⟨b, rfl, hbK⟩ := ga_at hc (by rw [hσ]; exact ga_obj hcl hc1)
  have hw := ga_w_get ad cI cZ σ hbK
  rw [hσ] at hw
  have hcE : ga_cE K (.inr (ci, fs.set j v)) := by
    have := hc.1 (b + 1)
    rw [hσ] at this
    intro u hu
    rcases List.mem_or_eq_of_mem_set hu with h | h
    · exact this u h
    · rw [h]; exact ga_h hst
  refine va_put hx hb hts hin ty0 hty hnmT hown hK hP hD hS b hw hc1 j hj (hts _ hl) (fun _ h => h) hfin (v := ga_v ad v) hd (hnf ad).1 (hnf ad).2 (by rw [List.length_map]; exact hlen) d (fun H1 locs1 hP1 hD1 hS1 => ?_)
  have he : (ad (b + 1), Sum.inr (ci, (fs.map (ga_v ad)).set j (ga_v ad v))) = (ad (b + 1), ga_e ad cI cZ (.inr (ci, fs.set j v))) := by
    show _ = (ad (b + 1), Sum.inr (ci, (fs.set j v).map (ga_v ad)))
    rw [List.map_set]
  rw [he, ga_w_set] at hP1 hD1
  exact k ad H1 locs1 ls hKK h0 hP1 hD1 hS1 hL (hc.set (by omega) (by omega) hcE) (ga_t (ga_t hst))
theorem ga_putF (C : ga_C X cc y Ts nw R0 gD nL0) {Cn : String} {T : u_T} {N ci i a j : Nat} {fs : List ga_V} {v : ga_V} {ty : FieldType} (hin : ∀ w ∈ u_ws Cn T N, w ∈ Ts) (ty0 : Nat → FieldType) (hty : ∀ k, k < N → parseFieldDescriptor (T k).2.2.1 = some (ty0 k)) (hnmT : ∀ a, a < N → ∀ b, b < N → a ≠ b → (T a).2.1 ≠ (T b).2.1) (hσ : σ a = .inr (ci, fs)) (hc1 : gD.2.1[ci]? = some (Cn, T, N)) (hj : j < N) (hl : Cond.fieldLink y.cls i (T j).1 (T j).2.1 (T j).2.2.1 ∈ Ts) (hfin : (T j).2.2.2 = true) (hin2 : y.name = "<init>") (hdecl : (T j).1 = y.cls) (hd : parseFieldDescriptor (T j).2.2.1 = some ty) (hnf : ∀ ad, narrow ty (ga_v ad v) = ga_v ad v ∧ fits ty (ga_v ad v) = true) (hlen : j < fs.length) (d : decode cc pc = .ok (.putfield i, 3)) (k : ga_G X ce sl K (pc + 3) lv st (va_up σ a (.inr (ci, fs.set j v)))) : ga_G X ce sl K pc lv (v :: .inr a :: st) σ := by
  obtain ⟨p, l, e, R, s, m, args, below, meth, c, nL, D, cl, cI, cZ, A, Q, K0, ad0⟩ := X
  obtain ⟨⟨hx, hb, hml, hown, hts⟩, hK, hA, hlk, hcl, hnw, hR, hnm, hgD, hnL⟩ := C
  intro ad H locs ls hKK h0 hP hD hS hL hc hst
  subst hgD
  obtain ⟨b, rfl, hbK⟩ := ga_at hc (by rw [hσ]; exact ga_obj hcl hc1)
  have hw := ga_w_get ad cI cZ σ hbK
  rw [hσ] at hw
  have hcE : ga_cE K (.inr (ci, fs.set j v)) := by
    have := hc.1 (b + 1)
    rw [hσ] at this
    intro u hu
    rcases List.mem_or_eq_of_mem_set hu with h | h
    · exact this u h
    · rw [h]; exact ga_h hst
  refine va_putF hx hb hts hin ty0 hty hnmT hown hK hP hD hS b hw hc1 j hj (hts _ hl) (fun _ h => h) hfin (hnm.trans hin2) hdecl (v := ga_v ad v) hd (hnf ad).1 (hnf ad).2 (by rw [List.length_map]; exact hlen) d (fun H1 locs1 hP1 hD1 hS1 => ?_)
  have he : (ad (b + 1), Sum.inr (ci, (fs.map (ga_v ad)).set j (ga_v ad v))) = (ad (b + 1), ga_e ad cI cZ (.inr (ci, fs.set j v))) := by
    show _ = (ad (b + 1), Sum.inr (ci, (fs.set j v).map (ga_v ad)))
    rw [List.map_set]
  rw [he, ga_w_set] at hP1 hD1
  exact k ad H1 locs1 ls hKK h0 hP1 hD1 hS1 hL (hc.set (by omega) (by omega) hcE) (ga_t (ga_t hst))
theorem ga_iald (C : ga_C X cc y Ts nw R0 gD nL0) {a n : Nat} {f : Nat → Int} {i : Int} (hσ : σ a = .inl (false, n, f)) (h1 : 0 ≤ i) (h2 : i < n) (d : decode cc pc = .ok (.iaload, 1)) (k : ga_G X ce sl K (pc + 1) lv (.inl (f i.toNat) :: st) σ) : ga_G X ce sl K pc lv (.inl i :: .inr a :: st) σ := by
  obtain ⟨p, l, e, R, s, m, args, below, meth, c, nL, D, cl, cI, cZ, A, Q, K0, ad0⟩ := X
  obtain ⟨⟨hx, hb, hml, hown, hts⟩, hK, hA, hlk, hcl, hnw, hR, hnm, hgD, hnL⟩ := C
  intro ad H locs ls hKK h0 hP hD hS hL hc hst
  obtain ⟨b, rfl, hbK⟩ := ga_at hc (by rw [hσ]; exact ga_arr)
  have hw := ga_w_get ad cI cZ σ hbK
  rw [hσ] at hw
  have hri : ga_r i := ga_h hst
  have hcv : ga_r (f i.toNat) := by
    have := hc.1 (b + 1)
    rw [hσ] at this
    exact this i.toNat (by show i.toNat < n; omega)
  refine va_iald hx hb hK hP b 0 hw rfl (ga_in hri h1 h2) d ?_
  rw [ga_cl hri]
  exact k ad H locs ls hKK h0 hP hD hS hL hc (ga_1 (ga_t (ga_t hst)) hcv)
theorem ga_zald (C : ga_C X cc y Ts nw R0 gD nL0) {a n : Nat} {f : Nat → Int} {i : Int} (hσ : σ a = .inl (true, n, f)) (h1 : 0 ≤ i) (h2 : i < n) (d : decode cc pc = .ok (.baload, 1)) (k : ga_G X ce sl K (pc + 1) lv (.inl (f i.toNat) :: st) σ) : ga_G X ce sl K pc lv (.inl i :: .inr a :: st) σ := by
  obtain ⟨p, l, e, R, s, m, args, below, meth, c, nL, D, cl, cI, cZ, A, Q, K0, ad0⟩ := X
  obtain ⟨⟨hx, hb, hml, hown, hts⟩, hK, hA, hlk, hcl, hnw, hR, hnm, hgD, hnL⟩ := C
  intro ad H locs ls hKK h0 hP hD hS hL hc hst
  obtain ⟨b, rfl, hbK⟩ := ga_at hc (by rw [hσ]; exact ga_arr)
  have hw := ga_w_get ad cI cZ σ hbK
  rw [hσ] at hw
  have hri : ga_r i := ga_h hst
  have hcv : ga_r (f i.toNat) := by
    have := hc.1 (b + 1)
    rw [hσ] at this
    exact this i.toNat (by show i.toNat < n; omega)
  refine va_zald hx hb hK hP b 1 hw rfl (ga_in hri h1 h2) d ?_
  rw [ga_cl hri]
  exact k ad H locs ls hKK h0 hP hD hS hL hc (ga_1 (ga_t (ga_t hst)) hcv)
theorem ga_iast (C : ga_C X cc y Ts nw R0 gD nL0) {a n : Nat} {f : Nat → Int} {i x : Int} (hσ : σ a = .inl (false, n, f)) (h1 : 0 ≤ i) (h2 : i < n) (d : decode cc pc = .ok (.iastore, 1)) (k : ga_G X ce sl K (pc + 1) lv st (va_up σ a (.inl (false, n, va_up f i.toNat x)))) : ga_G X ce sl K pc lv (.inl x :: .inl i :: .inr a :: st) σ := by
  obtain ⟨p, l, e, R, s, m, args, below, meth, c, nL, D, cl, cI, cZ, A, Q, K0, ad0⟩ := X
  obtain ⟨⟨hx, hb, hml, hown, hts⟩, hK, hA, hlk, hcl, hnw, hR, hnm, hgD, hnL⟩ := C
  intro ad H locs ls hKK h0 hP hD hS hL hc hst
  obtain ⟨b, rfl, hbK⟩ := ga_at hc (by rw [hσ]; exact ga_arr)
  have hw := ga_w_get ad cI cZ σ hbK
  rw [hσ] at hw
  have hrx : ga_r x := ga_h hst
  have hri : ga_r i := ga_h (ga_t hst)
  have hcE : ga_cE K (.inl (false, n, va_up f i.toNat x)) := by
    have := hc.1 (b + 1)
    rw [hσ] at this
    intro j hj
    show ga_r (va_up f i.toNat x j)
    unfold va_up
    split
    · exact hrx
    · exact this j hj
  refine va_iast hx hb hK hP hD hS b 0 hw rfl (ga_in hri h1 h2) d (fun H1 locs1 hP1 hD1 hS1 => ?_)
  rw [ga_cl hri, ga_upd] at hP1 hD1
  have he : ∀ g : Nat → Int, ((ad (b + 1), Sum.inl (if false = true then cZ else cI, n, Sum.inl (fun j => Int32.ofInt (g j)))) : Nat × va_E) = (ad (b + 1), ga_e ad cI cZ (.inl (false, n, g))) := fun g => rfl
  have hP2 : va_P D cl ((ga_w ad cI cZ K σ).set b (ad (b + 1), ga_e ad cI cZ (.inl (false, n, va_up f i.toNat x)))) H1 := hP1
  have hD2 : va_D A ((ga_w ad cI cZ K σ).set b (ad (b + 1), ga_e ad cI cZ (.inl (false, n, va_up f i.toNat x)))) := hD1
  rw [ga_w_set] at hP2 hD2
  exact k ad H1 locs1 ls hKK h0 hP2 hD2 hS1 hL (hc.set (by omega) (by omega) hcE) (ga_t (ga_t (ga_t hst)))
theorem ga_zast (C : ga_C X cc y Ts nw R0 gD nL0) {a n : Nat} {f : Nat → Int} {i x : Int} (hσ : σ a = .inl (true, n, f)) (h1 : 0 ≤ i) (h2 : i < n) (hz : x = 0 ∨ x = 1) (d : decode cc pc = .ok (.bastore, 1)) (k : ga_G X ce sl K (pc + 1) lv st (va_up σ a (.inl (true, n, va_up f i.toNat x)))) : ga_G X ce sl K pc lv (.inl x :: .inl i :: .inr a :: st) σ := by
  obtain ⟨p, l, e, R, s, m, args, below, meth, c, nL, D, cl, cI, cZ, A, Q, K0, ad0⟩ := X
  obtain ⟨⟨hx, hb, hml, hown, hts⟩, hK, hA, hlk, hcl, hnw, hR, hnm, hgD, hnL⟩ := C
  intro ad H locs ls hKK h0 hP hD hS hL hc hst
  obtain ⟨b, rfl, hbK⟩ := ga_at hc (by rw [hσ]; exact ga_arr)
  have hw := ga_w_get ad cI cZ σ hbK
  rw [hσ] at hw
  have hrx : ga_r x := ga_h hst
  have hri : ga_r i := ga_h (ga_t hst)
  have hcE : ga_cE K (.inl (true, n, va_up f i.toNat x)) := by
    have := hc.1 (b + 1)
    rw [hσ] at this
    intro j hj
    show ga_r (va_up f i.toNat x j)
    unfold va_up
    split
    · exact hrx
    · exact this j hj
  refine va_zast hx hb hK hP hD hS b 1 hw rfl (ga_in hri h1 h2) d (fun H1 locs1 hP1 hD1 hS1 => ?_)
  have hnar : vp_nar .boolean (Int32.ofInt x) = Int32.ofInt x := by rcases hz with rfl | rfl <;> rfl
  rw [hnar] at hP1 hD1
  rw [ga_cl hri, ga_upd] at hP1 hD1
  have he : ∀ g : Nat → Int, ((ad (b + 1), Sum.inl (if true = true then cZ else cI, n, Sum.inl (fun j => Int32.ofInt (g j)))) : Nat × va_E) = (ad (b + 1), ga_e ad cI cZ (.inl (true, n, g))) := fun g => rfl
  have hP2 : va_P D cl ((ga_w ad cI cZ K σ).set b (ad (b + 1), ga_e ad cI cZ (.inl (true, n, va_up f i.toNat x)))) H1 := hP1
  have hD2 : va_D A ((ga_w ad cI cZ K σ).set b (ad (b + 1), ga_e ad cI cZ (.inl (true, n, va_up f i.toNat x)))) := hD1
  rw [ga_w_set] at hP2 hD2
  exact k ad H1 locs1 ls hKK h0 hP2 hD2 hS1 hL (hc.set (by omega) (by omega) hcE) (ga_t (ga_t (ga_t hst)))
theorem ga_alen (C : ga_C X cc y Ts nw R0 gD nL0) {a n : Nat} {f : Nat → Int} {b : Bool} (hσ : σ a = .inl (b, n, f)) (hn : n < 2147483648) (d : decode cc pc = .ok (.arraylength, 1)) (k : ga_G X ce sl K (pc + 1) lv (.inl (n : Int) :: st) σ) : ga_G X ce sl K pc lv (.inr a :: st) σ := by
  obtain ⟨p, l, e, R, s, m, args, below, meth, c, nL, D, cl, cI, cZ, A, Q, K0, ad0⟩ := X
  obtain ⟨⟨hx, hb, hml, hown, hts⟩, hK, hA, hlk, hcl, hnw, hR, hnm, hgD, hnL⟩ := C
  intro ad H locs ls hKK h0 hP hD hS hL hc hst
  obtain ⟨q, rfl, hbK⟩ := ga_at hc (by rw [hσ]; exact ga_arr)
  have hw := ga_w_get ad cI cZ σ hbK
  rw [hσ] at hw
  have hrn : ga_r (n : Int) := ⟨by omega, by omega⟩
  cases b with
  | false => exact va_alen hx hb hK hP q 0 hw rfl (v := Int32.ofInt n) (Int32.ofInt_eq_ofNat).symm d (k ad H locs ls hKK h0 hP hD hS hL hc (ga_1 (ga_t hst) hrn))
  | true => exact va_alen hx hb hK hP q 1 hw rfl (v := Int32.ofInt n) (Int32.ofInt_eq_ofNat).symm d (k ad H locs ls hKK h0 hP hD hS hL hc (ga_1 (ga_t hst) hrn))
end GA
def ga_Q (gD : va_G × List vw_C × ClassId × ClassId) (K mc : Nat) (ad : Nat → Nat) (σ : ga_S) (sz : Nat) (Post : ga_S → Option ga_V → Prop) : Array Value → State → Outcome → State → Prop := fun _ st oc t =>
  (∃ (ad' : Nat → Nat) (σ' : ga_S) (r : Option ga_V), oc = .returned (r.map (ga_v ad')) ∧ (∀ v, r = some v → ga_cV (K + mc) v) ∧ Post σ' r ∧ (∀ k, k ≤ K → ad' k = ad k) ∧ va_P gD.1 gD.2.1 (ga_w ad' gD.2.2.1 gD.2.2.2 (K + mc) σ') t.heap ∧ va_D (va_A (ga_w ad gD.2.2.1 gD.2.2.2 K σ) sz) (ga_w ad' gD.2.2.1 gD.2.2.2 (K + mc) σ') ∧ ga_cS (K + mc) σ') ∧ va_F (va_A (ga_w ad gD.2.2.1 gD.2.2.2 K σ) sz) st t
def ga_P (gD : va_G × List vw_C × ClassId × ClassId) (nw : ga_N) (K : Nat) (ad : Nat → Nat) (σ : ga_S) (sz : Nat) (As : List ga_V) : Array Value → State → Prop :=
  va_Pc (As.map (ga_v ad)) (fun U => U.heap.size = sz ∧ va_P gD.1 gD.2.1 (ga_w ad gD.2.2.1 gD.2.2.2 K σ) U.heap ∧ va_K gD.1 gD.2.1 (ga_tys gD.2.2.1 gD.2.2.2) U ∧ va_D (fun _ => True) (ga_w ad gD.2.2.1 gD.2.2.2 K σ) ∧ ga_cS K σ ∧ (∀ v ∈ As, ga_cV K v) ∧ ga_nws nw U)
/-- from this store, with these arguments, the method returns, and the store and the answer behind it have Post; mc cells of ms slots are new -/
def ga_Ev (l : Launch) (gD : va_G × List vw_C × ClassId × ClassId) (y : MethodName) (ws : List Cond) (rm : Room) (nw : ga_N) (mc ms K : Nat) (As : List ga_V) (σ : ga_S) (Post : ga_S → Option ga_V → Prop) : Prop :=
  ∀ (ad : Nat → Nat) (sz : Nat), Met l y ws rm (ga_P gD nw K ad σ sz As) (ga_Q gD K mc ad σ sz Post) mc ms (va_A (ga_w ad gD.2.2.1 gD.2.2.2 K σ) sz)
def ga_lv (As : List ga_V) : Nat → Option ga_V := fun i => As[i]?
theorem ga_args (vs : List Value) : (∀ v ∈ vs, v.category = 1) → ∀ (j i : Nat) (v : Value), vs[i]? = some v → (j + i, v) ∈ lv_args j vs := by
  induction vs with
  | nil => intro _ j i v h; simp at h
  | cons a vs ih =>
    intro hc j i v h
    have ha : a.category = 1 := hc a List.mem_cons_self
    simp only [lv_args, ha]
    cases i with
    | zero => simp at h; subst h; exact List.mem_cons_self
    | succ i =>
      rw [List.getElem?_cons_succ] at h
      refine List.mem_cons_of_mem _ ?_
      have := ih (fun v hv => hc v (List.mem_cons_of_mem _ hv)) (j + 1) i v h
      rw [show j + (i + 1) = j + 1 + i by omega]
      simpa using this
theorem ga_sl (vs : List Value) : (∀ v ∈ vs, v.category = 1) → (lg_sl vs).length = vs.length := by
  induction vs with
  | nil => intro _; rfl
  | cons a vs ih =>
    intro hc
    have ha : a.category = 1 := hc a List.mem_cons_self
    have := ih (fun v hv => hc v (List.mem_cons_of_mem _ hv))
    unfold lg_sl at this ⊢
    rw [List.flatMap_cons, List.length_append, this]
    simp [ha]; omega
theorem ga_entry {ad : Nat → Nat} {K n : Nat} {As : List ga_V} (h : As.length ≤ n) (hc : ∀ v ∈ As, ga_cV K v) : ga_L ad K ((lg_sl (As.map (ga_v ad)) ++ List.replicate (n - (lg_sl (As.map (ga_v ad))).length) Slot.unset).toArray) n (ga_lv As) := by
  have hcat : ∀ v ∈ As.map (ga_v ad), v.category = 1 := by
    intro v hv
    obtain ⟨u, -, rfl⟩ := List.mem_map.mp hv
    exact ga_v_cat ad u
  have hE := lv_entry (As.map (ga_v ad)) (n := n) (by rw [ga_sl _ hcat, List.length_map]; exact h)
  refine ⟨⟨hE.1, hE.2.1, fun q hq => ?_⟩, fun i v hi => ?_⟩
  · unfold ga_ll at hq
    obtain ⟨i, -, hi2⟩ := List.mem_filterMap.mp hq
    cases hv : ga_lv As i with
    | none => rw [hv] at hi2; cases hi2
    | some v =>
      rw [hv] at hi2
      simp only [Option.map_some, Option.some.injEq] at hi2
      rw [← hi2]
      refine hE.2.2 _ ?_
      have := ga_args (As.map (ga_v ad)) hcat 0 i (ga_v ad v) (by rw [List.getElem?_map]; unfold ga_lv at hv; rw [hv]; rfl)
      simpa using this
  · unfold ga_lv at hi
    have := (List.getElem?_eq_some_iff.mp hi).1
    exact ⟨by omega, hc v (List.mem_of_getElem? hi)⟩
section GB
variable {l : Launch} {gD : va_G × List vw_C × ClassId × ClassId} {y : MethodName} {ws ws' : List Cond} {rm : Room} {nw : ga_N} {mc ms K maxL : Nat} {As : List ga_V} {σ : ga_S} {Post : ga_S → Option ga_V → Prop} {cc : ByteArray}
theorem ga_ofI (hy : plainName y.cls = true) (hw : ws = Cond.code y cc maxL (some .int) :: ws') (hcl : gD.2.1.length ≤ 1000000) (hlen : As.length ≤ maxL)
    (body : ∀ X : ga_X, X.2.1 = l → ga_C X cc y ws nw rm gD maxL → (∀ (pc : Nat) (lv : Nat → Option ga_V) (σ' : ga_S) (z : Int), decode cc pc = .ok (.ireturn, 1) → Post σ' (some (.inl z)) → ga_G X mc ms (K + mc) pc lv [.inl z] σ') → ga_G X 0 0 K 0 (ga_lv As) [] σ) : ga_Ev l gD y ws rm nw mc ms K As σ Post := by
  intro ad sz
  obtain ⟨D, cl, cI, cZ⟩ := gD
  refine Met.ofW (cc := cc) (maxL := maxL) (ret := (some .int)) hy hw ?_
  intro p e s m args below meth c s₁ B hml hv
  obtain ⟨rfl, hsz, hP, hK, hD0, hcS, hAs, hnw⟩ := hv
  subst hsz
  have hD := hD0.self (sz := s.heap.size)
  have hret := body (p, l, e, rm, s, m, (As.map (ga_v ad)).toArray, below, meth, c, maxL, D, cl, cI, cZ, va_A (ga_w ad cI cZ K σ) s.heap.size, MQ below (ga_Q (D, cl, cI, cZ) K mc ad σ s.heap.size Post) (As.map (ga_v ad)).toArray s mc ms (va_A (ga_w ad cI cZ K σ) s.heap.size), K, ad) rfl ⟨⟨B.exec, B.bytes, hml, findClass_of_methodNamed B.named, atoms_spec (ws := ws) B.pre⟩, hK, fun q h => Or.inr h, B.notSynchronized, hcl, hnw, rfl, (name_of_methodNamed B.named B.method).1, rfl, rfl⟩ ?_
  · rw [lg_entry_eq]
    exact hret ad s.heap [] _ (Nat.le_refl K) (fun _ _ => rfl) hP hD va_S.rf (ga_entry hlen hAs) hcS (fun v hv => by cases hv)
  · intro pc lv σ' z d hPost ad' H locs ls hKK h0 hP' hD' hS' hL' hc' hst'
    exact W.iret (v := Int32.ofInt z) B.exec B.bytes B.returns (fun t ht hW => ⟨⟨ad', σ', some (.inl z), rfl, fun v hv => (by cases hv; exact ga_h hst'), hPost, h0, by rw [ht]; exact hP', hD', hc'⟩, hS'.F ht⟩) hS'.2.2 d (hlocks := B.notSynchronized)
theorem ga_ofZ (hy : plainName y.cls = true) (hw : ws = Cond.code y cc maxL (some .boolean) :: ws') (hcl : gD.2.1.length ≤ 1000000) (hlen : As.length ≤ maxL)
    (body : ∀ X : ga_X, X.2.1 = l → ga_C X cc y ws nw rm gD maxL → (∀ (pc : Nat) (lv : Nat → Option ga_V) (σ' : ga_S) (z : Int), decode cc pc = .ok (.ireturn, 1) → (z = 0 ∨ z = 1) → Post σ' (some (.inl z)) → ga_G X mc ms (K + mc) pc lv [.inl z] σ') → ga_G X 0 0 K 0 (ga_lv As) [] σ) : ga_Ev l gD y ws rm nw mc ms K As σ Post := by
  intro ad sz
  obtain ⟨D, cl, cI, cZ⟩ := gD
  refine Met.ofW (cc := cc) (maxL := maxL) (ret := (some .boolean)) hy hw ?_
  intro p e s m args below meth c s₁ B hml hv
  obtain ⟨rfl, hsz, hP, hK, hD0, hcS, hAs, hnw⟩ := hv
  subst hsz
  have hD := hD0.self (sz := s.heap.size)
  have hret := body (p, l, e, rm, s, m, (As.map (ga_v ad)).toArray, below, meth, c, maxL, D, cl, cI, cZ, va_A (ga_w ad cI cZ K σ) s.heap.size, MQ below (ga_Q (D, cl, cI, cZ) K mc ad σ s.heap.size Post) (As.map (ga_v ad)).toArray s mc ms (va_A (ga_w ad cI cZ K σ) s.heap.size), K, ad) rfl ⟨⟨B.exec, B.bytes, hml, findClass_of_methodNamed B.named, atoms_spec (ws := ws) B.pre⟩, hK, fun q h => Or.inr h, B.notSynchronized, hcl, hnw, rfl, (name_of_methodNamed B.named B.method).1, rfl, rfl⟩ ?_
  · rw [lg_entry_eq]
    exact hret ad s.heap [] _ (Nat.le_refl K) (fun _ _ => rfl) hP hD va_S.rf (ga_entry hlen hAs) hcS (fun v hv => by cases hv)
  · intro pc lv σ' z d hz hPost ad' H locs ls hKK h0 hP' hD' hS' hL' hc' hst'
    exact W.zret (v := Int32.ofInt z) B.exec B.bytes B.returns (by rcases hz with rfl | rfl <;> rfl) (fun t ht hW => ⟨⟨ad', σ', some (.inl z), rfl, fun v hv => (by cases hv; exact ga_h hst'), hPost, h0, by rw [ht]; exact hP', hD', hc'⟩, hS'.F ht⟩) hS'.2.2 d (hlocks := B.notSynchronized)
theorem ga_ofV (hy : plainName y.cls = true) (hw : ws = Cond.code y cc maxL none :: ws') (hcl : gD.2.1.length ≤ 1000000) (hlen : As.length ≤ maxL)
    (body : ∀ X : ga_X, X.2.1 = l → ga_C X cc y ws nw rm gD maxL → (∀ (pc : Nat) (lv : Nat → Option ga_V) (σ' : ga_S), decode cc pc = .ok (.return_, 1) → Post σ' none → ga_G X mc ms (K + mc) pc lv [] σ') → ga_G X 0 0 K 0 (ga_lv As) [] σ) : ga_Ev l gD y ws rm nw mc ms K As σ Post := by
  intro ad sz
  obtain ⟨D, cl, cI, cZ⟩ := gD
  refine Met.ofW (cc := cc) (maxL := maxL) (ret := none) hy hw ?_
  intro p e s m args below meth c s₁ B hml hv
  obtain ⟨rfl, hsz, hP, hK, hD0, hcS, hAs, hnw⟩ := hv
  subst hsz
  have hD := hD0.self (sz := s.heap.size)
  have hret := body (p, l, e, rm, s, m, (As.map (ga_v ad)).toArray, below, meth, c, maxL, D, cl, cI, cZ, va_A (ga_w ad cI cZ K σ) s.heap.size, MQ below (ga_Q (D, cl, cI, cZ) K mc ad σ s.heap.size Post) (As.map (ga_v ad)).toArray s mc ms (va_A (ga_w ad cI cZ K σ) s.heap.size), K, ad) rfl ⟨⟨B.exec, B.bytes, hml, findClass_of_methodNamed B.named, atoms_spec (ws := ws) B.pre⟩, hK, fun q h => Or.inr h, B.notSynchronized, hcl, hnw, rfl, (name_of_methodNamed B.named B.method).1, rfl, rfl⟩ ?_
  · rw [lg_entry_eq]
    exact hret ad s.heap [] _ (Nat.le_refl K) (fun _ _ => rfl) hP hD va_S.rf (ga_entry hlen hAs) hcS (fun v hv => by cases hv)
  · intro pc lv σ' d hPost ad' H locs ls hKK h0 hP' hD' hS' hL' hc' hst'
    exact W.vret B.exec B.bytes B.returns (fun t ht hW => ⟨⟨ad', σ', none, rfl, fun v hv => (by cases hv), hPost, h0, by rw [ht]; exact hP', hD', hc'⟩, hS'.F ht⟩) hS'.2.2 d (hlocks := B.notSynchronized)
end GB
theorem ga_P_blind {gD : va_G × List vw_C × ClassId × ClassId} {nw : ga_N} {K : Nat} {ad : Nat → Nat} {σ : ga_S} {sz : Nat} {As : List ga_V} : FrameBlind (ga_P gD nw K ad σ sz As) := by
  intro a U g mk q
  obtain ⟨q0, q1, qP, qK, qD, qc, qA, qn⟩ := q
  exact ⟨q0, q1, qP, va_K.moved (u := U) (U := U.calling g mk a) (Vm.Alike.refl U.vm) qK, qD, qc, qA, fun w hw => va_Nw.same rfl (u := U) (U := U.calling g mk a) rfl (qn w hw)⟩
section GC
variable {p : Program} {l : Launch} {e : Env} {R : Room} {s : State} {m : MethodId} {args : Array Value} {below : List Frame} {meth : Method} {c : Code} {nL : Nat} {D : va_G} {cl : List vw_C} {cI cZ : ClassId} {A : Nat → Prop} {Q : State → Prop} {K0 : Nat} {ad0 : Nat → Nat}
theorem ga_after {ce sl K mc ms pc : Nat} {lv : Nat → Option ga_V} {st : List ga_V} {σ : ga_S} {Post : ga_S → Option ga_V → Prop} {a : Array Value} {st0 : List Value} {ad : Nat → Nat} {H : Heap} {locs : List Loc} {ls : Array Slot}
    (hA : ∀ q, s.heap.size ≤ q → A q) (hKK : K0 ≤ K) (h0 : ∀ k, k ≤ K0 → ad k = ad0 k) (hD : va_D A (ga_w ad cI cZ K σ)) (hS : va_S A s.heap H locs) (hL : ga_L ad K ls nL lv) (hst : ∀ v ∈ st, ga_cV K v)
    (hr : va_Run p l e R s m args below meth c H locs ce sl mc ms (F0 m pc ls st0) (st.map (ga_v ad)) (ga_Q (D, cl, cI, cZ) K mc ad σ H.size Post a) (va_A (ga_w ad cI cZ K σ) H.size))
    (k : ∀ σ' r, Post σ' r → ga_G (p, l, e, R, s, m, args, below, meth, c, nL, D, cl, cI, cZ, A, Q, K0, ad0) (ce + mc) (sl + ms) (K + mc) (pc + 3) lv (r.toList ++ st) σ') : W p l e R s m args below meth c H locs ce sl Q (F0 m pc ls st0) := by
  intro T hT X
  obtain ⟨v, st₀, t, T', L, hh, X', hL2, e1, e2, ⟨⟨ad', σ', r, hv, hcr, hPost, hsame, hP', hD', hc'⟩, hz, hk⟩, stp⟩ := hr T hT X
  cases hv
  rw [hh] at hz hk
  have hfree : ∀ q, va_A (ga_w ad cI cZ K σ) H.size q → A q := by
    intro q hq
    rcases hq with ⟨i, x, hi⟩ | hq
    · exact hD.2 i _ hi
    · exact hA q (Nat.le_trans hS.1 hq)
  have hS2 : va_S A s.heap T'.heap (locs ++ L) := by
    refine ⟨Nat.le_trans hS.1 (by rw [e1]; exact hz), fun q h1 h2 => ?_, fun q hq => ?_⟩
    · rw [e1, hk q (Nat.lt_of_lt_of_le h1 hS.1) (fun z => h2 (hfree q z))]
      exact hS.2.1 q h1 h2
    · rcases List.mem_append.mp hq with h | h
      · exact hS.2.2 q h
      · exact hfree _ (hL2 q h)
  have hLn : ga_L ad' (K + mc) ls nL lv := ⟨by rw [ga_ll_same hsame (fun i v h => (hL.2 i v h).2)]; exact hL.1, fun i v h => ⟨(hL.2 i v h).1, (hL.2 i v h).2.up (Nat.le_add_right _ _)⟩⟩
  have hstn : ∀ v ∈ r.toList ++ st, ga_cV (K + mc) v := by
    intro v hv
    rcases List.mem_append.mp hv with h | h
    · exact hcr v (Option.mem_toList.mp h)
    · exact (hst v h).up (Nat.le_add_right _ _)
  have hG := k σ' r hPost ad' T'.heap (locs ++ L) ls (by omega) (fun q hq => (hsame q (Nat.le_trans hq hKK)).trans (h0 q hq)) (by rw [e1]; exact hP') (hD'.weaken (fun _ q _ h => hfree q.1 h)) hS2 hLn hc' hstn
  obtain ⟨t2, a1, b1⟩ := hG T' rfl X'
  refine ⟨t2, stp t2 ?_, b1⟩
  have he : (r.toList ++ st).map (ga_v ad') = (r.map (ga_v ad')).toList ++ st.map (ga_v ad) := by
    rw [List.map_append, ga_st_same hsame hst]
    cases r <;> rfl
  rw [he] at a1
  exact a1
end GC
section GD
variable {X : ga_X} {cc : ByteArray} {y : MethodName} {Ts : List Cond} {nw : ga_N} {R0 : Room} {gD : va_G × List vw_C × ClassId × ClassId} {nL0 : Nat}
variable {ce sl K pc : Nat} {lv : Nat → Option ga_V} {st stk : List ga_V} {σ : ga_S}
variable {y' : MethodName} {ws' ws'' : List Cond} {bytes : ByteArray} {maxL : Nat} {ret : Option FieldType} {rm' : Room} {nw' : ga_N} {mc ms b index ci : Nat} {As : List ga_V} {fs : List ga_V} {q : vw_C} {Post : ga_S → Option ga_V → Prop}
theorem ga_nws.warm {nw nw' : ga_N} {s U : State} (hW : s.WarmedH U.vm) (h : ga_nws nw s) (hs : ∀ q ∈ nw', q ∈ nw) : ga_nws nw' U := fun q hq => va_Nw.warmM hW (h q (hs q hq))
theorem ga_callV (C : ga_C X cc y Ts nw R0 gD nL0) (hE : ga_Ev X.2.1 gD y' ws' rm' nw' mc ms K (.inr b :: As) σ Post) (hG : GoodIn Ts (wsV y.cls index y'.cls y' ws')) (hw : ws' = Cond.code y' bytes maxL ret :: ws'') (hrc : rm'.cells = mc) (hrs : rm'.slots = ms) (hd : y'.cls ≠ "java/lang/invoke/MethodHandle" ∧ y'.cls ≠ "java/lang/invoke/VarHandle" ∧ (parseMethodDescriptor y'.desc).map (fun d => d.parameters.length) = some As.length) (hR : rm'.frames + 1 ≤ R0.frames ∧ 8 + (maxL + 11) + rm'.locals ≤ R0.locals) (hf : ce + mc ≤ R0.cells ∧ sl + ms ≤ R0.slots) (hnws : ∀ q ∈ nw', q ∈ nw) (hσ : σ b = .inr (ci, fs)) (hci : gD.2.1[ci]? = some q) (hq : q.1 = y'.cls) (h8 : st.length ≤ 8) (hstk : stk = As.reverse ++ .inr b :: st) (d : decode cc pc = .ok (.invokevirtual index, 3)) (k : ∀ σ' r, Post σ' r → ga_G X (ce + mc) (sl + ms) (K + mc) (pc + 3) lv (r.toList ++ st) σ') : ga_G X ce sl K pc lv stk σ := by
  obtain ⟨p, l, e, R, s, m, args, below, meth, c, nL, D, cl, cI, cZ, A, Q, K0, ad0⟩ := X
  obtain ⟨⟨hx, hb, hml, hown, hts⟩, hK, hA, hlk, hcl, hnw, hRR, hnm, hgD, hnL⟩ := C
  subst hgD
  subst hRR
  subst hstk
  intro ad H locs ls hKK h0 hP hD hS hL hc hst
  obtain ⟨b, rfl, hbK⟩ := ga_at hc (by rw [hσ]; exact ga_obj hcl hci)
  have hw2 := ga_w_get ad cI cZ σ hbK
  rw [hσ] at hw2
  have hst1 : ∀ v ∈ As, ga_cV K v := fun v hv => hst v (List.mem_append_left _ (List.mem_reverse.mpr hv))
  have hst2 : ∀ v ∈ st, ga_cV K v := fun v hv => hst v (List.mem_append_right _ (List.mem_cons_of_mem _ hv))
  refine ga_after hA hKK h0 hD hS hL hst2 (va_runV (C := y'.cls) (b := ad (b + 1)) (As := As.map (ga_v ad)) (rest := st.map (ga_v ad)) (n := As.length) ⟨hx, hb, hml, hown, hts⟩ (hE ad H.size) (cwV As.length hts hG hw hrc hrs ⟨rfl, hd⟩ hR) ⟨ga_P_blind, by have := va_recv hK hP hci hw2; rw [hq] at this; exact this, fun U hU hW => ⟨rfl, by rw [hU], by rw [hU]; exact hP, va_K.moved hW.alike hK, hD.weaken (fun _ _ _ _ => trivial), hc, List.forall_mem_cons.mpr ⟨hbK, hst1⟩, ga_nws.warm hW hnw hnws⟩⟩ rfl (List.length_map ..) hL.1.1 ?_ (lv_room (by rw [ga_cats]; exact h8)) d hf) k
  show (As.reverse ++ Sum.inr (b + 1) :: st).map (ga_v ad) = _
  rw [List.map_append, List.map_reverse]
  rfl
theorem ga_callS (C : ga_C X cc y Ts nw R0 gD nL0) (hE : ga_Ev X.2.1 gD y' ws' rm' nw' mc ms K As σ Post) (hG : GoodIn Ts (va_wsS y.cls index y' ws')) (hw : ws' = Cond.code y' bytes maxL ret :: ws'') (hrc : rm'.cells = mc) (hrs : rm'.slots = ms) (hd : y'.cls ≠ "java/lang/invoke/MethodHandle" ∧ y'.cls ≠ "java/lang/invoke/VarHandle" ∧ (parseMethodDescriptor y'.desc).map (fun d => d.parameters.length) = some As.length) (hR : rm'.frames + 1 ≤ R0.frames ∧ 8 + (maxL + 11) + rm'.locals ≤ R0.locals) (hf : ce + mc ≤ R0.cells ∧ sl + ms ≤ R0.slots) (hnws : ∀ q ∈ nw', q ∈ nw) (h8 : st.length ≤ 8) (hstk : stk = As.reverse ++ st) (d : decode cc pc = .ok (.invokestatic index, 3)) (k : ∀ σ' r, Post σ' r → ga_G X (ce + mc) (sl + ms) (K + mc) (pc + 3) lv (r.toList ++ st) σ') : ga_G X ce sl K pc lv stk σ := by
  obtain ⟨p, l, e, R, s, m, args, below, meth, c, nL, D, cl, cI, cZ, A, Q, K0, ad0⟩ := X
  obtain ⟨⟨hx, hb, hml, hown, hts⟩, hK, hA, hlk, hcl, hnw, hRR, hnm, hgD, hnL⟩ := C
  subst hgD
  subst hRR
  subst hstk
  intro ad H locs ls hKK h0 hP hD hS hL hc hst
  have hst1 : ∀ v ∈ As, ga_cV K v := fun v hv => hst v (List.mem_append_left _ (List.mem_reverse.mpr hv))
  have hst2 : ∀ v ∈ st, ga_cV K v := fun v hv => hst v (List.mem_append_right _ hv)
  have ok : ∀ w ∈ va_wsS y.cls index y' ws', w.before args s = true := fun w h => hts w (hG w h).1
  refine ga_after hA hKK h0 hD hS hL hst2 (va_runS (As := As.map (ga_v ad)) (rest := st.map (ga_v ad)) (n := As.length) ⟨hx, hb, hml, hown, hts⟩ (hE ad H.size) ⟨callB_of As.length hts (fun w h => hG w (by unfold va_wsS; exact List.mem_append_right _ h)) hw hrc hrs (ok _ (by simp [va_wsS])) (ok _ (by simp [va_wsS])) hd hR, ok _ (by simp [va_wsS])⟩ ⟨ga_P_blind, fun U hU hW => ⟨rfl, by rw [hU], by rw [hU]; exact hP, va_K.moved hW.alike hK, hD.weaken (fun _ _ _ _ => trivial), hc, hst1, ga_nws.warm hW hnw hnws⟩⟩ rfl (List.length_map ..) hL.1.1 ?_ (lv_room (by rw [ga_cats]; exact h8)) d hf) k
  show (As.reverse ++ st).map (ga_v ad) = _
  rw [List.map_append, List.map_reverse]
end GD
