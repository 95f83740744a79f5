section
/-! The layer of mathematical states. A value is a whole number (.inl) or a cell's number (.inr; 0: null); a store gives each cell's number an array (of booleans or ints) or an object. -/
abbrev ga_V : Type := Int ⊕ Nat
abbrev ga_E : Type := (Bool × Nat × (Nat → Int)) ⊕ (Nat × List ga_V)
abbrev ga_S : Type := Nat → ga_E
def ga_r (z : Int) : Prop := -2147483648 ≤ z ∧ z < 2147483648
def ga_v (ad : Nat → Nat) (v : ga_V) : Value := match v with
  | .inl z => .int (Int32.ofInt z)
  | .inr 0 => .null
  | .inr (k + 1) => .ref (ad (k + 1))
def ga_e (ad : Nat → Nat) (cI cZ : ClassId) (x : ga_E) : va_E := match x with
  | .inl a => .inl (if a.1 then cZ else cI, a.2.1, .inl (fun j => Int32.ofInt (a.2.2 j)))
  | .inr o => .inr (o.1, o.2.map (ga_v ad))
def ga_w (ad : Nat → Nat) (cI cZ : ClassId) (K : Nat) (σ : ga_S) : va_W := (List.range K).map (fun i => (ad (i + 1), ga_e ad cI cZ (σ (i + 1))))
def ga_cV (K : Nat) (v : ga_V) : Prop := match v with
  | .inl z => ga_r z
  | .inr k => k ≤ K
def ga_cE (K : Nat) (x : ga_E) : Prop := match x with
  | .inl a => ∀ j, j < a.2.1 → ga_r (a.2.2 j)
  | .inr o => ∀ v ∈ o.2, ga_cV K v
def ga_no : ga_E := .inr (1000000, [])
def ga_cS (K : Nat) (σ : ga_S) : Prop := (∀ k, ga_cE K (σ k)) ∧ ∀ k, (k = 0 ∨ K < k) → σ k = ga_no
def ga_ll (ad : Nat → Nat) (nL : Nat) (lv : Nat → Option ga_V) : List (Nat × Value) := (List.range nL).filterMap (fun i => (lv i).map (fun v => (i, ga_v ad v)))
def ga_L (ad : Nat → Nat) (K : Nat) (ls : Array Slot) (nL : Nat) (lv : Nat → Option ga_V) : Prop := lv_has ls nL (ga_ll ad nL lv) ∧ ∀ i v, lv i = some v → i < nL ∧ ga_cV K v
abbrev ga_X : Type := Program × Launch × Env × Room × State × MethodId × Array Value × List Frame × Method × Code × Nat × va_G × List vw_C × ClassId × ClassId × (Nat → Prop) × (State → Prop) × Nat × (Nat → Nat)
abbrev ga_tys (cI cZ : ClassId) : List (ClassId × FieldType) := [(cI, .int), (cZ, .boolean)]
abbrev ga_N : Type := List (String × Nat × MethodName × String)
/-- the machine, at pc with these locals, this stack and this store, comes to its end -/
def ga_G (X : ga_X) (ce sl K pc : Nat) (lv : Nat → Option ga_V) (st : List ga_V) (σ : ga_S) : Prop := match X with
  | (p, l, e, R, s, m, args, below, meth, c, nL, D, cl, cI, cZ, A, Q, K0, ad0) => ∀ (ad : Nat → Nat) (H : Heap) (locs : List Loc) (ls : Array Slot), K0 ≤ K → (∀ k, k ≤ K0 → ad k = ad0 k) → va_P D cl (ga_w ad cI cZ K σ) H → va_D A (ga_w ad cI cZ K σ) → va_S A s.heap H locs → ga_L ad K ls nL lv → ga_cS K σ → (∀ v ∈ st, ga_cV K v) →
    W p l e R s m args below meth c H locs ce sl Q (F0 m pc ls (st.map (ga_v ad)))
def ga_nws (nw : ga_N) (U : State) : Prop := ∀ q ∈ nw, va_Nw (.methodLinkNest q.1 q.2.1 q.2.2.1 q.2.2.2) U
def ga_C (X : ga_X) (cc : ByteArray) (y : MethodName) (Ts : List Cond) (nw : ga_N) (R0 : Room) (gD : va_G × List vw_C × ClassId × ClassId) (nL0 : Nat) : Prop := match X with
  | (p, l, e, R, s, m, args, below, meth, c, nL, D, cl, cI, cZ, A, Q, K0, ad0) => CallFix p m c cc nL s args Ts y.cls ∧ va_K D cl (ga_tys cI cZ) s ∧ (∀ q, s.heap.size ≤ q → A q) ∧ meth.locks = false ∧ cl.length ≤ 1000000 ∧ ga_nws nw s ∧ R = R0 ∧ meth.name = y.name ∧ gD = (D, cl, cI, cZ) ∧ nL = nL0
theorem ga_cV.up {K K' : Nat} (h : K ≤ K') {v : ga_V} (hv : ga_cV K v) : ga_cV K' v := by
  cases v with
  | inl z => exact hv
  | inr k => exact Nat.le_trans hv h
theorem ga_cE.up {K K' : Nat} (h : K ≤ K') {x : ga_E} (hx : ga_cE K x) : ga_cE K' x := by
  cases x with
  | inl z => exact hx
  | inr k => exact fun v hv => (hx v hv).up h
theorem ga_w_len (ad : Nat → Nat) (cI cZ : ClassId) (K : Nat) (σ : ga_S) : (ga_w ad cI cZ K σ).length = K := by simp [ga_w]
theorem ga_w_get (ad : Nat → Nat) (cI cZ : ClassId) {K a : Nat} (σ : ga_S) (h : a < K) : (ga_w ad cI cZ K σ)[a]? = some (ad (a + 1), ga_e ad cI cZ (σ (a + 1))) := by
  simp [ga_w, h]
theorem ga_w_set (ad : Nat → Nat) (cI cZ : ClassId) {K a : Nat} (σ : ga_S) (x : ga_E) : (ga_w ad cI cZ K σ).set a (ad (a + 1), ga_e ad cI cZ x) = ga_w ad cI cZ K (va_up σ (a + 1) x) := by
  apply List.ext_getElem?
  intro i
  simp only [ga_w, List.getElem?_set, List.length_map, List.length_range, List.getElem?_map, va_up]
  by_cases hi : a = i
  · subst hi
    by_cases h : a < K
    · simp [h]
    · simp [h]
  · rw [if_neg hi]
    by_cases h : i < K
    · have : ¬ (i + 1 = a + 1) := by omega
      simp only [List.getElem?_range h, Option.map_some, if_neg this]
    · simp [h]
theorem ga_w_push (ad : Nat → Nat) (cI cZ : ClassId) {K : Nat} (σ : ga_S) : ga_w ad cI cZ (K + 1) σ = ga_w ad cI cZ K σ ++ [(ad (K + 1), ga_e ad cI cZ (σ (K + 1)))] := by
  simp [ga_w, List.range_succ]
theorem ga_v_same {ad ad' : Nat → Nat} {K : Nat} (h : ∀ k, k ≤ K → ad' k = ad k) {v : ga_V} (hv : ga_cV K v) : ga_v ad' v = ga_v ad v := by
  cases v with
  | inl z => rfl
  | inr k =>
    cases k with
    | zero => rfl
    | succ k => show Value.ref (ad' (k + 1)) = Value.ref (ad (k + 1)); rw [h _ hv]
theorem ga_e_same {ad ad' : Nat → Nat} {cI cZ : ClassId} {K : Nat} (h : ∀ k, k ≤ K → ad' k = ad k) {x : ga_E} (hx : ga_cE K x) : ga_e ad' cI cZ x = ga_e ad cI cZ x := by
  cases x with
  | inl a => rfl
  | inr o =>
    show Sum.inr (o.1, o.2.map (ga_v ad')) = Sum.inr (o.1, o.2.map (ga_v ad))
    rw [List.map_congr_left (fun v hv => ga_v_same h (hx v hv))]
theorem ga_w_same {ad ad' : Nat → Nat} {cI cZ : ClassId} {K K' : Nat} {σ : ga_S} (hK : K ≤ K') (h : ∀ k, k ≤ K' → ad' k = ad k) (hc : ∀ k, ga_cE K' (σ k)) : ga_w ad' cI cZ K σ = ga_w ad cI cZ K σ := by
  unfold ga_w
  refine List.map_congr_left (fun i hi => ?_)
  have := List.mem_range.mp hi
  rw [h _ (by omega), ga_e_same h (hc _)]
theorem ga_st_same {ad ad' : Nat → Nat} {K : Nat} (h : ∀ k, k ≤ K → ad' k = ad k) {st : List ga_V} (hc : ∀ v ∈ st, ga_cV K v) : st.map (ga_v ad') = st.map (ga_v ad) := List.map_congr_left (fun v hv => ga_v_same h (hc v hv))
theorem ga_ll_same {ad ad' : Nat → Nat} {K nL : Nat} {lv : Nat → Option ga_V} (h : ∀ k, k ≤ K → ad' k = ad k) (hc : ∀ i v, lv i = some v → ga_cV K v) : ga_ll ad' nL lv = ga_ll ad nL lv := by
  unfold ga_ll
  congr 1
  funext i
  cases hi : lv i with
  | none => rfl
  | some v => simp only [Option.map_some]; rw [ga_v_same h (hc i v hi)]
theorem ga_L.at {ad : Nat → Nat} {K nL : Nat} {ls : Array Slot} {lv : Nat → Option ga_V} (h : ga_L ad K ls nL lv) {i : Nat} {v : ga_V} (hi : lv i = some v) : ls[i]? = some (.val (ga_v ad v)) := by
  refine h.1.2.2 (i, ga_v ad v) ?_
  unfold ga_ll
  exact List.mem_filterMap.mpr ⟨i, List.mem_range.mpr (h.2 i v hi).1, by rw [hi]; rfl⟩
theorem ga_v_cat (ad : Nat → Nat) (v : ga_V) : (ga_v ad v).category = 1 := by
  cases v with
  | inl z => rfl
  | inr k => cases k <;> rfl
theorem ga_cats (ad : Nat → Nat) (st : List ga_V) : ((st.map (ga_v ad)).map fun v => v.category).sum = st.length := by
  induction st with
  | nil => rfl
  | cons v st ih => simp only [List.map_cons, List.sum_cons, ga_v_cat, ih, List.length_cons]; omega
theorem ga_L.put {ad : Nat → Nat} {K nL : Nat} {ls' : Array Slot} {lv : Nat → Option ga_V} {i : Nat} {v : ga_V} (hc : ∀ j w, lv j = some w → j < nL ∧ ga_cV K w) (hi : i < nL) (hv : ga_cV K v) (h : lv_has ls' nL ((i, ga_v ad v) :: (ga_ll ad nL lv).filter (fun q => !(q.1 == i) && !(q.1 + 1 == i && q.2.category == 2)))) : ga_L ad K ls' nL (va_up lv i (some v)) := by
  refine ⟨⟨h.1, h.2.1, fun q hq => ?_⟩, fun j w hj => ?_⟩
  · unfold ga_ll at hq
    obtain ⟨j, hj1, hj2⟩ := List.mem_filterMap.mp hq
    have hjn := List.mem_range.mp hj1
    by_cases hji : j = i
    · subst hji
      simp only [va_up, if_true, Option.map_some, Option.some.injEq] at hj2
      rw [← hj2]
      exact h.2.2 _ List.mem_cons_self
    · simp only [va_up, if_neg hji] at hj2
      cases hlj : lv j with
      | none => rw [hlj] at hj2; cases hj2
      | some w =>
        rw [hlj] at hj2
        simp only [Option.map_some, Option.some.injEq] at hj2
        rw [← hj2]
        refine h.2.2 _ (List.mem_cons_of_mem _ (List.mem_filter.mpr ⟨?_, ?_⟩))
        · unfold ga_ll
          exact List.mem_filterMap.mpr ⟨j, hj1, by rw [hlj]; rfl⟩
        · simp [hji, ga_v_cat]
  · by_cases hji : j = i
    · subst hji
      simp only [va_up, if_true, Option.some.injEq] at hj
      rw [← hj]
      exact ⟨hi, hv⟩
    · simp only [va_up, if_neg hji] at hj
      exact hc j w hj
theorem ga_of {z : Int} (h : ga_r z) : (Int32.ofInt z).toInt = z := Int32.toInt_ofInt_of_le (by have := h.1; omega) (by have := h.2; omega)
theorem ga_eq {x y : Int} (hx : ga_r x) (hy : ga_r y) : Int32.ofInt x = Int32.ofInt y ↔ x = y := ⟨fun h => by rw [← ga_of hx, ← ga_of hy, h], fun h => by rw [h]⟩
theorem ga_lt {x y : Int} (hx : ga_r x) (hy : ga_r y) : Int32.ofInt x < Int32.ofInt y ↔ x < y := by rw [Int32.lt_iff_toInt_lt, ga_of hx, ga_of hy]
theorem ga_le {x y : Int} (hx : ga_r x) (hy : ga_r y) : Int32.ofInt x ≤ Int32.ofInt y ↔ x ≤ y := by rw [Int32.le_iff_toInt_le, ga_of hx, ga_of hy]
theorem ga_z0 : (0 : Int32) = Int32.ofInt 0 := rfl
theorem ga_r0 : ga_r 0 := by unfold ga_r; omega
theorem ga_cl {z : Int} (h : ga_r z) : (Int32.ofInt z).toNatClampNeg = z.toNat := by rw [← Int32.toNat_toInt, ga_of h]
theorem ga_in {z : Int} {n : Nat} (h : ga_r z) (h0 : 0 ≤ z) (hn : z < n) : vp_in (Int32.ofInt z) n := by
  rw [vp_in_iff, ga_of h]; exact ⟨h0, hn⟩
theorem ga_tdiv {x y : Int} (hx : ga_r x) (hy : ga_r y) (h1 : y ≠ -1) : Int32.ofInt x / Int32.ofInt y = Int32.ofInt (x.tdiv y) := by
  refine Int32.toInt_inj.mp ?_
  rw [Int32.toInt_div_of_ne_right _ _ ?_, ga_of hx, ga_of hy, ga_of]
  · unfold ga_r at hx hy ⊢
    rcases Int.lt_or_le x 0 with h | h
    · obtain ⟨n, rfl⟩ : ∃ n : Nat, x = -(n : Int) := ⟨x.natAbs, by omega⟩
      rcases Int.lt_or_le y 0 with h2 | h2
      · obtain ⟨k, rfl⟩ : ∃ n : Nat, y = -(n : Int) := ⟨y.natAbs, by omega⟩
        rw [Int.neg_tdiv, Int.tdiv_neg, Int.neg_neg, Int.tdiv_eq_ediv_of_nonneg (by omega)]
        have hk : 2 ≤ k := by omega
        have h4 : 0 ≤ (n : Int) / k := Int.ediv_nonneg (by omega) (by omega)
        have h3 : n / k ≤ n / 2 := Nat.div_le_div_left hk (by omega)
        omega
      · obtain ⟨k, rfl⟩ : ∃ n : Nat, y = (n : Int) := ⟨y.natAbs, by omega⟩
        rw [Int.neg_tdiv, Int.tdiv_eq_ediv_of_nonneg (by omega)]
        have h4 : 0 ≤ (n : Int) / k := Int.ediv_nonneg (by omega) (by omega)
        have h3 : n / k ≤ n := Nat.div_le_self _ _
        omega
    · obtain ⟨n, rfl⟩ : ∃ n : Nat, x = (n : Int) := ⟨x.natAbs, by omega⟩
      rcases Int.lt_or_le y 0 with h2 | h2
      · obtain ⟨k, rfl⟩ : ∃ n : Nat, y = -(n : Int) := ⟨y.natAbs, by omega⟩
        rw [Int.tdiv_neg, Int.tdiv_eq_ediv_of_nonneg (by omega)]
        have h4 : 0 ≤ (n : Int) / k := Int.ediv_nonneg (by omega) (by omega)
        have h3 : n / k ≤ n := Nat.div_le_self _ _
        omega
      · obtain ⟨k, rfl⟩ : ∃ n : Nat, y = (n : Int) := ⟨y.natAbs, by omega⟩
        rw [Int.tdiv_eq_ediv_of_nonneg (by omega)]
        have h4 : 0 ≤ (n : Int) / k := Int.ediv_nonneg (by omega) (by omega)
        have h3 : n / k ≤ n := Nat.div_le_self _ _
        omega
  · intro h
    apply h1
    have := congrArg Int32.toInt h
    rw [ga_of hy] at this
    exact this
theorem ga_upd (f : Nat → Int) (k : Nat) (x : Int) : upd (fun j => Int32.ofInt (f j)) k (Int32.ofInt x) = fun j => Int32.ofInt (va_up f k x j) := by
  funext j
  unfold upd va_up
  split <;> rfl
theorem ga_2 {P : ga_V → Prop} {a b : ga_V} {st : List ga_V} (h : ∀ v ∈ a :: st, P v) (hb : P b) : ∀ v ∈ b :: a :: st, P v := List.forall_mem_cons.mpr ⟨hb, h⟩
theorem ga_1 {P : ga_V → Prop} {b : ga_V} {st : List ga_V} (h : ∀ v ∈ st, P v) (hb : P b) : ∀ v ∈ b :: st, P v := List.forall_mem_cons.mpr ⟨hb, h⟩
theorem ga_t {P : ga_V → Prop} {a : ga_V} {st : List ga_V} (h : ∀ v ∈ a :: st, P v) : ∀ v ∈ st, P v := (List.forall_mem_cons.mp h).2
theorem ga_h {P : ga_V → Prop} {a : ga_V} {st : List ga_V} (h : ∀ v ∈ a :: st, P v) : P a := (List.forall_mem_cons.mp h).1
section GA
variable {X : ga_X} {cc : ByteArray} {y : MethodName} {Ts : List Cond} {nw : ga_N} {R0 : Room} {gD : va_G × List vw_C × ClassId × ClassId} {nL0 : Nat}
variable {ce sl K pc : Nat} {lv : Nat → Option ga_V} {st : List ga_V} {σ : ga_S}
theorem ga_iconst (C : ga_C X cc y Ts nw R0 gD nL0) {n : Int} (d : decode cc pc = .ok (.iconst n, 1)) (hr : ga_r n) (k : ga_G X ce sl K (pc + 1) lv (.inl n :: st) σ) : ga_G X ce sl K pc lv (st) σ := by
  obtain ⟨p, l, e, R, s, m, args, below, meth, c, nL, D, cl, cI, cZ, A, Q, K0, ad0⟩ := X
  obtain ⟨⟨hx, hb, hml, hown, hts⟩, hK, hA, hlk, hcl, hnw, hR, hnm, hgD, hnL⟩ := C
  intro ad H locs ls hKK h0 hP hD hS hL hc hst
  exact lv_iconst hx hb d rfl (k ad H locs ls hKK h0 hP hD hS hL hc (ga_1 hst hr))
theorem ga_bipush (C : ga_C X cc y Ts nw R0 gD nL0) {n : Int} (d : decode cc pc = .ok (.bipush n, 2)) (hr : ga_r n) (hn : (Int8.ofInt n).toInt32 = Int32.ofInt n) (k : ga_G X ce sl K (pc + 2) lv (.inl n :: st) σ) : ga_G X ce sl K pc lv (st) σ := by
  obtain ⟨p, l, e, R, s, m, args, below, meth, c, nL, D, cl, cI, cZ, A, Q, K0, ad0⟩ := X
  obtain ⟨⟨hx, hb, hml, hown, hts⟩, hK, hA, hlk, hcl, hnw, hR, hnm, hgD, hnL⟩ := C
  intro ad H locs ls hKK h0 hP hD hS hL hc hst
  exact lv_bipush hx hb d hn (k ad H locs ls hKK h0 hP hD hS hL hc (ga_1 hst hr))
theorem ga_sipush (C : ga_C X cc y Ts nw R0 gD nL0) {n : Int} (d : decode cc pc = .ok (.sipush n, 3)) (hr : ga_r n) (hn : (Int16.ofInt n).toInt32 = Int32.ofInt n) (k : ga_G X ce sl K (pc + 3) lv (.inl n :: st) σ) : ga_G X ce sl K pc lv (st) σ := by
  obtain ⟨p, l, e, R, s, m, args, below, meth, c, nL, D, cl, cI, cZ, A, Q, K0, ad0⟩ := X
  obtain ⟨⟨hx, hb, hml, hown, hts⟩, hK, hA, hlk, hcl, hnw, hR, hnm, hgD, hnL⟩ := C
  intro ad H locs ls hKK h0 hP hD hS hL hc hst
  exact lv_sipush hx hb d hn (k ad H locs ls hKK h0 hP hD hS hL hc (ga_1 hst hr))
theorem ga_iload_n (C : ga_C X cc y Ts nw R0 gD nL0) {q : Fin 4} {i : Nat} {x : Int} (d : decode cc pc = .ok (.iload_n q, 1)) (hq : (q : Nat) = i) (hl : lv i = some (.inl x))  (k : ga_G X ce sl K (pc + 1) lv (.inl x :: st) σ) : ga_G X ce sl K pc lv (st) σ := by
  obtain ⟨p, l, e, R, s, m, args, below, meth, c, nL, D, cl, cI, cZ, A, Q, K0, ad0⟩ := X
  obtain ⟨⟨hx, hb, hml, hown, hts⟩, hK, hA, hlk, hcl, hnw, hR, hnm, hgD, hnL⟩ := C
  intro ad H locs ls hKK h0 hP hD hS hL hc hst
  exact lv_iload_n hx hb d hq (hL.at hl) (k ad H locs ls hKK h0 hP hD hS hL hc (ga_1 hst (hL.2 _ _ hl).2))
theorem ga_iload (C : ga_C X cc y Ts nw R0 gD nL0) {i : Nat} {x : Int} (d : decode cc pc = .ok (.iload i, 2)) (hl : lv i = some (.inl x))  (k : ga_G X ce sl K (pc + 2) lv (.inl x :: st) σ) : ga_G X ce sl K pc lv (st) σ := by
  obtain ⟨p, l, e, R, s, m, args, below, meth, c, nL, D, cl, cI, cZ, A, Q, K0, ad0⟩ := X
  obtain ⟨⟨hx, hb, hml, hown, hts⟩, hK, hA, hlk, hcl, hnw, hR, hnm, hgD, hnL⟩ := C
  intro ad H locs ls hKK h0 hP hD hS hL hc hst
  exact lv_iload hx hb d (hL.at hl) (k ad H locs ls hKK h0 hP hD hS hL hc (ga_1 hst (hL.2 _ _ hl).2))
theorem ga_aload_n (C : ga_C X cc y Ts nw R0 gD nL0) {q : Fin 4} {i : Nat} {x : Nat} (d : decode cc pc = .ok (.aload_n q, 1)) (hq : (q : Nat) = i) (hl : lv i = some (.inr x)) (h1 : x ≠ 0)  (k : ga_G X ce sl K (pc + 1) lv (.inr x :: st) σ) : ga_G X ce sl K pc lv (st) σ := by
  obtain ⟨p, l, e, R, s, m, args, below, meth, c, nL, D, cl, cI, cZ, A, Q, K0, ad0⟩ := X
  obtain ⟨⟨hx, hb, hml, hown, hts⟩, hK, hA, hlk, hcl, hnw, hR, hnm, hgD, hnL⟩ := C
  intro ad H locs ls hKK h0 hP hD hS hL hc hst
  obtain ⟨x, rfl⟩ := Nat.exists_eq_succ_of_ne_zero h1
  exact lv_aload_n hx hb d hq (hL.at hl) (k ad H locs ls hKK h0 hP hD hS hL hc (ga_1 hst (hL.2 _ _ hl).2))
theorem ga_aload (C : ga_C X cc y Ts nw R0 gD nL0) {i : Nat} {x : Nat} (d : decode cc pc = .ok (.aload i, 2)) (hl : lv i = some (.inr x)) (h1 : x ≠ 0)  (k : ga_G X ce sl K (pc + 2) lv (.inr x :: st) σ) : ga_G X ce sl K pc lv (st) σ := by
  obtain ⟨p, l, e, R, s, m, args, below, meth, c, nL, D, cl, cI, cZ, A, Q, K0, ad0⟩ := X
  obtain ⟨⟨hx, hb, hml, hown, hts⟩, hK, hA, hlk, hcl, hnw, hR, hnm, hgD, hnL⟩ := C
  intro ad H locs ls hKK h0 hP hD hS hL hc hst
  obtain ⟨x, rfl⟩ := Nat.exists_eq_succ_of_ne_zero h1
  exact lv_aload hx hb d (hL.at hl) (k ad H locs ls hKK h0 hP hD hS hL hc (ga_1 hst (hL.2 _ _ hl).2))
theorem ga_istore_n (C : ga_C X cc y Ts nw R0 gD nL0) {q : Fin 4} {i : Nat} {x : Int} (d : decode cc pc = .ok (.istore_n q, 1)) (hq : (q : Nat) = i) (hn : i < nL0)  (k : ga_G X ce sl K (pc + 1) (va_up lv i (some (.inl x))) st σ) : ga_G X ce sl K pc lv (.inl x :: st) σ := by
  obtain ⟨p, l, e, R, s, m, args, below, meth, c, nL, D, cl, cI, cZ, A, Q, K0, ad0⟩ := X
  obtain ⟨⟨hx, hb, hml, hown, hts⟩, hK, hA, hlk, hcl, hnw, hR, hnm, hgD, hnL⟩ := C
  intro ad H locs ls hKK h0 hP hD hS hL hc hst
  subst hnL
  exact lv_istore_n hx hb d hq hL.1 hn rfl (fun ls' h' => k ad H locs ls' hKK h0 hP hD hS (ga_L.put hL.2 hn (ga_h hst) h') hc (ga_t hst))
theorem ga_istore (C : ga_C X cc y Ts nw R0 gD nL0) {i : Nat} {x : Int} (d : decode cc pc = .ok (.istore i, 2)) (hn : i < nL0)  (k : ga_G X ce sl K (pc + 2) (va_up lv i (some (.inl x))) st σ) : ga_G X ce sl K pc lv (.inl x :: st) σ := by
  obtain ⟨p, l, e, R, s, m, args, below, meth, c, nL, D, cl, cI, cZ, A, Q, K0, ad0⟩ := X
  obtain ⟨⟨hx, hb, hml, hown, hts⟩, hK, hA, hlk, hcl, hnw, hR, hnm, hgD, hnL⟩ := C
  intro ad H locs ls hKK h0 hP hD hS hL hc hst
  subst hnL
  exact lv_istore hx hb d hL.1 hn rfl (fun ls' h' => k ad H locs ls' hKK h0 hP hD hS (ga_L.put hL.2 hn (ga_h hst) h') hc (ga_t hst))
theorem ga_astore_n (C : ga_C X cc y Ts nw R0 gD nL0) {q : Fin 4} {i : Nat} {x : Nat} (d : decode cc pc = .ok (.astore_n q, 1)) (hq : (q : Nat) = i) (hn : i < nL0) (h1 : x ≠ 0)  (k : ga_G X ce sl K (pc + 1) (va_up lv i (some (.inr x))) st σ) : ga_G X ce sl K pc lv (.inr x :: st) σ := by
  obtain ⟨p, l, e, R, s, m, args, below, meth, c, nL, D, cl, cI, cZ, A, Q, K0, ad0⟩ := X
  obtain ⟨⟨hx, hb, hml, hown, hts⟩, hK, hA, hlk, hcl, hnw, hR, hnm, hgD, hnL⟩ := C
  intro ad H locs ls hKK h0 hP hD hS hL hc hst
  subst hnL
  obtain ⟨x, rfl⟩ := Nat.exists_eq_succ_of_ne_zero h1
  exact lv_astore_n hx hb d hq hL.1 hn rfl (fun ls' h' => k ad H locs ls' hKK h0 hP hD hS (ga_L.put hL.2 hn (ga_h hst) h') hc (ga_t hst))
theorem ga_astore (C : ga_C X cc y Ts nw R0 gD nL0) {i : Nat} {x : Nat} (d : decode cc pc = .ok (.astore i, 2)) (hn : i < nL0) (h1 : x ≠ 0)  (k : ga_G X ce sl K (pc + 2) (va_up lv i (some (.inr x))) st σ) : ga_G X ce sl K pc lv (.inr x :: st) σ := by
  obtain ⟨p, l, e, R, s, m, args, below, meth, c, nL, D, cl, cI, cZ, A, Q, K0, ad0⟩ := X
  obtain ⟨⟨hx, hb, hml, hown, hts⟩, hK, hA, hlk, hcl, hnw, hR, hnm, hgD, hnL⟩ := C
  intro ad H locs ls hKK h0 hP hD hS hL hc hst
  subst hnL
  obtain ⟨x, rfl⟩ := Nat.exists_eq_succ_of_ne_zero h1
  exact lv_astore hx hb d hL.1 hn rfl (fun ls' h' => k ad H locs ls' hKK h0 hP hD hS (ga_L.put hL.2 hn (ga_h hst) h') hc (ga_t hst))
theorem ga_mem_ll {ad : Nat → Nat} {nL i : Nat} {lv : Nat → Option ga_V} {v : ga_V} (hi : i < nL) (hl : lv i = some v) : ∃ k : Nat, (ga_ll ad nL lv)[k]? = some (i, ga_v ad v) := by
  refine List.getElem?_of_mem ?_
  unfold ga_ll
  exact List.mem_filterMap.mpr ⟨i, List.mem_range.mpr hi, by rw [hl]; rfl⟩
theorem ga_iinc (C : ga_C X cc y Ts nw R0 gD nL0) {i : Nat} {x n : Int} (d : decode cc pc = .ok (.iinc i n, 3)) (hl : lv i = some (.inl x)) (hr : ga_r (x + n)) (k : ga_G X ce sl K (pc + 3) (va_up lv i (some (.inl (x + n)))) st σ) : ga_G X ce sl K pc lv (st) σ := by
  obtain ⟨p, l, e, R, s, m, args, below, meth, c, nL, D, cl, cI, cZ, A, Q, K0, ad0⟩ := X
  obtain ⟨⟨hx, hb, hml, hown, hts⟩, hK, hA, hlk, hcl, hnw, hR, hnm, hgD, hnL⟩ := C
  intro ad H locs ls hKK h0 hP hD hS hL hc hst
  have hin := (hL.2 _ _ hl).1
  obtain ⟨q, hq⟩ := ga_mem_ll (ad := ad) hin hl
  exact lv_iinc (v := Int32.ofInt (x + n)) hx hb d hL.1 hq (Int32.ofInt_add x n).symm hin rfl (fun ls' h' => k ad H locs ls' hKK h0 hP hD hS (ga_L.put (v := .inl (x + n)) hL.2 hin hr h') hc hst)
theorem ga_iadd (C : ga_C X cc y Ts nw R0 gD nL0) {x z : Int} (d : decode cc pc = .ok (.iadd, 1)) (hr : ga_r (x + z)) (k : ga_G X ce sl K (pc + 1) lv (.inl (x + z) :: st) σ) : ga_G X ce sl K pc lv (.inl z :: .inl x :: st) σ := by
  obtain ⟨p, l, e, R, s, m, args, below, meth, c, nL, D, cl, cI, cZ, A, Q, K0, ad0⟩ := X
  obtain ⟨⟨hx, hb, hml, hown, hts⟩, hK, hA, hlk, hcl, hnw, hR, hnm, hgD, hnL⟩ := C
  intro ad H locs ls hKK h0 hP hD hS hL hc hst
  have h := k ad H locs ls hKK h0 hP hD hS hL hc (ga_1 (ga_t (ga_t hst)) hr)
  refine lv_iadd hx hb d ?_
  rw [← Int32.ofInt_add]
  exact h
theorem ga_isub (C : ga_C X cc y Ts nw R0 gD nL0) {x z : Int} (d : decode cc pc = .ok (.isub, 1)) (hr : ga_r (x - z)) (k : ga_G X ce sl K (pc + 1) lv (.inl (x - z) :: st) σ) : ga_G X ce sl K pc lv (.inl z :: .inl x :: st) σ := by
  obtain ⟨p, l, e, R, s, m, args, below, meth, c, nL, D, cl, cI, cZ, A, Q, K0, ad0⟩ := X
  obtain ⟨⟨hx, hb, hml, hown, hts⟩, hK, hA, hlk, hcl, hnw, hR, hnm, hgD, hnL⟩ := C
  intro ad H locs ls hKK h0 hP hD hS hL hc hst
  have h := k ad H locs ls hKK h0 hP hD hS hL hc (ga_1 (ga_t (ga_t hst)) hr)
  refine lv_isub hx hb d ?_
  rw [← Int32.ofInt_sub]
  exact h
theorem ga_imul (C : ga_C X cc y Ts nw R0 gD nL0) {x z : Int} (d : decode cc pc = .ok (.imul, 1)) (hr : ga_r (x * z)) (k : ga_G X ce sl K (pc + 1) lv (.inl (x * z) :: st) σ) : ga_G X ce sl K pc lv (.inl z :: .inl x :: st) σ := by
  obtain ⟨p, l, e, R, s, m, args, below, meth, c, nL, D, cl, cI, cZ, A, Q, K0, ad0⟩ := X
  obtain ⟨⟨hx, hb, hml, hown, hts⟩, hK, hA, hlk, hcl, hnw, hR, hnm, hgD, hnL⟩ := C
  intro ad H locs ls hKK h0 hP hD hS hL hc hst
  have h := k ad H locs ls hKK h0 hP hD hS hL hc (ga_1 (ga_t (ga_t hst)) hr)
  refine lv_imul hx hb d ?_
  rw [← Int32.ofInt_mul]
  exact h
theorem ga_ineg (C : ga_C X cc y Ts nw R0 gD nL0) {x : Int} (d : decode cc pc = .ok (.ineg, 1)) (hr : ga_r (-x)) (k : ga_G X ce sl K (pc + 1) lv (.inl (-x) :: st) σ) : ga_G X ce sl K pc lv (.inl x :: st) σ := by
  obtain ⟨p, l, e, R, s, m, args, below, meth, c, nL, D, cl, cI, cZ, A, Q, K0, ad0⟩ := X
  obtain ⟨⟨hx, hb, hml, hown, hts⟩, hK, hA, hlk, hcl, hnw, hR, hnm, hgD, hnL⟩ := C
  intro ad H locs ls hKK h0 hP hD hS hL hc hst
  have h := k ad H locs ls hKK h0 hP hD hS hL hc (ga_1 (ga_t hst) hr)
  refine lv_ineg hx hb d ?_
  rw [← Int32.ofInt_neg]
  exact h
theorem ga_tdiv_r {x z : Int} (hx : ga_r x) (h2 : 2 ≤ z) : ga_r (x.tdiv z) := by
  unfold ga_r at hx ⊢
  obtain ⟨k, rfl⟩ : ∃ n : Nat, z = (n : Int) := ⟨z.natAbs, by omega⟩
  rcases Int.lt_or_le x 0 with h | h
  · obtain ⟨n, rfl⟩ : ∃ n : Nat, x = -(n : Int) := ⟨x.natAbs, by omega⟩
    rw [Int.neg_tdiv, Int.tdiv_eq_ediv_of_nonneg (by omega)]
    have h4 : 0 ≤ (n : Int) / k := Int.ediv_nonneg (by omega) (by omega)
    have h3 : n / k ≤ n := Nat.div_le_self _ _
    omega
  · obtain ⟨n, rfl⟩ : ∃ n : Nat, x = (n : Int) := ⟨x.natAbs, by omega⟩
    rw [Int.tdiv_eq_ediv_of_nonneg (by omega)]
    have h4 : 0 ≤ (n : Int) / k := Int.ediv_nonneg (by omega) (by omega)
    have h3 : n / k ≤ n := Nat.div_le_self _ _
    omega
theorem ga_idiv (C : ga_C X cc y Ts nw R0 gD nL0) {x z : Int} (d : decode cc pc = .ok (.idiv, 1)) (h2 : 2 ≤ z) (k : ga_G X ce sl K (pc + 1) lv (.inl (x.tdiv z) :: st) σ) : ga_G X ce sl K pc lv (.inl z :: .inl x :: st) σ := by
  obtain ⟨p, l, e, R, s, m, args, below, meth, c, nL, D, cl, cI, cZ, A, Q, K0, ad0⟩ := X
  obtain ⟨⟨hx, hb, hml, hown, hts⟩, hK, hA, hlk, hcl, hnw, hR, hnm, hgD, hnL⟩ := C
  intro ad H locs ls hKK h0 hP hD hS hL hc hst
  have hrz : ga_r z := ga_h hst
  have hrx : ga_r x := ga_h (ga_t hst)
  have h := k ad H locs ls hKK h0 hP hD hS hL hc (ga_1 (ga_t (ga_t hst)) (ga_tdiv_r hrx h2))
  refine lv_idiv hx hb d (by rw [ga_z0, ga_eq hrz ga_r0]; omega) ?_
  rw [ga_tdiv hrx hrz (by omega)]
  exact h
theorem ga_irem (C : ga_C X cc y Ts nw R0 gD nL0) {x z : Int} (d : decode cc pc = .ok (.irem, 1)) (h2 : 2 ≤ z) (h1 : 0 ≤ x) (k : ga_G X ce sl K (pc + 1) lv (.inl (x % z) :: st) σ) : ga_G X ce sl K pc lv (.inl z :: .inl x :: st) σ := by
  obtain ⟨p, l, e, R, s, m, args, below, meth, c, nL, D, cl, cI, cZ, A, Q, K0, ad0⟩ := X
  obtain ⟨⟨hx, hb, hml, hown, hts⟩, hK, hA, hlk, hcl, hnw, hR, hnm, hgD, hnL⟩ := C
  intro ad H locs ls hKK h0 hP hD hS hL hc hst
  have hrz : ga_r z := ga_h hst
  have hrx : ga_r x := ga_h (ga_t hst)
  have h3 : 0 ≤ x % z := Int.emod_nonneg x (by omega)
  have h4 : x % z < z := Int.emod_lt_of_pos x (by omega)
  have h := k ad H locs ls hKK h0 hP hD hS hL hc (ga_1 (ga_t (ga_t hst)) (show ga_r (x % z) from ⟨by omega, by have := hrz.2; omega⟩))
  refine lv_irem hx hb d (by rw [ga_z0, ga_eq hrz ga_r0]; omega) ?_
  rw [ga_tdiv hrx hrz (by omega), ← Int32.ofInt_mul, ← Int32.ofInt_sub, Int.tdiv_eq_ediv_of_nonneg h1, show x - x / z * z = x % z by rw [Int.emod_def, Int.mul_comm]]
  exact h
theorem ga_dup (C : ga_C X cc y Ts nw R0 gD nL0) {v : ga_V} (d : decode cc pc = .ok (.dup, 1)) (k : ga_G X ce sl K (pc + 1) lv (v :: v :: st) σ) : ga_G X ce sl K pc lv (v :: st) σ := by
  obtain ⟨p, l, e, R, s, m, args, below, meth, c, nL, D, cl, cI, cZ, A, Q, K0, ad0⟩ := X
  obtain ⟨⟨hx, hb, hml, hown, hts⟩, hK, hA, hlk, hcl, hnw, hR, hnm, hgD, hnL⟩ := C
  intro ad H locs ls hKK h0 hP hD hS hL hc hst
  exact lv_dup hx hb d (ga_v_cat ad v) (k ad H locs ls hKK h0 hP hD hS hL hc (ga_1 hst (ga_h hst)))
theorem ga_pop (C : ga_C X cc y Ts nw R0 gD nL0) {v : ga_V} (d : decode cc pc = .ok (.pop, 1)) (k : ga_G X ce sl K (pc + 1) lv st σ) : ga_G X ce sl K pc lv (v :: st) σ := by
  obtain ⟨p, l, e, R, s, m, args, below, meth, c, nL, D, cl, cI, cZ, A, Q, K0, ad0⟩ := X
  obtain ⟨⟨hx, hb, hml, hown, hts⟩, hK, hA, hlk, hcl, hnw, hR, hnm, hgD, hnL⟩ := C
  intro ad H locs ls hKK h0 hP hD hS hL hc hst
  exact lv_pop hx hb d (ga_v_cat ad v) (k ad H locs ls hKK h0 hP hD hS hL hc (ga_t hst))
theorem ga_dup_x1 (C : ga_C X cc y Ts nw R0 gD nL0) {v u : ga_V} (d : decode cc pc = .ok (.dup_x1, 1)) (k : ga_G X ce sl K (pc + 1) lv (v :: u :: v :: st) σ) : ga_G X ce sl K pc lv (v :: u :: st) σ := by
  obtain ⟨p, l, e, R, s, m, args, below, meth, c, nL, D, cl, cI, cZ, A, Q, K0, ad0⟩ := X
  obtain ⟨⟨hx, hb, hml, hown, hts⟩, hK, hA, hlk, hcl, hnw, hR, hnm, hgD, hnL⟩ := C
  intro ad H locs ls hKK h0 hP hD hS hL hc hst
  exact lv_dup_x1 hx hb d (ga_v_cat ad v) (ga_v_cat ad u) (k ad H locs ls hKK h0 hP hD hS hL hc (ga_1 (ga_1 (ga_1 (ga_t (ga_t hst)) (ga_h hst)) (ga_h (ga_t hst))) (ga_h hst)))
theorem ga_dup2 (C : ga_C X cc y Ts nw R0 gD nL0) {v u : ga_V} (d : decode cc pc = .ok (.dup2, 1)) (k : ga_G X ce sl K (pc + 1) lv (v :: u :: v :: u :: st) σ) : ga_G X ce sl K pc lv (v :: u :: st) σ := by
  obtain ⟨p, l, e, R, s, m, args, below, meth, c, nL, D, cl, cI, cZ, A, Q, K0, ad0⟩ := X
  obtain ⟨⟨hx, hb, hml, hown, hts⟩, hK, hA, hlk, hcl, hnw, hR, hnm, hgD, hnL⟩ := C
  intro ad H locs ls hKK h0 hP hD hS hL hc hst
  exact lv_dup2_11 hx hb d (ga_v_cat ad v) (ga_v_cat ad u) (k ad H locs ls hKK h0 hP hD hS hL hc (ga_1 (ga_1 hst (ga_h (ga_t hst))) (ga_h hst)))
theorem ga_icmp_eq (C : ga_C X cc y Ts nw R0 gD nL0) {x z : Int} {off : Int} {tgt : Nat} (d : decode cc pc = .ok (.if_icmp .eq off, 3)) (ht : (pc : Int) + off = (tgt : Int)) (kt : x = z → ga_G X ce sl K tgt lv st σ) (kf : ¬ x = z → ga_G X ce sl K (pc + 3) lv st σ) : ga_G X ce sl K pc lv (.inl z :: .inl x :: st) σ := by
  obtain ⟨p, l, e, R, s, m, args, below, meth, c, nL, D, cl, cI, cZ, A, Q, K0, ad0⟩ := X
  obtain ⟨⟨hx, hb, hml, hown, hts⟩, hK, hA, hlk, hcl, hnw, hR, hnm, hgD, hnL⟩ := C
  intro ad H locs ls hKK h0 hP hD hS hL hc hst
  have hz1 : ga_r z := ga_h hst
  have hx1 : ga_r x := ga_h (ga_t hst)
  exact lv_icmp_eq hx hb d ht (fun q => kt ((ga_eq hx1 hz1).mp q) ad H locs ls hKK h0 hP hD hS hL hc (ga_t (ga_t hst))) (fun q => kf (fun q2 => q ((ga_eq hx1 hz1).mpr q2)) ad H locs ls hKK h0 hP hD hS hL hc (ga_t (ga_t hst)))
theorem ga_if_eq (C : ga_C X cc y Ts nw R0 gD nL0) {x : Int} {off : Int} {tgt : Nat} (d : decode cc pc = .ok (.ifCond .eq off, 3)) (ht : (pc : Int) + off = (tgt : Int)) (kt : x = 0 → ga_G X ce sl K tgt lv st σ) (kf : ¬ x = 0 → ga_G X ce sl K (pc + 3) lv st σ) : ga_G X ce sl K pc lv (.inl x :: st) σ := by
  obtain ⟨p, l, e, R, s, m, args, below, meth, c, nL, D, cl, cI, cZ, A, Q, K0, ad0⟩ := X
  obtain ⟨⟨hx, hb, hml, hown, hts⟩, hK, hA, hlk, hcl, hnw, hR, hnm, hgD, hnL⟩ := C
  intro ad H locs ls hKK h0 hP hD hS hL hc hst
  have hx1 : ga_r x := ga_h hst
  have hz1 := ga_r0
  exact lv_if_eq hx hb d ht (fun q => kt ((ga_eq hx1 hz1).mp q) ad H locs ls hKK h0 hP hD hS hL hc (ga_t hst)) (fun q => kf (fun q2 => q ((ga_eq hx1 hz1).mpr q2)) ad H locs ls hKK h0 hP hD hS hL hc (ga_t hst))
theorem ga_icmp_ne (C : ga_C X cc y Ts nw R0 gD nL0) {x z : Int} {off : Int} {tgt : Nat} (d : decode cc pc = .ok (.if_icmp .ne off, 3)) (ht : (pc : Int) + off = (tgt : Int)) (kt : ¬ x = z → ga_G X ce sl K tgt lv st σ) (kf : x = z → ga_G X ce sl K (pc + 3) lv st σ) : ga_G X ce sl K pc lv (.inl z :: .inl x :: st) σ := by
  obtain ⟨p, l, e, R, s, m, args, below, meth, c, nL, D, cl, cI, cZ, A, Q, K0, ad0⟩ := X
  obtain ⟨⟨hx, hb, hml, hown, hts⟩, hK, hA, hlk, hcl, hnw, hR, hnm, hgD, hnL⟩ := C
  intro ad H locs ls hKK h0 hP hD hS hL hc hst
  have hz1 : ga_r z := ga_h hst
  have hx1 : ga_r x := ga_h (ga_t hst)
  exact lv_icmp_ne hx hb d ht (fun q => kt (fun q2 => q ((ga_eq hx1 hz1).mpr q2)) ad H locs ls hKK h0 hP hD hS hL hc (ga_t (ga_t hst))) (fun q => kf ((ga_eq hx1 hz1).mp q) ad H locs ls hKK h0 hP hD hS hL hc (ga_t (ga_t hst)))
theorem ga_if_ne (C : ga_C X cc y Ts nw R0 gD nL0) {x : Int} {off : Int} {tgt : Nat} (d : decode cc pc = .ok (.ifCond .ne off, 3)) (ht : (pc : Int) + off = (tgt : Int)) (kt : ¬ x = 0 → ga_G X ce sl K tgt lv st σ) (kf : x = 0 → ga_G X ce sl K (pc + 3) lv st σ) : ga_G X ce sl K pc lv (.inl x :: st) σ := by
  obtain ⟨p, l, e, R, s, m, args, below, meth, c, nL, D, cl, cI, cZ, A, Q, K0, ad0⟩ := X
  obtain ⟨⟨hx, hb, hml, hown, hts⟩, hK, hA, hlk, hcl, hnw, hR, hnm, hgD, hnL⟩ := C
  intro ad H locs ls hKK h0 hP hD hS hL hc hst
  have hx1 : ga_r x := ga_h hst
  have hz1 := ga_r0
  exact lv_if_ne hx hb d ht (fun q => kt (fun q2 => q ((ga_eq hx1 hz1).mpr q2)) ad H locs ls hKK h0 hP hD hS hL hc (ga_t hst)) (fun q => kf ((ga_eq hx1 hz1).mp q) ad H locs ls hKK h0 hP hD hS hL hc (ga_t hst))
theorem ga_icmp_lt (C : ga_C X cc y Ts nw R0 gD nL0) {x z : Int} {off : Int} {tgt : Nat} (d : decode cc pc = .ok (.if_icmp .lt off, 3)) (ht : (pc : Int) + off = (tgt : Int)) (kt : x < z → ga_G X ce sl K tgt lv st σ) (kf : ¬ (x < z) → ga_G X ce sl K (pc + 3) lv st σ) : ga_G X ce sl K pc lv (.inl z :: .inl x :: st) σ := by
  obtain ⟨p, l, e, R, s, m, args, below, meth, c, nL, D, cl, cI, cZ, A, Q, K0, ad0⟩ := X
  obtain ⟨⟨hx, hb, hml, hown, hts⟩, hK, hA, hlk, hcl, hnw, hR, hnm, hgD, hnL⟩ := C
  intro ad H locs ls hKK h0 hP hD hS hL hc hst
  have hz1 : ga_r z := ga_h hst
  have hx1 : ga_r x := ga_h (ga_t hst)
  exact lv_icmp_lt hx hb d ht (fun q => kt ((ga_lt hx1 hz1).mp q) ad H locs ls hKK h0 hP hD hS hL hc (ga_t (ga_t hst))) (fun q => kf (fun q2 => q ((ga_lt hx1 hz1).mpr q2)) ad H locs ls hKK h0 hP hD hS hL hc (ga_t (ga_t hst)))
theorem ga_if_lt (C : ga_C X cc y Ts nw R0 gD nL0) {x : Int} {off : Int} {tgt : Nat} (d : decode cc pc = .ok (.ifCond .lt off, 3)) (ht : (pc : Int) + off = (tgt : Int)) (kt : x < 0 → ga_G X ce sl K tgt lv st σ) (kf : ¬ (x < 0) → ga_G X ce sl K (pc + 3) lv st σ) : ga_G X ce sl K pc lv (.inl x :: st) σ := by
  obtain ⟨p, l, e, R, s, m, args, below, meth, c, nL, D, cl, cI, cZ, A, Q, K0, ad0⟩ := X
  obtain ⟨⟨hx, hb, hml, hown, hts⟩, hK, hA, hlk, hcl, hnw, hR, hnm, hgD, hnL⟩ := C
  intro ad H locs ls hKK h0 hP hD hS hL hc hst
  have hx1 : ga_r x := ga_h hst
  have hz1 := ga_r0
  exact lv_if_lt hx hb d ht (fun q => kt ((ga_lt hx1 hz1).mp q) ad H locs ls hKK h0 hP hD hS hL hc (ga_t hst)) (fun q => kf (fun q2 => q ((ga_lt hx1 hz1).mpr q2)) ad H locs ls hKK h0 hP hD hS hL hc (ga_t hst))
theorem ga_icmp_ge (C : ga_C X cc y Ts nw R0 gD nL0) {x z : Int} {off : Int} {tgt : Nat} (d : decode cc pc = .ok (.if_icmp .ge off, 3)) (ht : (pc : Int) + off = (tgt : Int)) (kt : z ≤ x → ga_G X ce sl K tgt lv st σ) (kf : ¬ (z ≤ x) → ga_G X ce sl K (pc + 3) lv st σ) : ga_G X ce sl K pc lv (.inl z :: .inl x :: st) σ := by
  obtain ⟨p, l, e, R, s, m, args, below, meth, c, nL, D, cl, cI, cZ, A, Q, K0, ad0⟩ := X
  obtain ⟨⟨hx, hb, hml, hown, hts⟩, hK, hA, hlk, hcl, hnw, hR, hnm, hgD, hnL⟩ := C
  intro ad H locs ls hKK h0 hP hD hS hL hc hst
  have hz1 : ga_r z := ga_h hst
  have hx1 : ga_r x := ga_h (ga_t hst)
  exact lv_icmp_ge hx hb d ht (fun q => kt ((ga_le hz1 hx1).mp q) ad H locs ls hKK h0 hP hD hS hL hc (ga_t (ga_t hst))) (fun q => kf (fun q2 => q ((ga_le hz1 hx1).mpr q2)) ad H locs ls hKK h0 hP hD hS hL hc (ga_t (ga_t hst)))
theorem ga_if_ge (C : ga_C X cc y Ts nw R0 gD nL0) {x : Int} {off : Int} {tgt : Nat} (d : decode cc pc = .ok (.ifCond .ge off, 3)) (ht : (pc : Int) + off = (tgt : Int)) (kt : 0 ≤ x → ga_G X ce sl K tgt lv st σ) (kf : ¬ (0 ≤ x) → ga_G X ce sl K (pc + 3) lv st σ) : ga_G X ce sl K pc lv (.inl x :: st) σ := by
  obtain ⟨p, l, e, R, s, m, args, below, meth, c, nL, D, cl, cI, cZ, A, Q, K0, ad0⟩ := X
  obtain ⟨⟨hx, hb, hml, hown, hts⟩, hK, hA, hlk, hcl, hnw, hR, hnm, hgD, hnL⟩ := C
  intro ad H locs ls hKK h0 hP hD hS hL hc hst
  have hx1 : ga_r x := ga_h hst
  have hz1 := ga_r0
  exact lv_if_ge hx hb d ht (fun q => kt ((ga_le hz1 hx1).mp q) ad H locs ls hKK h0 hP hD hS hL hc (ga_t hst)) (fun q => kf (fun q2 => q ((ga_le hz1 hx1).mpr q2)) ad H locs ls hKK h0 hP hD hS hL hc (ga_t hst))
theorem ga_icmp_gt (C : ga_C X cc y Ts nw R0 gD nL0) {x z : Int} {off : Int} {tgt : Nat} (d : decode cc pc = .ok (.if_icmp .gt off, 3)) (ht : (pc : Int) + off = (tgt : Int)) (kt : z < x → ga_G X ce sl K tgt lv st σ) (kf : ¬ (z < x) → ga_G X ce sl K (pc + 3) lv st σ) : ga_G X ce sl K pc lv (.inl z :: .inl x :: st) σ := by
  obtain ⟨p, l, e, R, s, m, args, below, meth, c, nL, D, cl, cI, cZ, A, Q, K0, ad0⟩ := X
  obtain ⟨⟨hx, hb, hml, hown, hts⟩, hK, hA, hlk, hcl, hnw, hR, hnm, hgD, hnL⟩ := C
  intro ad H locs ls hKK h0 hP hD hS hL hc hst
  have hz1 : ga_r z := ga_h hst
  have hx1 : ga_r x := ga_h (ga_t hst)
  exact lv_icmp_gt hx hb d ht (fun q => kt ((ga_lt hz1 hx1).mp q) ad H locs ls hKK h0 hP hD hS hL hc (ga_t (ga_t hst))) (fun q => kf (fun q2 => q ((ga_lt hz1 hx1).mpr q2)) ad H locs ls hKK h0 hP hD hS hL hc (ga_t (ga_t hst)))
theorem ga_if_gt (C : ga_C X cc y Ts nw R0 gD nL0) {x : Int} {off : Int} {tgt : Nat} (d : decode cc pc = .ok (.ifCond .gt off, 3)) (ht : (pc : Int) + off = (tgt : Int)) (kt : 0 < x → ga_G X ce sl K tgt lv st σ) (kf : ¬ (0 < x) → ga_G X ce sl K (pc + 3) lv st σ) : ga_G X ce sl K pc lv (.inl x :: st) σ := by
  obtain ⟨p, l, e, R, s, m, args, below, meth, c, nL, D, cl, cI, cZ, A, Q, K0, ad0⟩ := X
  obtain ⟨⟨hx, hb, hml, hown, hts⟩, hK, hA, hlk, hcl, hnw, hR, hnm, hgD, hnL⟩ := C
  intro ad H locs ls hKK h0 hP hD hS hL hc hst
  have hx1 : ga_r x := ga_h hst
  have hz1 := ga_r0
  exact lv_if_gt hx hb d ht (fun q => kt ((ga_lt hz1 hx1).mp q) ad H locs ls hKK h0 hP hD hS hL hc (ga_t hst)) (fun q => kf (fun q2 => q ((ga_lt hz1 hx1).mpr q2)) ad H locs ls hKK h0 hP hD hS hL hc (ga_t hst))
theorem ga_icmp_le (C : ga_C X cc y Ts nw R0 gD nL0) {x z : Int} {off : Int} {tgt : Nat} (d : decode cc pc = .ok (.if_icmp .le off, 3)) (ht : (pc : Int) + off = (tgt : Int)) (kt : x ≤ z → ga_G X ce sl K tgt lv st σ) (kf : ¬ (x ≤ z) → ga_G X ce sl K (pc + 3) lv st σ) : ga_G X ce sl K pc lv (.inl z :: .inl x :: st) σ := by
  obtain ⟨p, l, e, R, s, m, args, below, meth, c, nL, D, cl, cI, cZ, A, Q, K0, ad0⟩ := X
  obtain ⟨⟨hx, hb, hml, hown, hts⟩, hK, hA, hlk, hcl, hnw, hR, hnm, hgD, hnL⟩ := C
  intro ad H locs ls hKK h0 hP hD hS hL hc hst
  have hz1 : ga_r z := ga_h hst
  have hx1 : ga_r x := ga_h (ga_t hst)
  exact lv_icmp_le hx hb d ht (fun q => kt ((ga_le hx1 hz1).mp q) ad H locs ls hKK h0 hP hD hS hL hc (ga_t (ga_t hst))) (fun q => kf (fun q2 => q ((ga_le hx1 hz1).mpr q2)) ad H locs ls hKK h0 hP hD hS hL hc (ga_t (ga_t hst)))
theorem ga_if_le (C : ga_C X cc y Ts nw R0 gD nL0) {x : Int} {off : Int} {tgt : Nat} (d : decode cc pc = .ok (.ifCond .le off, 3)) (ht : (pc : Int) + off = (tgt : Int)) (kt : x ≤ 0 → ga_G X ce sl K tgt lv st σ) (kf : ¬ (x ≤ 0) → ga_G X ce sl K (pc + 3) lv st σ) : ga_G X ce sl K pc lv (.inl x :: st) σ := by
  obtain ⟨p, l, e, R, s, m, args, below, meth, c, nL, D, cl, cI, cZ, A, Q, K0, ad0⟩ := X
  obtain ⟨⟨hx, hb, hml, hown, hts⟩, hK, hA, hlk, hcl, hnw, hR, hnm, hgD, hnL⟩ := C
  intro ad H locs ls hKK h0 hP hD hS hL hc hst
  have hx1 : ga_r x := ga_h hst
  have hz1 := ga_r0
  exact lv_if_le hx hb d ht (fun q => kt ((ga_le hx1 hz1).mp q) ad H locs ls hKK h0 hP hD hS hL hc (ga_t hst)) (fun q => kf (fun q2 => q ((ga_le hx1 hz1).mpr q2)) ad H locs ls hKK h0 hP hD hS hL hc (ga_t hst))
theorem ga_goto (C : ga_C X cc y Ts nw R0 gD nL0) {off : Int} {tgt : Nat} (d : decode cc pc = .ok (.goto off, 3)) (ht : (pc : Int) + off = (tgt : Int)) (k : ga_G X ce sl K tgt lv st σ) : ga_G X ce sl K pc lv (st) σ := by
  obtain ⟨p, l, e, R, s, m, args, below, meth, c, nL, D, cl, cI, cZ, A, Q, K0, ad0⟩ := X
  obtain ⟨⟨hx, hb, hml, hown, hts⟩, hK, hA, hlk, hcl, hnw, hR, hnm, hgD, hnL⟩ := C
  intro ad H locs ls hKK h0 hP hD hS hL hc hst
  exact lv_goto hx hb d ht (k ad H locs ls hKK h0 hP hD hS hL hc hst)
theorem ga_tabOut (C : ga_C X cc y Ts nw R0 gD nL0) {dflt lo hi : Int} {offs : Array Int} {len : Nat} {x : Int} {tgt : Nat} (d : decode cc pc = .ok (.tableswitch dflt lo hi offs, len)) (h : x < lo ∨ hi < x) (ht : (pc : Int) + dflt = (tgt : Int)) (k : ga_G X ce sl K tgt lv st σ) : ga_G X ce sl K pc lv (.inl x :: st) σ := by
  obtain ⟨p, l, e, R, s, m, args, below, meth, c, nL, D, cl, cI, cZ, A, Q, K0, ad0⟩ := X
  obtain ⟨⟨hx, hb, hml, hown, hts⟩, hK, hA, hlk, hcl, hnw, hR, hnm, hgD, hnL⟩ := C
  intro ad H locs ls hKK h0 hP hD hS hL hc hst
  have hx1 : ga_r x := ga_h hst
  exact lv_tableOut hx hb d (by rw [ga_of hx1]; exact h) ht (k ad H locs ls hKK h0 hP hD hS hL hc (ga_t hst))
theorem ga_tabIn (C : ga_C X cc y Ts nw R0 gD nL0) {dflt lo hi : Int} {offs : Array Int} {len : Nat} {x off : Int} {tgt : Nat} (d : decode cc pc = .ok (.tableswitch dflt lo hi offs, len)) (h1 : ¬ x < lo) (h2 : ¬ hi < x) (ho : offs[(x - lo).toNat]? = some off) (ht : (pc : Int) + off = (tgt : Int)) (k : ga_G X ce sl K tgt lv st σ) : ga_G X ce sl K pc lv (.inl x :: st) σ := by
  obtain ⟨p, l, e, R, s, m, args, below, meth, c, nL, D, cl, cI, cZ, A, Q, K0, ad0⟩ := X
  obtain ⟨⟨hx, hb, hml, hown, hts⟩, hK, hA, hlk, hcl, hnw, hR, hnm, hgD, hnL⟩ := C
  intro ad H locs ls hKK h0 hP hD hS hL hc hst
  have hx1 : ga_r x := ga_h hst
  exact lv_tableIn hx hb d (by rw [ga_of hx1]; exact h1) (by rw [ga_of hx1]; exact h2) (by rw [ga_of hx1]; exact ho) ht (k ad H locs ls hKK h0 hP hD hS hL hc (ga_t hst))
theorem ga_at {K a : Nat} {σ : ga_S} (hc : ga_cS K σ) (h : σ a ≠ ga_no) : ∃ b, a = b + 1 ∧ b < K := by
  rcases Nat.eq_zero_or_pos a with h1 | h1
  · exact absurd (hc.2 a (Or.inl h1)) h
  · rcases Nat.lt_or_ge K a with h2 | h2
    · exact absurd (hc.2 a (Or.inr h2)) h
    · exact ⟨a - 1, by omega, by omega⟩
theorem ga_obj {cl : List vw_C} {ci : Nat} {fs : List ga_V} {q : vw_C} (hcl : cl.length ≤ 1000000) (hci : cl[ci]? = some q) : (Sum.inr (ci, fs) : ga_E) ≠ ga_no := by
  intro h
  unfold ga_no at h
  have h2 := congrArg Prod.fst (Sum.inr.inj h)
  have h3 := (List.getElem?_eq_some_iff.mp hci).1
  simp only at h2
  omega
theorem ga_arr {a : Bool × Nat × (Nat → Int)} : (Sum.inl a : ga_E) ≠ ga_no := by intro h; cases h
theorem ga_cS.set {K a : Nat} {σ : ga_S} {x : ga_E} (h : ga_cS K σ) (h1 : 1 ≤ a) (h2 : a ≤ K) (hx : ga_cE K x) : ga_cS K (va_up σ a x) := by
  refine ⟨fun k => ?_, fun k hk => ?_⟩
  · unfold va_up
    split
    · exact hx
    · exact h.1 k
  · unfold va_up
    rw [if_neg (by omega)]
    exact h.2 k hk
theorem ga_get (C : ga_C X cc y Ts nw R0 gD nL0) {Cn : String} {T : u_T} {N ci i a j : Nat} {fs : List ga_V} {v : ga_V} (hin : ∀ w ∈ u_ws Cn T N, w ∈ Ts) (hσ : σ a = .inr (ci, fs)) (hc1 : gD.2.1[ci]? = some (Cn, T, N)) (hj : j < N) (hl : Cond.fieldLink y.cls i (T j).1 (T j).2.1 (T j).2.2.1 ∈ Ts) (hv : fs[j]? = some v) (d : decode cc pc = .ok (.getfield i, 3)) (k : ga_G X ce sl K (pc + 3) lv (v :: st) σ) : ga_G X ce sl K pc lv (.inr a :: st) σ := by
  obtain ⟨p, l, e, R, s, m, args, below, meth, c, nL, D, cl, cI, cZ, A, Q, K0, ad0⟩ := X
  obtain ⟨⟨hx, hb, hml, hown, hts⟩, hK, hA, hlk, hcl, hnw, hR, hnm, hgD, hnL⟩ := C
  intro ad H locs ls hKK h0 hP hD hS hL hc hst
  subst hgD
  obtain ⟨b, rfl, hbK⟩ := ga_at hc (by rw [hσ]; exact ga_obj hcl hc1)
  have hw := ga_w_get ad cI cZ σ hbK
  rw [hσ] at hw
  have hcv : ga_cV K v := by
    have := hc.1 (b + 1)
    rw [hσ] at this
    exact this v (List.mem_of_getElem? hv)
  exact va_get hx hb hts hin hown hK hP b hw hc1 j hj (hts _ hl) (fun _ h => h) (v := ga_v ad v) (by rw [List.getElem?_map, hv]; rfl) d (k ad H locs ls hKK h0 hP hD hS hL hc (ga_1 (ga_t hst) hcv))
theorem ga_put (C : ga_C X cc y Ts nw R0 gD nL0) {Cn : String} {T : u_T} {N ci i a j : Nat} {fs : List ga_V} {v : ga_V} {ty : FieldType} (hin : ∀ w ∈ u_ws Cn T N, w ∈ Ts) (ty0 : Nat → FieldType) (hty : ∀ k, k < N → parseFieldDescriptor (T k).2.2.1 = some (ty0 k)) (hnmT : ∀ a, a < N → ∀ b, b < N → a ≠ b → (T a).2.1 ≠ (T b).2.1) (hσ : σ a = .inr (ci, fs)) (hc1 : gD.2.1[ci]? = some (Cn, T, N)) (hj : j < N) (hl : Cond.fieldLink y.cls i (T j).1 (T j).2.1 (T j).2.2.1 ∈ Ts) (hfin : (T j).2.2.2 = false) (hd : parseFieldDescriptor (T j).2.2.1 = some ty) (hnf : ∀ ad, narrow ty (ga_v ad v) = ga_v ad v ∧ fits ty (ga_v ad v) = true) (hlen : j < fs.length) (d : decode cc pc = .ok (.putfield i, 3)) (k : ga_G X ce sl K (pc + 3) lv st (va_up σ a (.inr (ci, fs.set j v)))) : ga_G X ce sl K pc lv (v :: .inr a :: st) σ := by
  obtain ⟨p, l, e, R, s, m, args, below, meth, c, nL, D, cl, cI, cZ, A, Q, K0, ad0⟩ := X
  obtain ⟨⟨hx, hb, hml, hown, hts⟩, hK, hA, hlk, hcl, hnw, hR, hnm, hgD, hnL⟩ := C
  intro ad H locs ls hKK h0 hP hD hS hL hc hst
  subst hgD
  obtain ⟨b, rfl, hbK⟩ := ga_at hc (by rw [hσ]; exact ga_obj hcl hc1)
  have hw := ga_w_get ad cI cZ σ hbK
  rw [hσ] at hw
  have hcE : ga_cE K (.inr (ci, fs.set j v)) := by
    have := hc.1 (b + 1)
    rw [hσ] at this
    intro u hu
    rcases List.mem_or_eq_of_mem_set hu with h | h
    · exact this u h
    · rw [h]; exact ga_h hst
  refine va_put hx hb hts hin ty0 hty hnmT hown hK hP hD hS b hw hc1 j hj (hts _ hl) (fun _ h => h) hfin (v := ga_v ad v) hd (hnf ad).1 (hnf ad).2 (by rw [List.length_map]; exact hlen) d (fun H1 locs1 hP1 hD1 hS1 => ?_)
  have he : (ad (b + 1), Sum.inr (ci, (fs.map (ga_v ad)).set j (ga_v ad v))) = (ad (b + 1), ga_e ad cI cZ (.inr (ci, fs.set j v))) := by
    show _ = (ad (b + 1), Sum.inr (ci, (fs.set j v).map (ga_v ad)))
    rw [List.map_set]
  rw [he, ga_w_set] at hP1 hD1
  exact k ad H1 locs1 ls hKK h0 hP1 hD1 hS1 hL (hc.set (by omega) (by omega) hcE) (ga_t (ga_t hst))
theorem ga_putF (C : ga_C X cc y Ts nw R0 gD nL0) {Cn : String} {T : u_T} {N ci i a j : Nat} {fs : List ga_V} {v : ga_V} {ty : FieldType} (hin : ∀ w ∈ u_ws Cn T N, w ∈ Ts) (ty0 : Nat → FieldType) (hty : ∀ k, k < N → parseFieldDescriptor (T k).2.2.1 = some (ty0 k)) (hnmT : ∀ a, a < N → ∀ b, b < N → a ≠ b → (T a).2.1 ≠ (T b).2.1) (hσ : σ a = .inr (ci, fs)) (hc1 : gD.2.1[ci]? = some (Cn, T, N)) (hj : j < N) (hl : Cond.fieldLink y.cls i (T j).1 (T j).2.1 (T j).2.2.1 ∈ Ts) (hfin : (T j).2.2.2 = true) (hin2 : y.name = "<init>") (hdecl : (T j).1 = y.cls) (hd : parseFieldDescriptor (T j).2.2.1 = some ty) (hnf : ∀ ad, narrow ty (ga_v ad v) = ga_v ad v ∧ fits ty (ga_v ad v) = true) (hlen : j < fs.length) (d : decode cc pc = .ok (.putfield i, 3)) (k : ga_G X ce sl K (pc + 3) lv st (va_up σ a (.inr (ci, fs.set j v)))) : ga_G X ce sl K pc lv (v :: .inr a :: st) σ := by
  obtain ⟨p, l, e, R, s, m, args, below, meth, c, nL, D, cl, cI, cZ, A, Q, K0, ad0⟩ := X
  obtain ⟨⟨hx, hb, hml, hown, hts⟩, hK, hA, hlk, hcl, hnw, hR, hnm, hgD, hnL⟩ := C
  intro ad H locs ls hKK h0 hP hD hS hL hc hst
  subst hgD
  obtain ⟨b, rfl, hbK⟩ := ga_at hc (by rw [hσ]; exact ga_obj hcl hc1)
  have hw := ga_w_get ad cI cZ σ hbK
  rw [hσ] at hw
  have hcE : ga_cE K (.inr (ci, fs.set j v)) := by
    have := hc.1 (b + 1)
    rw [hσ] at this
    intro u hu
    rcases List.mem_or_eq_of_mem_set hu with h | h
    · exact this u h
    · rw [h]; exact ga_h hst
  refine va_putF hx hb hts hin ty0 hty hnmT hown hK hP hD hS b hw hc1 j hj (hts _ hl) (fun _ h => h) hfin (hnm.trans hin2) hdecl (v := ga_v ad v) hd (hnf ad).1 (hnf ad).2 (by rw [List.length_map]; exact hlen) d (fun H1 locs1 hP1 hD1 hS1 => ?_)
  have he : (ad (b + 1), Sum.inr (ci, (fs.map (ga_v ad)).set j (ga_v ad v))) = (ad (b + 1), ga_e ad cI cZ (.inr (ci, fs.set j v))) := by
    show _ = (ad (b + 1), Sum.inr (ci, (fs.set j v).map (ga_v ad)))
    rw [List.map_set]
  rw [he, ga_w_set] at hP1 hD1
  exact k ad H1 locs1 ls hKK h0 hP1 hD1 hS1 hL (hc.set (by omega) (by omega) hcE) (ga_t (ga_t hst))
theorem ga_iald (C : ga_C X cc y Ts nw R0 gD nL0) {a n : Nat} {f : Nat → Int} {i : Int} (hσ : σ a = .inl (false, n, f)) (h1 : 0 ≤ i) (h2 : i < n) (d : decode cc pc = .ok (.iaload, 1)) (k : ga_G X ce sl K (pc + 1) lv (.inl (f i.toNat) :: st) σ) : ga_G X ce sl K pc lv (.inl i :: .inr a :: st) σ := by
  obtain ⟨p, l, e, R, s, m, args, below, meth, c, nL, D, cl, cI, cZ, A, Q, K0, ad0⟩ := X
  obtain ⟨⟨hx, hb, hml, hown, hts⟩, hK, hA, hlk, hcl, hnw, hR, hnm, hgD, hnL⟩ := C
  intro ad H locs ls hKK h0 hP hD hS hL hc hst
  obtain ⟨b, rfl, hbK⟩ := ga_at hc (by rw [hσ]; exact ga_arr)
  have hw := ga_w_get ad cI cZ σ hbK
  rw [hσ] at hw
  have hri : ga_r i := ga_h hst
  have hcv : ga_r (f i.toNat) := by
    have := hc.1 (b + 1)
    rw [hσ] at this
    exact this i.toNat (by show i.toNat < n; omega)
  refine va_iald hx hb hK hP b 0 hw rfl (ga_in hri h1 h2) d ?_
  rw [ga_cl hri]
  exact k ad H locs ls hKK h0 hP hD hS hL hc (ga_1 (ga_t (ga_t hst)) hcv)
theorem ga_zald (C : ga_C X cc y Ts nw R0 gD nL0) {a n : Nat} {f : Nat → Int} {i : Int} (hσ : σ a = .inl (true, n, f)) (h1 : 0 ≤ i) (h2 : i < n) (d : decode cc pc = .ok (.baload, 1)) (k : ga_G X ce sl K (pc + 1) lv (.inl (f i.toNat) :: st) σ) : ga_G X ce sl K pc lv (.inl i :: .inr a :: st) σ := by
  obtain ⟨p, l, e, R, s, m, args, below, meth, c, nL, D, cl, cI, cZ, A, Q, K0, ad0⟩ := X
  obtain ⟨⟨hx, hb, hml, hown, hts⟩, hK, hA, hlk, hcl, hnw, hR, hnm, hgD, hnL⟩ := C
  intro ad H locs ls hKK h0 hP hD hS hL hc hst
  obtain ⟨b, rfl, hbK⟩ := ga_at hc (by rw [hσ]; exact ga_arr)
  have hw := ga_w_get ad cI cZ σ hbK
  rw [hσ] at hw
  have hri : ga_r i := ga_h hst
  have hcv : ga_r (f i.toNat) := by
    have := hc.1 (b + 1)
    rw [hσ] at this
    exact this i.toNat (by show i.toNat < n; omega)
  refine va_zald hx hb hK hP b 1 hw rfl (ga_in hri h1 h2) d ?_
  rw [ga_cl hri]
  exact k ad H locs ls hKK h0 hP hD hS hL hc (ga_1 (ga_t (ga_t hst)) hcv)
theorem ga_iast (C : ga_C X cc y Ts nw R0 gD nL0) {a n : Nat} {f : Nat → Int} {i x : Int} (hσ : σ a = .inl (false, n, f)) (h1 : 0 ≤ i) (h2 : i < n) (d : decode cc pc = .ok (.iastore, 1)) (k : ga_G X ce sl K (pc + 1) lv st (va_up σ a (.inl (false, n, va_up f i.toNat x)))) : ga_G X ce sl K pc lv (.inl x :: .inl i :: .inr a :: st) σ := by
  obtain ⟨p, l, e, R, s, m, args, below, meth, c, nL, D, cl, cI, cZ, A, Q, K0, ad0⟩ := X
  obtain ⟨⟨hx, hb, hml, hown, hts⟩, hK, hA, hlk, hcl, hnw, hR, hnm, hgD, hnL⟩ := C
  intro ad H locs ls hKK h0 hP hD hS hL hc hst
  obtain ⟨b, rfl, hbK⟩ := ga_at hc (by rw [hσ]; exact ga_arr)
  have hw := ga_w_get ad cI cZ σ hbK
  rw [hσ] at hw
  have hrx : ga_r x := ga_h hst
  have hri : ga_r i := ga_h (ga_t hst)
  have hcE : ga_cE K (.inl (false, n, va_up f i.toNat x)) := by
    have := hc.1 (b + 1)
    rw [hσ] at this
    intro j hj
    show ga_r (va_up f i.toNat x j)
    unfold va_up
    split
    · exact hrx
    · exact this j hj
  refine va_iast hx hb hK hP hD hS b 0 hw rfl (ga_in hri h1 h2) d (fun H1 locs1 hP1 hD1 hS1 => ?_)
  rw [ga_cl hri, ga_upd] at hP1 hD1
  have he : ∀ g : Nat → Int, ((ad (b + 1), Sum.inl (if false = true then cZ else cI, n, Sum.inl (fun j => Int32.ofInt (g j)))) : Nat × va_E) = (ad (b + 1), ga_e ad cI cZ (.inl (false, n, g))) := fun g => rfl
  have hP2 : va_P D cl ((ga_w ad cI cZ K σ).set b (ad (b + 1), ga_e ad cI cZ (.inl (false, n, va_up f i.toNat x)))) H1 := hP1
  have hD2 : va_D A ((ga_w ad cI cZ K σ).set b (ad (b + 1), ga_e ad cI cZ (.inl (false, n, va_up f i.toNat x)))) := hD1
  rw [ga_w_set] at hP2 hD2
  exact k ad H1 locs1 ls hKK h0 hP2 hD2 hS1 hL (hc.set (by omega) (by omega) hcE) (ga_t (ga_t (ga_t hst)))
theorem ga_zast (C : ga_C X cc y Ts nw R0 gD nL0) {a n : Nat} {f : Nat → Int} {i x : Int} (hσ : σ a = .inl (true, n, f)) (h1 : 0 ≤ i) (h2 : i < n) (hz : x = 0 ∨ x = 1) (d : decode cc pc = .ok (.bastore, 1)) (k : ga_G X ce sl K (pc + 1) lv st (va_up σ a (.inl (true, n, va_up f i.toNat x)))) : ga_G X ce sl K pc lv (.inl x :: .inl i :: .inr a :: st) σ := by
  obtain ⟨p, l, e, R, s, m, args, below, meth, c, nL, D, cl, cI, cZ, A, Q, K0, ad0⟩ := X
  obtain ⟨⟨hx, hb, hml, hown, hts⟩, hK, hA, hlk, hcl, hnw, hR, hnm, hgD, hnL⟩ := C
  intro ad H locs ls hKK h0 hP hD hS hL hc hst
  obtain ⟨b, rfl, hbK⟩ := ga_at hc (by rw [hσ]; exact ga_arr)
  have hw := ga_w_get ad cI cZ σ hbK
  rw [hσ] at hw
  have hrx : ga_r x := ga_h hst
  have hri : ga_r i := ga_h (ga_t hst)
  have hcE : ga_cE K (.inl (true, n, va_up f i.toNat x)) := by
    have := hc.1 (b + 1)
    rw [hσ] at this
    intro j hj
    show ga_r (va_up f i.toNat x j)
    unfold va_up
    split
    · exact hrx
    · exact this j hj
  refine va_zast hx hb hK hP hD hS b 1 hw rfl (ga_in hri h1 h2) d (fun H1 locs1 hP1 hD1 hS1 => ?_)
  have hnar : vp_nar .boolean (Int32.ofInt x) = Int32.ofInt x := by rcases hz with rfl | rfl <;> rfl
  rw [hnar] at hP1 hD1
  rw [ga_cl hri, ga_upd] at hP1 hD1
  have he : ∀ g : Nat → Int, ((ad (b + 1), Sum.inl (if true = true then cZ else cI, n, Sum.inl (fun j => Int32.ofInt (g j)))) : Nat × va_E) = (ad (b + 1), ga_e ad cI cZ (.inl (true, n, g))) := fun g => rfl
  have hP2 : va_P D cl ((ga_w ad cI cZ K σ).set b (ad (b + 1), ga_e ad cI cZ (.inl (true, n, va_up f i.toNat x)))) H1 := hP1
  have hD2 : va_D A ((ga_w ad cI cZ K σ).set b (ad (b + 1), ga_e ad cI cZ (.inl (true, n, va_up f i.toNat x)))) := hD1
  rw [ga_w_set] at hP2 hD2
  exact k ad H1 locs1 ls hKK h0 hP2 hD2 hS1 hL (hc.set (by omega) (by omega) hcE) (ga_t (ga_t (ga_t hst)))
theorem ga_alen (C : ga_C X cc y Ts nw R0 gD nL0) {a n : Nat} {f : Nat → Int} {b : Bool} (hσ : σ a = .inl (b, n, f)) (hn : n < 2147483648) (d : decode cc pc = .ok (.arraylength, 1)) (k : ga_G X ce sl K (pc + 1) lv (.inl (n : Int) :: st) σ) : ga_G X ce sl K pc lv (.inr a :: st) σ := by
  obtain ⟨p, l, e, R, s, m, args, below, meth, c, nL, D, cl, cI, cZ, A, Q, K0, ad0⟩ := X
  obtain ⟨⟨hx, hb, hml, hown, hts⟩, hK, hA, hlk, hcl, hnw, hR, hnm, hgD, hnL⟩ := C
  intro ad H locs ls hKK h0 hP hD hS hL hc hst
  obtain ⟨q, rfl, hbK⟩ := ga_at hc (by rw [hσ]; exact ga_arr)
  have hw := ga_w_get ad cI cZ σ hbK
  rw [hσ] at hw
  have hrn : ga_r (n : Int) := ⟨by omega, by omega⟩
  cases b with
  | false => exact va_alen hx hb hK hP q 0 hw rfl (v := Int32.ofInt n) (Int32.ofInt_eq_ofNat).symm d (k ad H locs ls hKK h0 hP hD hS hL hc (ga_1 (ga_t hst) hrn))
  | true => exact va_alen hx hb hK hP q 1 hw rfl (v := Int32.ofInt n) (Int32.ofInt_eq_ofNat).symm d (k ad H locs ls hKK h0 hP hD hS hL hc (ga_1 (ga_t hst) hrn))
end GA
def ga_Q (gD : va_G × List vw_C × ClassId × ClassId) (K mc : Nat) (ad : Nat → Nat) (σ : ga_S) (sz : Nat) (Post : ga_S → Option ga_V → Prop) : Array Value → State → Outcome → State → Prop := fun _ st oc t =>
  (∃ (ad' : Nat → Nat) (σ' : ga_S) (r : Option ga_V), oc = .returned (r.map (ga_v ad')) ∧ (∀ v, r = some v → ga_cV (K + mc) v) ∧ Post σ' r ∧ (∀ k, k ≤ K → ad' k = ad k) ∧ va_P gD.1 gD.2.1 (ga_w ad' gD.2.2.1 gD.2.2.2 (K + mc) σ') t.heap ∧ va_D (va_A (ga_w ad gD.2.2.1 gD.2.2.2 K σ) sz) (ga_w ad' gD.2.2.1 gD.2.2.2 (K + mc) σ') ∧ ga_cS (K + mc) σ') ∧ va_F (va_A (ga_w ad gD.2.2.1 gD.2.2.2 K σ) sz) st t
def ga_P (gD : va_G × List vw_C × ClassId × ClassId) (nw : ga_N) (K : Nat) (ad : Nat → Nat) (σ : ga_S) (sz : Nat) (As : List ga_V) : Array Value → State → Prop :=
  va_Pc (As.map (ga_v ad)) (fun U => U.heap.size = sz ∧ va_P gD.1 gD.2.1 (ga_w ad gD.2.2.1 gD.2.2.2 K σ) U.heap ∧ va_K gD.1 gD.2.1 (ga_tys gD.2.2.1 gD.2.2.2) U ∧ va_D (fun _ => True) (ga_w ad gD.2.2.1 gD.2.2.2 K σ) ∧ ga_cS K σ ∧ (∀ v ∈ As, ga_cV K v) ∧ ga_nws nw U)
/-- from this store, with these arguments, the method returns, and the store and the answer behind it have Post; mc cells of ms slots are new -/
def ga_Ev (l : Launch) (gD : va_G × List vw_C × ClassId × ClassId) (y : MethodName) (ws : List Cond) (rm : Room) (nw : ga_N) (mc ms K : Nat) (As : List ga_V) (σ : ga_S) (Post : ga_S → Option ga_V → Prop) : Prop :=
  ∀ (ad : Nat → Nat) (sz : Nat), Met l y ws rm (ga_P gD nw K ad σ sz As) (ga_Q gD K mc ad σ sz Post) mc ms (va_A (ga_w ad gD.2.2.1 gD.2.2.2 K σ) sz)
def ga_lv (As : List ga_V) : Nat → Option ga_V := fun i => As[i]?
theorem ga_args (vs : List Value) : (∀ v ∈ vs, v.category = 1) → ∀ (j i : Nat) (v : Value), vs[i]? = some v → (j + i, v) ∈ lv_args j vs := by
  induction vs with
  | nil => intro _ j i v h; simp at h
  | cons a vs ih =>
    intro hc j i v h
    have ha : a.category = 1 := hc a List.mem_cons_self
    simp only [lv_args, ha]
    cases i with
    | zero => simp at h; subst h; exact List.mem_cons_self
    | succ i =>
      rw [List.getElem?_cons_succ] at h
      refine List.mem_cons_of_mem _ ?_
      have := ih (fun v hv => hc v (List.mem_cons_of_mem _ hv)) (j + 1) i v h
      rw [show j + (i + 1) = j + 1 + i by omega]
      simpa using this
theorem ga_sl (vs : List Value) : (∀ v ∈ vs, v.category = 1) → (lg_sl vs).length = vs.length := by
  induction vs with
  | nil => intro _; rfl
  | cons a vs ih =>
    intro hc
    have ha : a.category = 1 := hc a List.mem_cons_self
    have := ih (fun v hv => hc v (List.mem_cons_of_mem _ hv))
    unfold lg_sl at this ⊢
    rw [List.flatMap_cons, List.length_append, this]
    simp [ha]; omega
theorem ga_entry {ad : Nat → Nat} {K n : Nat} {As : List ga_V} (h : As.length ≤ n) (hc : ∀ v ∈ As, ga_cV K v) : ga_L ad K ((lg_sl (As.map (ga_v ad)) ++ List.replicate (n - (lg_sl (As.map (ga_v ad))).length) Slot.unset).toArray) n (ga_lv As) := by
  have hcat : ∀ v ∈ As.map (ga_v ad), v.category = 1 := by
    intro v hv
    obtain ⟨u, -, rfl⟩ := List.mem_map.mp hv
    exact ga_v_cat ad u
  have hE := lv_entry (As.map (ga_v ad)) (n := n) (by rw [ga_sl _ hcat, List.length_map]; exact h)
  refine ⟨⟨hE.1, hE.2.1, fun q hq => ?_⟩, fun i v hi => ?_⟩
  · unfold ga_ll at hq
    obtain ⟨i, -, hi2⟩ := List.mem_filterMap.mp hq
    cases hv : ga_lv As i with
    | none => rw [hv] at hi2; cases hi2
    | some v =>
      rw [hv] at hi2
      simp only [Option.map_some, Option.some.injEq] at hi2
      rw [← hi2]
      refine hE.2.2 _ ?_
      have := ga_args (As.map (ga_v ad)) hcat 0 i (ga_v ad v) (by rw [List.getElem?_map]; unfold ga_lv at hv; rw [hv]; rfl)
      simpa using this
  · unfold ga_lv at hi
    have := (List.getElem?_eq_some_iff.mp hi).1
    exact ⟨by omega, hc v (List.mem_of_getElem? hi)⟩
section GB
variable {l : Launch} {gD : va_G × List vw_C × ClassId × ClassId} {y : MethodName} {ws ws' : List Cond} {rm : Room} {nw : ga_N} {mc ms K maxL : Nat} {As : List ga_V} {σ : ga_S} {Post : ga_S → Option ga_V → Prop} {cc : ByteArray}
theorem ga_ofI (hy : plainName y.cls = true) (hw : ws = Cond.code y cc maxL (some .int) :: ws') (hcl : gD.2.1.length ≤ 1000000) (hlen : As.length ≤ maxL)
    (body : ∀ X : ga_X, X.2.1 = l → ga_C X cc y ws nw rm gD maxL → (∀ (pc : Nat) (lv : Nat → Option ga_V) (σ' : ga_S) (z : Int), decode cc pc = .ok (.ireturn, 1) → Post σ' (some (.inl z)) → ga_G X mc ms (K + mc) pc lv [.inl z] σ') → ga_G X 0 0 K 0 (ga_lv As) [] σ) : ga_Ev l gD y ws rm nw mc ms K As σ Post := by
  intro ad sz
  obtain ⟨D, cl, cI, cZ⟩ := gD
  refine Met.ofW (cc := cc) (maxL := maxL) (ret := (some .int)) hy hw ?_
  intro p e s m args below meth c s₁ B hml hv
  obtain ⟨rfl, hsz, hP, hK, hD0, hcS, hAs, hnw⟩ := hv
  subst hsz
  have hD := hD0.self (sz := s.heap.size)
  have hret := body (p, l, e, rm, s, m, (As.map (ga_v ad)).toArray, below, meth, c, maxL, D, cl, cI, cZ, va_A (ga_w ad cI cZ K σ) s.heap.size, MQ below (ga_Q (D, cl, cI, cZ) K mc ad σ s.heap.size Post) (As.map (ga_v ad)).toArray s mc ms (va_A (ga_w ad cI cZ K σ) s.heap.size), K, ad) rfl ⟨⟨B.exec, B.bytes, hml, findClass_of_methodNamed B.named, atoms_spec (ws := ws) B.pre⟩, hK, fun q h => Or.inr h, B.notSynchronized, hcl, hnw, rfl, (name_of_methodNamed B.named B.method).1, rfl, rfl⟩ ?_
  · rw [lg_entry_eq]
    exact hret ad s.heap [] _ (Nat.le_refl K) (fun _ _ => rfl) hP hD va_S.rf (ga_entry hlen hAs) hcS (fun v hv => by cases hv)
  · intro pc lv σ' z d hPost ad' H locs ls hKK h0 hP' hD' hS' hL' hc' hst'
    exact W.iret (v := Int32.ofInt z) B.exec B.bytes B.returns (fun t ht hW => ⟨⟨ad', σ', some (.inl z), rfl, fun v hv => (by cases hv; exact ga_h hst'), hPost, h0, by rw [ht]; exact hP', hD', hc'⟩, hS'.F ht⟩) hS'.2.2 d (hlocks := B.notSynchronized)
theorem ga_ofZ (hy : plainName y.cls = true) (hw : ws = Cond.code y cc maxL (some .boolean) :: ws') (hcl : gD.2.1.length ≤ 1000000) (hlen : As.length ≤ maxL)
    (body : ∀ X : ga_X, X.2.1 = l → ga_C X cc y ws nw rm gD maxL → (∀ (pc : Nat) (lv : Nat → Option ga_V) (σ' : ga_S) (z : Int), decode cc pc = .ok (.ireturn, 1) → (z = 0 ∨ z = 1) → Post σ' (some (.inl z)) → ga_G X mc ms (K + mc) pc lv [.inl z] σ') → ga_G X 0 0 K 0 (ga_lv As) [] σ) : ga_Ev l gD y ws rm nw mc ms K As σ Post := by
  intro ad sz
  obtain ⟨D, cl, cI, cZ⟩ := gD
  refine Met.ofW (cc := cc) (maxL := maxL) (ret := (some .boolean)) hy hw ?_
  intro p e s m args below meth c s₁ B hml hv
  obtain ⟨rfl, hsz, hP, hK, hD0, hcS, hAs, hnw⟩ := hv
  subst hsz
  have hD := hD0.self (sz := s.heap.size)
  have hret := body (p, l, e, rm, s, m, (As.map (ga_v ad)).toArray, below, meth, c, maxL, D, cl, cI, cZ, va_A (ga_w ad cI cZ K σ) s.heap.size, MQ below (ga_Q (D, cl, cI, cZ) K mc ad σ s.heap.size Post) (As.map (ga_v ad)).toArray s mc ms (va_A (ga_w ad cI cZ K σ) s.heap.size), K, ad) rfl ⟨⟨B.exec, B.bytes, hml, findClass_of_methodNamed B.named, atoms_spec (ws := ws) B.pre⟩, hK, fun q h => Or.inr h, B.notSynchronized, hcl, hnw, rfl, (name_of_methodNamed B.named B.method).1, rfl, rfl⟩ ?_
  · rw [lg_entry_eq]
    exact hret ad s.heap [] _ (Nat.le_refl K) (fun _ _ => rfl) hP hD va_S.rf (ga_entry hlen hAs) hcS (fun v hv => by cases hv)
  · intro pc lv σ' z d hz hPost ad' H locs ls hKK h0 hP' hD' hS' hL' hc' hst'
    exact W.zret (v := Int32.ofInt z) B.exec B.bytes B.returns (by rcases hz with rfl | rfl <;> rfl) (fun t ht hW => ⟨⟨ad', σ', some (.inl z), rfl, fun v hv => (by cases hv; exact ga_h hst'), hPost, h0, by rw [ht]; exact hP', hD', hc'⟩, hS'.F ht⟩) hS'.2.2 d (hlocks := B.notSynchronized)
theorem ga_ofV (hy : plainName y.cls = true) (hw : ws = Cond.code y cc maxL none :: ws') (hcl : gD.2.1.length ≤ 1000000) (hlen : As.length ≤ maxL)
    (body : ∀ X : ga_X, X.2.1 = l → ga_C X cc y ws nw rm gD maxL → (∀ (pc : Nat) (lv : Nat → Option ga_V) (σ' : ga_S), decode cc pc = .ok (.return_, 1) → Post σ' none → ga_G X mc ms (K + mc) pc lv [] σ') → ga_G X 0 0 K 0 (ga_lv As) [] σ) : ga_Ev l gD y ws rm nw mc ms K As σ Post := by
  intro ad sz
  obtain ⟨D, cl, cI, cZ⟩ := gD
  refine Met.ofW (cc := cc) (maxL := maxL) (ret := none) hy hw ?_
  intro p e s m args below meth c s₁ B hml hv
  obtain ⟨rfl, hsz, hP, hK, hD0, hcS, hAs, hnw⟩ := hv
  subst hsz
  have hD := hD0.self (sz := s.heap.size)
  have hret := body (p, l, e, rm, s, m, (As.map (ga_v ad)).toArray, below, meth, c, maxL, D, cl, cI, cZ, va_A (ga_w ad cI cZ K σ) s.heap.size, MQ below (ga_Q (D, cl, cI, cZ) K mc ad σ s.heap.size Post) (As.map (ga_v ad)).toArray s mc ms (va_A (ga_w ad cI cZ K σ) s.heap.size), K, ad) rfl ⟨⟨B.exec, B.bytes, hml, findClass_of_methodNamed B.named, atoms_spec (ws := ws) B.pre⟩, hK, fun q h => Or.inr h, B.notSynchronized, hcl, hnw, rfl, (name_of_methodNamed B.named B.method).1, rfl, rfl⟩ ?_
  · rw [lg_entry_eq]
    exact hret ad s.heap [] _ (Nat.le_refl K) (fun _ _ => rfl) hP hD va_S.rf (ga_entry hlen hAs) hcS (fun v hv => by cases hv)
  · intro pc lv σ' d hPost ad' H locs ls hKK h0 hP' hD' hS' hL' hc' hst'
    exact W.vret B.exec B.bytes B.returns (fun t ht hW => ⟨⟨ad', σ', none, rfl, fun v hv => (by cases hv), hPost, h0, by rw [ht]; exact hP', hD', hc'⟩, hS'.F ht⟩) hS'.2.2 d (hlocks := B.notSynchronized)
end GB
theorem ga_P_blind {gD : va_G × List vw_C × ClassId × ClassId} {nw : ga_N} {K : Nat} {ad : Nat → Nat} {σ : ga_S} {sz : Nat} {As : List ga_V} : FrameBlind (ga_P gD nw K ad σ sz As) := by
  intro a U g mk q
  obtain ⟨q0, q1, qP, qK, qD, qc, qA, qn⟩ := q
  exact ⟨q0, q1, qP, va_K.moved (u := U) (U := U.calling g mk a) (Vm.Alike.refl U.vm) qK, qD, qc, qA, fun w hw => va_Nw.same rfl (u := U) (U := U.calling g mk a) rfl (qn w hw)⟩
section GC
variable {p : Program} {l : Launch} {e : Env} {R : Room} {s : State} {m : MethodId} {args : Array Value} {below : List Frame} {meth : Method} {c : Code} {nL : Nat} {D : va_G} {cl : List vw_C} {cI cZ : ClassId} {A : Nat → Prop} {Q : State → Prop} {K0 : Nat} {ad0 : Nat → Nat}
theorem ga_after {ce sl K mc ms pc : Nat} {lv : Nat → Option ga_V} {st : List ga_V} {σ : ga_S} {Post : ga_S → Option ga_V → Prop} {a : Array Value} {st0 : List Value} {ad : Nat → Nat} {H : Heap} {locs : List Loc} {ls : Array Slot}
    (hA : ∀ q, s.heap.size ≤ q → A q) (hKK : K0 ≤ K) (h0 : ∀ k, k ≤ K0 → ad k = ad0 k) (hD : va_D A (ga_w ad cI cZ K σ)) (hS : va_S A s.heap H locs) (hL : ga_L ad K ls nL lv) (hst : ∀ v ∈ st, ga_cV K v)
    (hr : va_Run p l e R s m args below meth c H locs ce sl mc ms (F0 m pc ls st0) (st.map (ga_v ad)) (ga_Q (D, cl, cI, cZ) K mc ad σ H.size Post a) (va_A (ga_w ad cI cZ K σ) H.size))
    (k : ∀ σ' r, Post σ' r → ga_G (p, l, e, R, s, m, args, below, meth, c, nL, D, cl, cI, cZ, A, Q, K0, ad0) (ce + mc) (sl + ms) (K + mc) (pc + 3) lv (r.toList ++ st) σ') : W p l e R s m args below meth c H locs ce sl Q (F0 m pc ls st0) := by
  intro T hT X
  obtain ⟨v, st₀, t, T', L, hh, X', hL2, e1, e2, ⟨⟨ad', σ', r, hv, hcr, hPost, hsame, hP', hD', hc'⟩, hz, hk⟩, stp⟩ := hr T hT X
  cases hv
  rw [hh] at hz hk
  have hfree : ∀ q, va_A (ga_w ad cI cZ K σ) H.size q → A q := by
    intro q hq
    rcases hq with ⟨i, x, hi⟩ | hq
    · exact hD.2 i _ hi
    · exact hA q (Nat.le_trans hS.1 hq)
  have hS2 : va_S A s.heap T'.heap (locs ++ L) := by
    refine ⟨Nat.le_trans hS.1 (by rw [e1]; exact hz), fun q h1 h2 => ?_, fun q hq => ?_⟩
    · rw [e1, hk q (Nat.lt_of_lt_of_le h1 hS.1) (fun z => h2 (hfree q z))]
      exact hS.2.1 q h1 h2
    · rcases List.mem_append.mp hq with h | h
      · exact hS.2.2 q h
      · exact hfree _ (hL2 q h)
  have hLn : ga_L ad' (K + mc) ls nL lv := ⟨by rw [ga_ll_same hsame (fun i v h => (hL.2 i v h).2)]; exact hL.1, fun i v h => ⟨(hL.2 i v h).1, (hL.2 i v h).2.up (Nat.le_add_right _ _)⟩⟩
  have hstn : ∀ v ∈ r.toList ++ st, ga_cV (K + mc) v := by
    intro v hv
    rcases List.mem_append.mp hv with h | h
    · exact hcr v (Option.mem_toList.mp h)
    · exact (hst v h).up (Nat.le_add_right _ _)
  have hG := k σ' r hPost ad' T'.heap (locs ++ L) ls (by omega) (fun q hq => (hsame q (Nat.le_trans hq hKK)).trans (h0 q hq)) (by rw [e1]; exact hP') (hD'.weaken (fun _ q _ h => hfree q.1 h)) hS2 hLn hc' hstn
  obtain ⟨t2, a1, b1⟩ := hG T' rfl X'
  refine ⟨t2, stp t2 ?_, b1⟩
  have he : (r.toList ++ st).map (ga_v ad') = (r.map (ga_v ad')).toList ++ st.map (ga_v ad) := by
    rw [List.map_append, ga_st_same hsame hst]
    cases r <;> rfl
  rw [he] at a1
  exact a1
end GC
section GD
variable {X : ga_X} {cc : ByteArray} {y : MethodName} {Ts : List Cond} {nw : ga_N} {R0 : Room} {gD : va_G × List vw_C × ClassId × ClassId} {nL0 : Nat}
variable {ce sl K pc : Nat} {lv : Nat → Option ga_V} {st stk : List ga_V} {σ : ga_S}
variable {y' : MethodName} {ws' ws'' : List Cond} {bytes : ByteArray} {maxL : Nat} {ret : Option FieldType} {rm' : Room} {nw' : ga_N} {mc ms b index ci : Nat} {As : List ga_V} {fs : List ga_V} {q : vw_C} {Post : ga_S → Option ga_V → Prop}
theorem ga_nws.warm {nw nw' : ga_N} {s U : State} (hW : s.WarmedH U.vm) (h : ga_nws nw s) (hs : ∀ q ∈ nw', q ∈ nw) : ga_nws nw' U := fun q hq => va_Nw.warmM hW (h q (hs q hq))
theorem ga_callV (C : ga_C X cc y Ts nw R0 gD nL0) (hE : ga_Ev X.2.1 gD y' ws' rm' nw' mc ms K (.inr b :: As) σ Post) (hG : GoodIn Ts (wsV y.cls index y'.cls y' ws')) (hw : ws' = Cond.code y' bytes maxL ret :: ws'') (hrc : rm'.cells = mc) (hrs : rm'.slots = ms) (hd : y'.cls ≠ "java/lang/invoke/MethodHandle" ∧ y'.cls ≠ "java/lang/invoke/VarHandle" ∧ (parseMethodDescriptor y'.desc).map (fun d => d.parameters.length) = some As.length) (hR : rm'.frames + 1 ≤ R0.frames ∧ 8 + (maxL + 11) + rm'.locals ≤ R0.locals) (hf : ce + mc ≤ R0.cells ∧ sl + ms ≤ R0.slots) (hnws : ∀ q ∈ nw', q ∈ nw) (hσ : σ b = .inr (ci, fs)) (hci : gD.2.1[ci]? = some q) (hq : q.1 = y'.cls) (h8 : st.length ≤ 8) (hstk : stk = As.reverse ++ .inr b :: st) (d : decode cc pc = .ok (.invokevirtual index, 3)) (k : ∀ σ' r, Post σ' r → ga_G X (ce + mc) (sl + ms) (K + mc) (pc + 3) lv (r.toList ++ st) σ') : ga_G X ce sl K pc lv stk σ := by
  obtain ⟨p, l, e, R, s, m, args, below, meth, c, nL, D, cl, cI, cZ, A, Q, K0, ad0⟩ := X
  obtain ⟨⟨hx, hb, hml, hown, hts⟩, hK, hA, hlk, hcl, hnw, hRR, hnm, hgD, hnL⟩ := C
  subst hgD
  subst hRR
  subst hstk
  intro ad H locs ls hKK h0 hP hD hS hL hc hst
  obtain ⟨b, rfl, hbK⟩ := ga_at hc (by rw [hσ]; exact ga_obj hcl hci)
  have hw2 := ga_w_get ad cI cZ σ hbK
  rw [hσ] at hw2
  have hst1 : ∀ v ∈ As, ga_cV K v := fun v hv => hst v (List.mem_append_left _ (List.mem_reverse.mpr hv))
  have hst2 : ∀ v ∈ st, ga_cV K v := fun v hv => hst v (List.mem_append_right _ (List.mem_cons_of_mem _ hv))
  refine ga_after hA hKK h0 hD hS hL hst2 (va_runV (C := y'.cls) (b := ad (b + 1)) (As := As.map (ga_v ad)) (rest := st.map (ga_v ad)) (n := As.length) ⟨hx, hb, hml, hown, hts⟩ (hE ad H.size) (cwV As.length hts hG hw hrc hrs ⟨rfl, hd⟩ hR) ⟨ga_P_blind, by have := va_recv hK hP hci hw2; rw [hq] at this; exact this, fun U hU hW => ⟨rfl, by rw [hU], by rw [hU]; exact hP, va_K.moved hW.alike hK, hD.weaken (fun _ _ _ _ => trivial), hc, List.forall_mem_cons.mpr ⟨hbK, hst1⟩, ga_nws.warm hW hnw hnws⟩⟩ rfl (List.length_map ..) hL.1.1 ?_ (lv_room (by rw [ga_cats]; exact h8)) d hf) k
  show (As.reverse ++ Sum.inr (b + 1) :: st).map (ga_v ad) = _
  rw [List.map_append, List.map_reverse]
  rfl
theorem ga_callS (C : ga_C X cc y Ts nw R0 gD nL0) (hE : ga_Ev X.2.1 gD y' ws' rm' nw' mc ms K As σ Post) (hG : GoodIn Ts (va_wsS y.cls index y' ws')) (hw : ws' = Cond.code y' bytes maxL ret :: ws'') (hrc : rm'.cells = mc) (hrs : rm'.slots = ms) (hd : y'.cls ≠ "java/lang/invoke/MethodHandle" ∧ y'.cls ≠ "java/lang/invoke/VarHandle" ∧ (parseMethodDescriptor y'.desc).map (fun d => d.parameters.length) = some As.length) (hR : rm'.frames + 1 ≤ R0.frames ∧ 8 + (maxL + 11) + rm'.locals ≤ R0.locals) (hf : ce + mc ≤ R0.cells ∧ sl + ms ≤ R0.slots) (hnws : ∀ q ∈ nw', q ∈ nw) (h8 : st.length ≤ 8) (hstk : stk = As.reverse ++ st) (d : decode cc pc = .ok (.invokestatic index, 3)) (k : ∀ σ' r, Post σ' r → ga_G X (ce + mc) (sl + ms) (K + mc) (pc + 3) lv (r.toList ++ st) σ') : ga_G X ce sl K pc lv stk σ := by
  obtain ⟨p, l, e, R, s, m, args, below, meth, c, nL, D, cl, cI, cZ, A, Q, K0, ad0⟩ := X
  obtain ⟨⟨hx, hb, hml, hown, hts⟩, hK, hA, hlk, hcl, hnw, hRR, hnm, hgD, hnL⟩ := C
  subst hgD
  subst hRR
  subst hstk
  intro ad H locs ls hKK h0 hP hD hS hL hc hst
  have hst1 : ∀ v ∈ As, ga_cV K v := fun v hv => hst v (List.mem_append_left _ (List.mem_reverse.mpr hv))
  have hst2 : ∀ v ∈ st, ga_cV K v := fun v hv => hst v (List.mem_append_right _ hv)
  have ok : ∀ w ∈ va_wsS y.cls index y' ws', w.before args s = true := fun w h => hts w (hG w h).1
  refine ga_after hA hKK h0 hD hS hL hst2 (va_runS (As := As.map (ga_v ad)) (rest := st.map (ga_v ad)) (n := As.length) ⟨hx, hb, hml, hown, hts⟩ (hE ad H.size) ⟨callB_of As.length hts (fun w h => hG w (by unfold va_wsS; exact List.mem_append_right _ h)) hw hrc hrs (ok _ (by simp [va_wsS])) (ok _ (by simp [va_wsS])) hd hR, ok _ (by simp [va_wsS])⟩ ⟨ga_P_blind, fun U hU hW => ⟨rfl, by rw [hU], by rw [hU]; exact hP, va_K.moved hW.alike hK, hD.weaken (fun _ _ _ _ => trivial), hc, hst1, ga_nws.warm hW hnw hnws⟩⟩ rfl (List.length_map ..) hL.1.1 ?_ (lv_room (by rw [ga_cats]; exact h8)) d hf) k
  show (As.reverse ++ st).map (ga_v ad) = _
  rw [List.map_append, List.map_reverse]
end GD
end
section
/-! Objects by their fields: a state (numbers, arrays) by the field's place; a table of the fields: (0, _, _) a number, (1, o, n) an array of n ints o cells behind the object, (2, o, n) one of booleans, (3, o, _) an object o cells behind it. -/
abbrev gt_T : Type := (Nat → Int) × (Nat → Nat → Int)
abbrev gt_S : Type := List (Nat × Nat × Nat)
def gt_f (r : Nat) (t : gt_T) (j : Nat) (q : Nat × Nat × Nat) : ga_V := if q.1 = 0 then .inl (t.1 j) else .inr (r + q.2.1)
def gt_fs (S : gt_S) (r : Nat) (t : gt_T) : List ga_V := S.mapIdx (gt_f r t)
def gt_O (S : gt_S) (ci r : Nat) (t : gt_T) (σ : ga_S) : Prop := σ r = .inr (ci, gt_fs S r t) ∧ ∀ j o n : Nat, (S[j]? = some (1, o, n) → σ (r + o) = .inl (false, n, t.2 j)) ∧ (S[j]? = some (2, o, n) → σ (r + o) = .inl (true, n, t.2 j))
def gt_F (a b : Nat) (σ0 σ : ga_S) : Prop := ∀ k : Nat, (k < a ∨ b ≤ k) → σ k = σ0 k
/-- offsets are apart, not 0, below n -/
def gt_ok (S : gt_S) (n : Nat) : Prop := (∀ i, i < S.length → ∀ j, j < S.length → i ≠ j → (S.getD i (0, 0, 0)).1 ≠ 0 → (S.getD j (0, 0, 0)).1 ≠ 0 → (S.getD i (0, 0, 0)).2.1 ≠ (S.getD j (0, 0, 0)).2.1) ∧ ∀ i, i < S.length → (S.getD i (0, 0, 0)).1 ≠ 0 → (S.getD i (0, 0, 0)).2.1 ≠ 0 ∧ (S.getD i (0, 0, 0)).2.1 < n
theorem gt_ok.ne {S : gt_S} {n : Nat} (h : gt_ok S n) {i j : Nat} {p q : Nat × Nat × Nat} (hi : S[i]? = some p) (hj : S[j]? = some q) (hp : p.1 ≠ 0) (hq : q.1 ≠ 0) (hij : i ≠ j) : p.2.1 ≠ q.2.1 := by
  have h1 := (List.getElem?_eq_some_iff.mp hi).1
  have h2 := (List.getElem?_eq_some_iff.mp hj).1
  have e1 : S.getD i (0, 0, 0) = p := by simp [List.getD, hi]
  have e2 : S.getD j (0, 0, 0) = q := by simp [List.getD, hj]
  have := h.1 i h1 j h2 hij
  rw [e1, e2] at this
  exact this hp hq
theorem gt_ok.at {S : gt_S} {n : Nat} (h : gt_ok S n) {i : Nat} {p : Nat × Nat × Nat} (hi : S[i]? = some p) (hp : p.1 ≠ 0) : p.2.1 ≠ 0 ∧ p.2.1 < n := by
  have h1 := (List.getElem?_eq_some_iff.mp hi).1
  have e1 : S.getD i (0, 0, 0) = p := by simp [List.getD, hi]
  have := h.2 i h1
  rw [e1] at this
  exact this hp
theorem gt_fs_get {S : gt_S} {r j : Nat} {t : gt_T} {q : Nat × Nat × Nat} (h : S[j]? = some q) : (gt_fs S r t)[j]? = some (gt_f r t j q) := by
  unfold gt_fs
  rw [List.getElem?_mapIdx, h]
  rfl
theorem gt_fs_len {S : gt_S} {r : Nat} {t : gt_T} : (gt_fs S r t).length = S.length := by simp [gt_fs]
theorem gt_fs_set {S : gt_S} {r j o n : Nat} {t : gt_T} (h : S[j]? = some (0, o, n)) (v : Int) : (gt_fs S r t).set j (.inl v) = gt_fs S r (va_up t.1 j v, t.2) := by
  apply List.ext_getElem?
  intro i
  unfold gt_fs
  rw [List.getElem?_set, List.length_mapIdx, List.getElem?_mapIdx, List.getElem?_mapIdx]
  by_cases hij : j = i
  · subst hij
    rw [if_pos rfl, if_pos (List.getElem?_eq_some_iff.mp h).1, h]
    simp [gt_f, va_up]
  · rw [if_neg hij]
    cases S[i]? with
    | none => rfl
    | some q =>
      have : ¬ i = j := fun e => hij e.symm
      simp [gt_f, va_up, this]
theorem gt_F.rf {a b : Nat} {σ : ga_S} : gt_F a b σ σ := fun _ _ => rfl
theorem gt_F.tr {a b a' b' : Nat} {σ0 σ σ' : ga_S} (h : gt_F a b σ0 σ) (h' : gt_F a' b' σ σ') (ha : a ≤ a') (hb : b' ≤ b) : gt_F a b σ0 σ' := fun k hk => (h' k (by omega)).trans (h k hk)
theorem gt_F.up {a b i : Nat} {σ0 σ : ga_S} {x : ga_E} (h : gt_F a b σ0 σ) (ha : a ≤ i) (hb : i < b) : gt_F a b σ0 (va_up σ i x) := fun k hk => by
  unfold va_up
  rw [if_neg (by omega)]
  exact h k hk
theorem gt_O.keep {S : gt_S} {ci r n : Nat} {t : gt_T} {σ σ' : ga_S} (ok : gt_ok S n) (h : gt_O S ci r t σ) (hk : ∀ k, r ≤ k → k < r + n → σ' k = σ k) (hn : 0 < n) : gt_O S ci r t σ' := by
  refine ⟨by rw [hk r (Nat.le_refl r) (by omega)]; exact h.1, fun j o m => ⟨fun hj => ?_, fun hj => ?_⟩⟩
  · have := (ok.at hj (Nat.succ_ne_zero _)).2
    rw [hk (r + o) (by omega) (by simp only at this; omega)]
    exact (h.2 j o m).1 hj
  · have := (ok.at hj (Nat.succ_ne_zero _)).2
    rw [hk (r + o) (by omega) (by simp only at this; omega)]
    exact (h.2 j o m).2 hj
theorem gt_O.put {S : gt_S} {ci r n j o m : Nat} {t : gt_T} {σ : ga_S} (ok : gt_ok S n) (h : gt_O S ci r t σ) (hj : S[j]? = some (0, o, m)) (v : Int) : gt_O S ci r (va_up t.1 j v, t.2) (va_up σ r (.inr (ci, (gt_fs S r t).set j (.inl v)))) := by
  refine ⟨by simp only [va_up, if_true]; rw [← gt_fs_set hj], fun i o' m' => ⟨fun hi => ?_, fun hi => ?_⟩⟩
  · have := (ok.at hi (Nat.succ_ne_zero _)).1
    simp only at this
    unfold va_up
    rw [if_neg (by omega)]
    exact (h.2 i o' m').1 hi
  · have := (ok.at hi (Nat.succ_ne_zero _)).1
    simp only at this
    unfold va_up
    rw [if_neg (by omega)]
    exact (h.2 i o' m').2 hi
theorem gt_O.fs {S : gt_S} {r : Nat} {t : gt_T} {g : Nat → Nat → Int} : gt_fs S r (t.1, g) = gt_fs S r t := rfl
theorem gt_O.ist {S : gt_S} {ci r n j o m : Nat} {t : gt_T} {σ : ga_S} (ok : gt_ok S n) (h : gt_O S ci r t σ) (hj : S[j]? = some (1, o, m)) (f : Nat → Int) : gt_O S ci r (t.1, va_up t.2 j f) (va_up σ (r + o) (.inl (false, m, f))) := by
  have ho := (ok.at hj (Nat.succ_ne_zero _)).1
  simp only at ho
  refine ⟨?_, fun i o' m' => ⟨fun hi => ?_, fun hi => ?_⟩⟩
  · rw [gt_O.fs]
    unfold va_up
    rw [if_neg (by omega)]
    exact h.1
  · by_cases hij : i = j
    · subst hij
      rw [hj] at hi
      cases hi
      simp [va_up]
    · have hne := ok.ne hi hj (Nat.succ_ne_zero _) (Nat.succ_ne_zero _) hij
      simp only at hne
      unfold va_up
      rw [if_neg (by omega)]
      simp only [if_neg hij]
      exact (h.2 i o' m').1 hi
  · by_cases hij : i = j
    · subst hij
      rw [hj] at hi
      cases hi
    · have hne := ok.ne hi hj (Nat.succ_ne_zero _) (Nat.succ_ne_zero _) hij
      simp only at hne
      unfold va_up
      rw [if_neg (by omega)]
      simp only [if_neg hij]
      exact (h.2 i o' m').2 hi
theorem gt_O.zst {S : gt_S} {ci r n j o m : Nat} {t : gt_T} {σ : ga_S} (ok : gt_ok S n) (h : gt_O S ci r t σ) (hj : S[j]? = some (2, o, m)) (f : Nat → Int) : gt_O S ci r (t.1, va_up t.2 j f) (va_up σ (r + o) (.inl (true, m, f))) := by
  have ho := (ok.at hj (Nat.succ_ne_zero _)).1
  simp only at ho
  refine ⟨?_, fun i o' m' => ⟨fun hi => ?_, fun hi => ?_⟩⟩
  · rw [gt_O.fs]
    unfold va_up
    rw [if_neg (by omega)]
    exact h.1
  · by_cases hij : i = j
    · subst hij
      rw [hj] at hi
      cases hi
    · have hne := ok.ne hi hj (Nat.succ_ne_zero _) (Nat.succ_ne_zero _) hij
      simp only at hne
      unfold va_up
      rw [if_neg (by omega)]
      simp only [if_neg hij]
      exact (h.2 i o' m').1 hi
  · by_cases hij : i = j
    · subst hij
      rw [hj] at hi
      cases hi
      simp [va_up]
    · have hne := ok.ne hi hj (Nat.succ_ne_zero _) (Nat.succ_ne_zero _) hij
      simp only at hne
      unfold va_up
      rw [if_neg (by omega)]
      simp only [if_neg hij]
      exact (h.2 i o' m').2 hi
section GT
variable {X : ga_X} {cc : ByteArray} {y : MethodName} {Ts : List Cond} {nw : ga_N} {R0 : Room} {D : va_G} {cl : List vw_C} {cI cZ : ClassId} {nL0 : Nat}
variable {ce sl K pc : Nat} {lv : Nat → Option ga_V} {st : List ga_V} {σ σ0 : ga_S} {S : gt_S} {ci r n j o m : Nat} {t : gt_T} {Cn : String} {T : u_T} {N i a b : Nat}
theorem gt_geti (C : ga_C X cc y Ts nw R0 (D, cl, cI, cZ) nL0) (hin : ∀ w ∈ u_ws Cn T N, w ∈ Ts) (hW : gt_O S ci r t σ) (j : Nat) (hS : S[j]? = some (0, o, m)) (hc1 : cl[ci]? = some (Cn, T, N)) (hj : j < N) (hl : Cond.fieldLink y.cls i (T j).1 (T j).2.1 (T j).2.2.1 ∈ Ts) (d : decode cc pc = .ok (.getfield i, 3)) (k : ga_G X ce sl K (pc + 3) lv (.inl (t.1 j) :: st) σ) : ga_G X ce sl K pc lv (.inr r :: st) σ :=
  ga_get C hin hW.1 hc1 hj hl (gt_fs_get hS) d k
theorem gt_geta (C : ga_C X cc y Ts nw R0 (D, cl, cI, cZ) nL0) (hin : ∀ w ∈ u_ws Cn T N, w ∈ Ts) (hW : gt_O S ci r t σ) (j : Nat) {q : Nat} (hS : S[j]? = some (q + 1, o, m)) (hc1 : cl[ci]? = some (Cn, T, N)) (hj : j < N) (hl : Cond.fieldLink y.cls i (T j).1 (T j).2.1 (T j).2.2.1 ∈ Ts) (d : decode cc pc = .ok (.getfield i, 3)) (k : ga_G X ce sl K (pc + 3) lv (.inr (r + o) :: st) σ) : ga_G X ce sl K pc lv (.inr r :: st) σ :=
  ga_get C hin hW.1 hc1 hj hl (v := .inr (r + o)) ((gt_fs_get hS).trans rfl) d k
theorem gt_puti (C : ga_C X cc y Ts nw R0 (D, cl, cI, cZ) nL0) (ok : gt_ok S n) (hn : 0 < n) (hin : ∀ w ∈ u_ws Cn T N, w ∈ Ts) (ty0 : Nat → FieldType) (hty : ∀ k, k < N → parseFieldDescriptor (T k).2.2.1 = some (ty0 k)) (hnmT : ∀ a, a < N → ∀ b, b < N → a ≠ b → (T a).2.1 ≠ (T b).2.1) (hW : gt_O S ci r t σ) (hF : gt_F a b σ0 σ) (hab : a ≤ r ∧ r + n ≤ b) (j : Nat) (hS : S[j]? = some (0, o, m)) (hc1 : cl[ci]? = some (Cn, T, N)) (hj : j < N) (hl : Cond.fieldLink y.cls i (T j).1 (T j).2.1 (T j).2.2.1 ∈ Ts) (hfin : (T j).2.2.2 = false) (hd : parseFieldDescriptor (T j).2.2.1 = some .int) {v : Int} (d : decode cc pc = .ok (.putfield i, 3)) (k : ∀ σ', gt_O S ci r (va_up t.1 j v, t.2) σ' → gt_F a b σ0 σ' → gt_F r (r + n) σ σ' → ga_G X ce sl K (pc + 3) lv st σ') : ga_G X ce sl K pc lv (.inl v :: .inr r :: st) σ :=
  ga_put C hin ty0 hty hnmT hW.1 hc1 hj hl hfin hd (fun _ => ⟨rfl, rfl⟩) (by rw [gt_fs_len]; exact (List.getElem?_eq_some_iff.mp hS).1) d (k _ (hW.put ok hS v) (hF.up hab.1 (by omega)) (gt_F.rf.up (Nat.le_refl r) (by omega)))
theorem gt_iald (C : ga_C X cc y Ts nw R0 (D, cl, cI, cZ) nL0) (hW : gt_O S ci r t σ) (j : Nat) (hS : S[j]? = some (1, o, m)) {x : Int} (h1 : 0 ≤ x) (h2 : x < m) (d : decode cc pc = .ok (.iaload, 1)) (k : ga_G X ce sl K (pc + 1) lv (.inl (t.2 j x.toNat) :: st) σ) : ga_G X ce sl K pc lv (.inl x :: .inr (r + o) :: st) σ :=
  ga_iald C ((hW.2 j o m).1 hS) h1 h2 d k
theorem gt_iast (C : ga_C X cc y Ts nw R0 (D, cl, cI, cZ) nL0) (ok : gt_ok S n) (hW : gt_O S ci r t σ) (hF : gt_F a b σ0 σ) (hab : a ≤ r ∧ r + n ≤ b) (j : Nat) (hS : S[j]? = some (1, o, m)) {i x : Int} (h1 : 0 ≤ i) (h2 : i < m) (d : decode cc pc = .ok (.iastore, 1)) (k : ∀ σ', gt_O S ci r (t.1, va_up t.2 j (va_up (t.2 j) i.toNat x)) σ' → gt_F a b σ0 σ' → gt_F r (r + n) σ σ' → ga_G X ce sl K (pc + 1) lv st σ') : ga_G X ce sl K pc lv (.inl x :: .inl i :: .inr (r + o) :: st) σ := by
  have ho := (ok.at hS (Nat.succ_ne_zero _)).2
  simp only at ho
  exact ga_iast C ((hW.2 j o m).1 hS) h1 h2 d (k _ (hW.ist ok hS _) (hF.up (by omega) (by omega)) (gt_F.rf.up (by omega) (by omega)))
theorem gt_zald (C : ga_C X cc y Ts nw R0 (D, cl, cI, cZ) nL0) (hW : gt_O S ci r t σ) (j : Nat) (hS : S[j]? = some (2, o, m)) {x : Int} (h1 : 0 ≤ x) (h2 : x < m) (d : decode cc pc = .ok (.baload, 1)) (k : ga_G X ce sl K (pc + 1) lv (.inl (t.2 j x.toNat) :: st) σ) : ga_G X ce sl K pc lv (.inl x :: .inr (r + o) :: st) σ :=
  ga_zald C ((hW.2 j o m).2 hS) h1 h2 d k
theorem gt_zast (C : ga_C X cc y Ts nw R0 (D, cl, cI, cZ) nL0) (ok : gt_ok S n) (hW : gt_O S ci r t σ) (hF : gt_F a b σ0 σ) (hab : a ≤ r ∧ r + n ≤ b) (j : Nat) (hS : S[j]? = some (2, o, m)) {i x : Int} (h1 : 0 ≤ i) (h2 : i < m) (hz : x = 0 ∨ x = 1) (d : decode cc pc = .ok (.bastore, 1)) (k : ∀ σ', gt_O S ci r (t.1, va_up t.2 j (va_up (t.2 j) i.toNat x)) σ' → gt_F a b σ0 σ' → gt_F r (r + n) σ σ' → ga_G X ce sl K (pc + 1) lv st σ') : ga_G X ce sl K pc lv (.inl x :: .inl i :: .inr (r + o) :: st) σ := by
  have ho := (ok.at hS (Nat.succ_ne_zero _)).2
  simp only at ho
  exact ga_zast C ((hW.2 j o m).2 hS) h1 h2 hz d (k _ (hW.zst ok hS _) (hF.up (by omega) (by omega)) (gt_F.rf.up (by omega) (by omega)))
theorem gt_mmin (C : ga_C X cc y Ts nw R0 (D, cl, cI, cZ) nL0) (hl : Cond.methodLink y.cls i Lib.Math.min.name ∈ Ts) (h1 : Cond.static Lib.Math.min.name ∈ Ts) (h2 : Cond.initialized "java/lang/Math" ∈ Ts) (h3 : Cond.code Lib.Math.min.name Lib.Math.min.code 2 (some .int) ∈ Ts) (hR : 1 ≤ R0.frames ∧ st.length + 13 ≤ R0.locals ∧ ce ≤ R0.cells ∧ sl ≤ R0.slots) {x z : Int} (d : decode cc pc = .ok (.invokestatic i, 3)) (k : ga_G X ce sl K (pc + 3) lv (.inl (min x z) :: st) σ) : ga_G X ce sl K pc lv (.inl z :: .inl x :: st) σ := by
  obtain ⟨p, l, e, R, s, m, args, below, meth, c, nL, D, cl, cI, cZ, A, Q, K0, ad0⟩ := X
  obtain ⟨⟨hx, hb, hml, hown, hts⟩, hK, hA, hlk, hcl, hnw, hRR, hnm, hgD, hnL⟩ := C
  intro ad H locs ls hKK h0 hP hD hS hL hc hst
  subst hRR
  have hz1 : ga_r z := ga_h hst
  have hx1 : ga_r x := ga_h (ga_t hst)
  have hm : ga_r (min x z) := by unfold ga_r at *; omega
  refine va_mmin hx hb (hml.trans hL.1.1.symm) hown (hts _ hl) (hts _ h1) (hts _ h2) (hts _ h3) hR.1 (by rw [ga_cats]; exact hR.2.1) hR.2.2.1 hR.2.2.2 d ?_
  have := k ad H locs ls hKK h0 hP hD hS hL hc (ga_1 (ga_t (ga_t hst)) hm)
  have he : (if Int32.ofInt z < Int32.ofInt x then Int32.ofInt z else Int32.ofInt x) = Int32.ofInt (min x z) := by
    by_cases h : z < x
    · rw [if_pos ((ga_lt hz1 hx1).mpr h), show min x z = z by omega]
    · rw [if_neg (fun q => h ((ga_lt hz1 hx1).mp q)), show min x z = x by omega]
  rw [he]
  exact this
theorem gt_mmax (C : ga_C X cc y Ts nw R0 (D, cl, cI, cZ) nL0) (hl : Cond.methodLink y.cls i Lib.Math.max.name ∈ Ts) (h1 : Cond.static Lib.Math.max.name ∈ Ts) (h2 : Cond.initialized "java/lang/Math" ∈ Ts) (h3 : Cond.code Lib.Math.max.name Lib.Math.max.code 2 (some .int) ∈ Ts) (hR : 1 ≤ R0.frames ∧ st.length + 13 ≤ R0.locals ∧ ce ≤ R0.cells ∧ sl ≤ R0.slots) {x z : Int} (d : decode cc pc = .ok (.invokestatic i, 3)) (k : ga_G X ce sl K (pc + 3) lv (.inl (max x z) :: st) σ) : ga_G X ce sl K pc lv (.inl z :: .inl x :: st) σ := by
  obtain ⟨p, l, e, R, s, m, args, below, meth, c, nL, D, cl, cI, cZ, A, Q, K0, ad0⟩ := X
  obtain ⟨⟨hx, hb, hml, hown, hts⟩, hK, hA, hlk, hcl, hnw, hRR, hnm, hgD, hnL⟩ := C
  intro ad H locs ls hKK h0 hP hD hS hL hc hst
  subst hRR
  have hz1 : ga_r z := ga_h hst
  have hx1 : ga_r x := ga_h (ga_t hst)
  have hm : ga_r (max x z) := by unfold ga_r at *; omega
  refine va_mmax hx hb (hml.trans hL.1.1.symm) hown (hts _ hl) (hts _ h1) (hts _ h2) (hts _ h3) hR.1 (by rw [ga_cats]; exact hR.2.1) hR.2.2.1 hR.2.2.2 d ?_
  have := k ad H locs ls hKK h0 hP hD hS hL hc (ga_1 (ga_t (ga_t hst)) hm)
  have he : (if Int32.ofInt x < Int32.ofInt z then Int32.ofInt z else Int32.ofInt x) = Int32.ofInt (max x z) := by
    by_cases h : x < z
    · rw [if_pos ((ga_lt hx1 hz1).mpr h), show max x z = z by omega]
    · rw [if_neg (fun q => h ((ga_lt hx1 hz1).mp q)), show max x z = x by omega]
  rw [he]
  exact this
end GT
theorem gt_gd {α : Type} {c : Prop} [Decidable c] {x : Option α} {y : α} (h : (if c then x else none) = some y) : c ∧ x = some y := by
  by_cases hc : c
  · rw [if_pos hc] at h; exact ⟨hc, h⟩
  · rw [if_neg hc] at h; cases h
theorem gt_un {f : Nat → Option ga_V} {i j : Nat} {x v : Option ga_V} (hn : j ≠ i) (h : f j = v) : va_up f i x j = v := by
  unfold va_up
  rw [if_neg hn]
  exact h
theorem gt_us {f : Nat → Option ga_V} {i : Nat} {x : Option ga_V} : va_up f i x i = x := by simp [va_up]
def gt_fuel : Nat := 1000000
end
section
-- ===== PART A: goes FIRST, ahead of the names: the tables' words, and 'selects' of the private methods out of them =====
/-- a private method of a class that the tables say can be made, by its rows of tables_1 -/
def lw_okq (q : MethodName × Nat) : Prop := (q.1.cls ≠ "java/lang/invoke/MethodHandle" ∧ q.1.cls ≠ "java/lang/invoke/VarHandle") ∧ Cond.instantiable q.1.cls q.2 ∈ tables_1 ∧ Cond.privateMethod q.1 ∈ tables_1 ∧ Cond.instanceMethod q.1 ∈ tables_1
theorem lw_p0 : lw_okq (⟨"DiagramCode$Edges", "countLabel", "(I)V"⟩, 6) := ⟨⟨by decide +kernel, by decide +kernel⟩, List.mem_of_getElem? (i := 42) (by decide +kernel), List.mem_of_getElem? (i := 195) (by decide +kernel), List.mem_of_getElem? (i := 196) (by decide +kernel)⟩
theorem lw_p1 : lw_okq (⟨"DiagramCode$Edges", "countLess", "(I)I"⟩, 6) := ⟨⟨by decide +kernel, by decide +kernel⟩, List.mem_of_getElem? (i := 42) (by decide +kernel), List.mem_of_getElem? (i := 199) (by decide +kernel), List.mem_of_getElem? (i := 200) (by decide +kernel)⟩
theorem lw_p2 : lw_okq (⟨"DiagramCode$Edges", "has", "(I)Z"⟩, 6) := ⟨⟨by decide +kernel, by decide +kernel⟩, List.mem_of_getElem? (i := 42) (by decide +kernel), List.mem_of_getElem? (i := 203) (by decide +kernel), List.mem_of_getElem? (i := 204) (by decide +kernel)⟩
theorem lw_p3 : lw_okq (⟨"DiagramCode$Edges", "noteEnd", "(IIZ)V"⟩, 6) := ⟨⟨by decide +kernel, by decide +kernel⟩, List.mem_of_getElem? (i := 42) (by decide +kernel), List.mem_of_getElem? (i := 237) (by decide +kernel), List.mem_of_getElem? (i := 238) (by decide +kernel)⟩
theorem lw_p4 : lw_okq (⟨"DiagramCode$Chart", "groupPieces", "()V"⟩, 9) := ⟨⟨by decide +kernel, by decide +kernel⟩, List.mem_of_getElem? (i := 19) (by decide +kernel), List.mem_of_getElem? (i := 241) (by decide +kernel), List.mem_of_getElem? (i := 242) (by decide +kernel)⟩
theorem lw_p5 : lw_okq (⟨"DiagramCode$Groups", "hasMember", "(I)Z"⟩, 4) := ⟨⟨by decide +kernel, by decide +kernel⟩, List.mem_of_getElem? (i := 67) (by decide +kernel), List.mem_of_getElem? (i := 273) (by decide +kernel), List.mem_of_getElem? (i := 274) (by decide +kernel)⟩
theorem lw_p6 : lw_okq (⟨"DiagramCode$Chart", "traceFaces", "()V"⟩, 9) := ⟨⟨by decide +kernel, by decide +kernel⟩, List.mem_of_getElem? (i := 19) (by decide +kernel), List.mem_of_getElem? (i := 288) (by decide +kernel), List.mem_of_getElem? (i := 289) (by decide +kernel)⟩
theorem lw_p7 : lw_okq (⟨"DiagramCode$Rounds", "hasMember", "(I)Z"⟩, 6) := ⟨⟨by decide +kernel, by decide +kernel⟩, List.mem_of_getElem? (i := 86) (by decide +kernel), List.mem_of_getElem? (i := 313) (by decide +kernel), List.mem_of_getElem? (i := 314) (by decide +kernel)⟩
theorem lw_p8 : lw_okq (⟨"DiagramCode$Rounds", "walk", "(I)V"⟩, 6) := ⟨⟨by decide +kernel, by decide +kernel⟩, List.mem_of_getElem? (i := 86) (by decide +kernel), List.mem_of_getElem? (i := 322) (by decide +kernel), List.mem_of_getElem? (i := 323) (by decide +kernel)⟩
theorem lw_p9 : lw_okq (⟨"DiagramCode$Chart", "leastCrossingOnNoSphere", "()I"⟩, 9) := ⟨⟨by decide +kernel, by decide +kernel⟩, List.mem_of_getElem? (i := 19) (by decide +kernel), List.mem_of_getElem? (i := 326) (by decide +kernel), List.mem_of_getElem? (i := 327) (by decide +kernel)⟩
theorem lw_p10 : lw_okq (⟨"DiagramCode$Chart", "facesLessCrossings", "(I)I"⟩, 9) := ⟨⟨by decide +kernel, by decide +kernel⟩, List.mem_of_getElem? (i := 19) (by decide +kernel), List.mem_of_getElem? (i := 332) (by decide +kernel), List.mem_of_getElem? (i := 333) (by decide +kernel)⟩
theorem lw_p11 : lw_okq (⟨"DiagramCode$Rounds", "hasRound", "(I)Z"⟩, 6) := ⟨⟨by decide +kernel, by decide +kernel⟩, List.mem_of_getElem? (i := 86) (by decide +kernel), List.mem_of_getElem? (i := 344) (by decide +kernel), List.mem_of_getElem? (i := 345) (by decide +kernel)⟩
theorem lw_p12 : lw_okq (⟨"DiagramCode$Chart", "pieceOfEdge", "(I)I"⟩, 9) := ⟨⟨by decide +kernel, by decide +kernel⟩, List.mem_of_getElem? (i := 19) (by decide +kernel), List.mem_of_getElem? (i := 348) (by decide +kernel), List.mem_of_getElem? (i := 349) (by decide +kernel)⟩
theorem lw_p13 : lw_okq (⟨"DiagramCode$Chart", "traceStrands", "()V"⟩, 9) := ⟨⟨by decide +kernel, by decide +kernel⟩, List.mem_of_getElem? (i := 19) (by decide +kernel), List.mem_of_getElem? (i := 352) (by decide +kernel), List.mem_of_getElem? (i := 353) (by decide +kernel)⟩
theorem lw_p14 : lw_okq (⟨"DiagramCode$Chart", "groupArcs", "()V"⟩, 9) := ⟨⟨by decide +kernel, by decide +kernel⟩, List.mem_of_getElem? (i := 19) (by decide +kernel), List.mem_of_getElem? (i := 367) (by decide +kernel), List.mem_of_getElem? (i := 368) (by decide +kernel)⟩
theorem lw_p15 : lw_okq (⟨"DiagramCode", "hasComponent", "(I)Z"⟩, 4) := ⟨⟨by decide +kernel, by decide +kernel⟩, List.mem_of_getElem? (i := 11) (by decide +kernel), List.mem_of_getElem? (i := 452) (by decide +kernel), List.mem_of_getElem? (i := 453) (by decide +kernel)⟩
def lw_privs_1 : List (MethodName × Nat) := [(⟨"DiagramCode$Edges", "countLabel", "(I)V"⟩, 6), (⟨"DiagramCode$Edges", "countLess", "(I)I"⟩, 6), (⟨"DiagramCode$Edges", "has", "(I)Z"⟩, 6), (⟨"DiagramCode$Edges", "noteEnd", "(IIZ)V"⟩, 6), (⟨"DiagramCode$Chart", "groupPieces", "()V"⟩, 9), (⟨"DiagramCode$Groups", "hasMember", "(I)Z"⟩, 4), (⟨"DiagramCode$Chart", "traceFaces", "()V"⟩, 9), (⟨"DiagramCode$Rounds", "hasMember", "(I)Z"⟩, 6), (⟨"DiagramCode$Rounds", "walk", "(I)V"⟩, 6), (⟨"DiagramCode$Chart", "leastCrossingOnNoSphere", "()I"⟩, 9), (⟨"DiagramCode$Chart", "facesLessCrossings", "(I)I"⟩, 9), (⟨"DiagramCode$Rounds", "hasRound", "(I)Z"⟩, 6), (⟨"DiagramCode$Chart", "pieceOfEdge", "(I)I"⟩, 9), (⟨"DiagramCode$Chart", "traceStrands", "()V"⟩, 9), (⟨"DiagramCode$Chart", "groupArcs", "()V"⟩, 9), (⟨"DiagramCode", "hasComponent", "(I)Z"⟩, 4)]
theorem lw_r1 : ∀ q ∈ lw_privs_1, lw_okq q := List.forall_mem_cons.mpr ⟨lw_p0, List.forall_mem_cons.mpr ⟨lw_p1, List.forall_mem_cons.mpr ⟨lw_p2, List.forall_mem_cons.mpr ⟨lw_p3, List.forall_mem_cons.mpr ⟨lw_p4, List.forall_mem_cons.mpr ⟨lw_p5, List.forall_mem_cons.mpr ⟨lw_p6, List.forall_mem_cons.mpr ⟨lw_p7, List.forall_mem_cons.mpr ⟨lw_p8, List.forall_mem_cons.mpr ⟨lw_p9, List.forall_mem_cons.mpr ⟨lw_p10, List.forall_mem_cons.mpr ⟨lw_p11, List.forall_mem_cons.mpr ⟨lw_p12, List.forall_mem_cons.mpr ⟨lw_p13, List.forall_mem_cons.mpr ⟨lw_p14, List.forall_mem_cons.mpr ⟨lw_p15, fun _ h => absurd h List.not_mem_nil⟩⟩⟩⟩⟩⟩⟩⟩⟩⟩⟩⟩⟩⟩⟩⟩
theorem lw_p16 : lw_okq (⟨"DiagramCode$Chart", "sumOfSignsUnder", "(II)I"⟩, 9) := ⟨⟨by decide +kernel, by decide +kernel⟩, List.mem_of_getElem? (i := 19) (by decide +kernel), List.mem_of_getElem? (i := 460) (by decide +kernel), List.mem_of_getElem? (i := 461) (by decide +kernel)⟩
theorem lw_p17 : lw_okq (⟨"DiagramCode", "tellCircle", "(II)I"⟩, 4) := ⟨⟨by decide +kernel, by decide +kernel⟩, List.mem_of_getElem? (i := 11) (by decide +kernel), List.mem_of_getElem? (i := 467) (by decide +kernel), List.mem_of_getElem? (i := 468) (by decide +kernel)⟩
theorem lw_p18 : lw_okq (⟨"DiagramCode$Row", "beginPlacesAt", "(II)V"⟩, 3) := ⟨⟨by decide +kernel, by decide +kernel⟩, List.mem_of_getElem? (i := 25) (by decide +kernel), List.mem_of_getElem? (i := 507) (by decide +kernel), List.mem_of_getElem? (i := 508) (by decide +kernel)⟩
theorem lw_p19 : lw_okq (⟨"DiagramCode$Row", "flipSign", "(I)V"⟩, 3) := ⟨⟨by decide +kernel, by decide +kernel⟩, List.mem_of_getElem? (i := 25) (by decide +kernel), List.mem_of_getElem? (i := 511) (by decide +kernel), List.mem_of_getElem? (i := 512) (by decide +kernel)⟩
theorem lw_p20 : lw_okq (⟨"DiagramCode$Chart", "chooseNewLabels", "()V"⟩, 9) := ⟨⟨by decide +kernel, by decide +kernel⟩, List.mem_of_getElem? (i := 19) (by decide +kernel), List.mem_of_getElem? (i := 535) (by decide +kernel), List.mem_of_getElem? (i := 536) (by decide +kernel)⟩
theorem lw_p21 : lw_okq (⟨"DiagramCode$Row", "joinEdges", "(II)I"⟩, 3) := ⟨⟨by decide +kernel, by decide +kernel⟩, List.mem_of_getElem? (i := 25) (by decide +kernel), List.mem_of_getElem? (i := 560) (by decide +kernel), List.mem_of_getElem? (i := 561) (by decide +kernel)⟩
theorem lw_p22 : lw_okq (⟨"DiagramCode$Row", "dropCrossing", "(I)V"⟩, 3) := ⟨⟨by decide +kernel, by decide +kernel⟩, List.mem_of_getElem? (i := 25) (by decide +kernel), List.mem_of_getElem? (i := 566) (by decide +kernel), List.mem_of_getElem? (i := 567) (by decide +kernel)⟩
theorem lw_p23 : lw_okq (⟨"DiagramCodeModel", "take", "()V"⟩, 23) := ⟨⟨by decide +kernel, by decide +kernel⟩, List.mem_of_getElem? (i := 570) (by decide +kernel), List.mem_of_getElem? (i := 654) (by decide +kernel), List.mem_of_getElem? (i := 655) (by decide +kernel)⟩
theorem lw_p24 : lw_okq (⟨"DiagramCodeModel", "fault", "()I"⟩, 23) := ⟨⟨by decide +kernel, by decide +kernel⟩, List.mem_of_getElem? (i := 570) (by decide +kernel), List.mem_of_getElem? (i := 658) (by decide +kernel), List.mem_of_getElem? (i := 659) (by decide +kernel)⟩
theorem lw_p25 : lw_okq (⟨"DiagramCodeModel", "badLabel", "(Z)I"⟩, 23) := ⟨⟨by decide +kernel, by decide +kernel⟩, List.mem_of_getElem? (i := 570) (by decide +kernel), List.mem_of_getElem? (i := 662) (by decide +kernel), List.mem_of_getElem? (i := 663) (by decide +kernel)⟩
theorem lw_p26 : lw_okq (⟨"DiagramCodeModel", "sort", "()V"⟩, 23) := ⟨⟨by decide +kernel, by decide +kernel⟩, List.mem_of_getElem? (i := 570) (by decide +kernel), List.mem_of_getElem? (i := 666) (by decide +kernel), List.mem_of_getElem? (i := 667) (by decide +kernel)⟩
theorem lw_p27 : lw_okq (⟨"DiagramCodeModel", "placeOf", "(IZ)I"⟩, 23) := ⟨⟨by decide +kernel, by decide +kernel⟩, List.mem_of_getElem? (i := 570) (by decide +kernel), List.mem_of_getElem? (i := 670) (by decide +kernel), List.mem_of_getElem? (i := 671) (by decide +kernel)⟩
theorem lw_p28 : lw_okq (⟨"DiagramCodeModel", "isOut", "(I)Z"⟩, 23) := ⟨⟨by decide +kernel, by decide +kernel⟩, List.mem_of_getElem? (i := 570) (by decide +kernel), List.mem_of_getElem? (i := 674) (by decide +kernel), List.mem_of_getElem? (i := 675) (by decide +kernel)⟩
theorem lw_p29 : lw_okq (⟨"DiagramCodeModel", "badPiece", "()I"⟩, 23) := ⟨⟨by decide +kernel, by decide +kernel⟩, List.mem_of_getElem? (i := 570) (by decide +kernel), List.mem_of_getElem? (i := 678) (by decide +kernel), List.mem_of_getElem? (i := 679) (by decide +kernel)⟩
theorem lw_p30 : lw_okq (⟨"DiagramCodeModel", "hang", "()V"⟩, 23) := ⟨⟨by decide +kernel, by decide +kernel⟩, List.mem_of_getElem? (i := 570) (by decide +kernel), List.mem_of_getElem? (i := 682) (by decide +kernel), List.mem_of_getElem? (i := 683) (by decide +kernel)⟩
theorem lw_p31 : lw_okq (⟨"DiagramCodeModel", "findFaces", "()V"⟩, 23) := ⟨⟨by decide +kernel, by decide +kernel⟩, List.mem_of_getElem? (i := 570) (by decide +kernel), List.mem_of_getElem? (i := 686) (by decide +kernel), List.mem_of_getElem? (i := 687) (by decide +kernel)⟩
def lw_privs_2 : List (MethodName × Nat) := [(⟨"DiagramCode$Chart", "sumOfSignsUnder", "(II)I"⟩, 9), (⟨"DiagramCode", "tellCircle", "(II)I"⟩, 4), (⟨"DiagramCode$Row", "beginPlacesAt", "(II)V"⟩, 3), (⟨"DiagramCode$Row", "flipSign", "(I)V"⟩, 3), (⟨"DiagramCode$Chart", "chooseNewLabels", "()V"⟩, 9), (⟨"DiagramCode$Row", "joinEdges", "(II)I"⟩, 3), (⟨"DiagramCode$Row", "dropCrossing", "(I)V"⟩, 3), (⟨"DiagramCodeModel", "take", "()V"⟩, 23), (⟨"DiagramCodeModel", "fault", "()I"⟩, 23), (⟨"DiagramCodeModel", "badLabel", "(Z)I"⟩, 23), (⟨"DiagramCodeModel", "sort", "()V"⟩, 23), (⟨"DiagramCodeModel", "placeOf", "(IZ)I"⟩, 23), (⟨"DiagramCodeModel", "isOut", "(I)Z"⟩, 23), (⟨"DiagramCodeModel", "badPiece", "()I"⟩, 23), (⟨"DiagramCodeModel", "hang", "()V"⟩, 23), (⟨"DiagramCodeModel", "findFaces", "()V"⟩, 23)]
theorem lw_r2 : ∀ q ∈ lw_privs_2, lw_okq q := List.forall_mem_cons.mpr ⟨lw_p16, List.forall_mem_cons.mpr ⟨lw_p17, List.forall_mem_cons.mpr ⟨lw_p18, List.forall_mem_cons.mpr ⟨lw_p19, List.forall_mem_cons.mpr ⟨lw_p20, List.forall_mem_cons.mpr ⟨lw_p21, List.forall_mem_cons.mpr ⟨lw_p22, List.forall_mem_cons.mpr ⟨lw_p23, List.forall_mem_cons.mpr ⟨lw_p24, List.forall_mem_cons.mpr ⟨lw_p25, List.forall_mem_cons.mpr ⟨lw_p26, List.forall_mem_cons.mpr ⟨lw_p27, List.forall_mem_cons.mpr ⟨lw_p28, List.forall_mem_cons.mpr ⟨lw_p29, List.forall_mem_cons.mpr ⟨lw_p30, List.forall_mem_cons.mpr ⟨lw_p31, fun _ h => absurd h List.not_mem_nil⟩⟩⟩⟩⟩⟩⟩⟩⟩⟩⟩⟩⟩⟩⟩⟩
theorem lw_p32 : lw_okq (⟨"DiagramCodeModel", "rowOf", "(I)I"⟩, 23) := ⟨⟨by decide +kernel, by decide +kernel⟩, List.mem_of_getElem? (i := 570) (by decide +kernel), List.mem_of_getElem? (i := 690) (by decide +kernel), List.mem_of_getElem? (i := 691) (by decide +kernel)⟩
theorem lw_p33 : lw_okq (⟨"DiagramCodeModel", "turn", "(I)I"⟩, 23) := ⟨⟨by decide +kernel, by decide +kernel⟩, List.mem_of_getElem? (i := 570) (by decide +kernel), List.mem_of_getElem? (i := 694) (by decide +kernel), List.mem_of_getElem? (i := 695) (by decide +kernel)⟩
theorem lw_p34 : lw_okq (⟨"DiagramCodeModel", "facesAt", "(I)I"⟩, 23) := ⟨⟨by decide +kernel, by decide +kernel⟩, List.mem_of_getElem? (i := 570) (by decide +kernel), List.mem_of_getElem? (i := 698) (by decide +kernel), List.mem_of_getElem? (i := 699) (by decide +kernel)⟩
theorem lw_p35 : lw_okq (⟨"DiagramCodeModel", "back", "()V"⟩, 23) := ⟨⟨by decide +kernel, by decide +kernel⟩, List.mem_of_getElem? (i := 570) (by decide +kernel), List.mem_of_getElem? (i := 702) (by decide +kernel), List.mem_of_getElem? (i := 703) (by decide +kernel)⟩
theorem lw_p36 : lw_okq (⟨"DiagramCodeModel", "allComponents", "()I"⟩, 23) := ⟨⟨by decide +kernel, by decide +kernel⟩, List.mem_of_getElem? (i := 570) (by decide +kernel), List.mem_of_getElem? (i := 714) (by decide +kernel), List.mem_of_getElem? (i := 715) (by decide +kernel)⟩
theorem lw_p37 : lw_okq (⟨"DiagramCodeModel", "components", "()V"⟩, 23) := ⟨⟨by decide +kernel, by decide +kernel⟩, List.mem_of_getElem? (i := 570) (by decide +kernel), List.mem_of_getElem? (i := 718) (by decide +kernel), List.mem_of_getElem? (i := 719) (by decide +kernel)⟩
theorem lw_p38 : lw_okq (⟨"DiagramCodeModel", "next", "(I)I"⟩, 23) := ⟨⟨by decide +kernel, by decide +kernel⟩, List.mem_of_getElem? (i := 570) (by decide +kernel), List.mem_of_getElem? (i := 722) (by decide +kernel), List.mem_of_getElem? (i := 723) (by decide +kernel)⟩
theorem lw_p39 : lw_okq (⟨"DiagramCodeModel", "pieces", "()I"⟩, 23) := ⟨⟨by decide +kernel, by decide +kernel⟩, List.mem_of_getElem? (i := 570) (by decide +kernel), List.mem_of_getElem? (i := 729) (by decide +kernel), List.mem_of_getElem? (i := 730) (by decide +kernel)⟩
theorem lw_p40 : lw_okq (⟨"DiagramCodeModel", "signs", "()I"⟩, 23) := ⟨⟨by decide +kernel, by decide +kernel⟩, List.mem_of_getElem? (i := 570) (by decide +kernel), List.mem_of_getElem? (i := 733) (by decide +kernel), List.mem_of_getElem? (i := 734) (by decide +kernel)⟩
theorem lw_p41 : lw_okq (⟨"DiagramCodeModel", "allFaces", "()I"⟩, 23) := ⟨⟨by decide +kernel, by decide +kernel⟩, List.mem_of_getElem? (i := 570) (by decide +kernel), List.mem_of_getElem? (i := 737) (by decide +kernel), List.mem_of_getElem? (i := 738) (by decide +kernel)⟩
theorem lw_p42 : lw_okq (⟨"DiagramCodeModel", "arcs", "()I"⟩, 23) := ⟨⟨by decide +kernel, by decide +kernel⟩, List.mem_of_getElem? (i := 570) (by decide +kernel), List.mem_of_getElem? (i := 741) (by decide +kernel), List.mem_of_getElem? (i := 742) (by decide +kernel)⟩
theorem lw_p43 : lw_okq (⟨"DiagramCodeModel", "arcOf", "(I)I"⟩, 23) := ⟨⟨by decide +kernel, by decide +kernel⟩, List.mem_of_getElem? (i := 570) (by decide +kernel), List.mem_of_getElem? (i := 745) (by decide +kernel), List.mem_of_getElem? (i := 746) (by decide +kernel)⟩
theorem lw_p44 : lw_okq (⟨"DiagramCodeModel", "seifert", "()I"⟩, 23) := ⟨⟨by decide +kernel, by decide +kernel⟩, List.mem_of_getElem? (i := 570) (by decide +kernel), List.mem_of_getElem? (i := 752) (by decide +kernel), List.mem_of_getElem? (i := 753) (by decide +kernel)⟩
theorem lw_p45 : lw_okq (⟨"DiagramCodeModel", "seifertNext", "(I)I"⟩, 23) := ⟨⟨by decide +kernel, by decide +kernel⟩, List.mem_of_getElem? (i := 570) (by decide +kernel), List.mem_of_getElem? (i := 756) (by decide +kernel), List.mem_of_getElem? (i := 757) (by decide +kernel)⟩
theorem lw_p46 : lw_okq (⟨"DiagramCodeModel", "upperIn", "(I)I"⟩, 23) := ⟨⟨by decide +kernel, by decide +kernel⟩, List.mem_of_getElem? (i := 570) (by decide +kernel), List.mem_of_getElem? (i := 760) (by decide +kernel), List.mem_of_getElem? (i := 761) (by decide +kernel)⟩
theorem lw_p47 : lw_okq (⟨"DiagramCodeModel", "isAlternating", "()Z"⟩, 23) := ⟨⟨by decide +kernel, by decide +kernel⟩, List.mem_of_getElem? (i := 570) (by decide +kernel), List.mem_of_getElem? (i := 764) (by decide +kernel), List.mem_of_getElem? (i := 765) (by decide +kernel)⟩
def lw_privs_3 : List (MethodName × Nat) := [(⟨"DiagramCodeModel", "rowOf", "(I)I"⟩, 23), (⟨"DiagramCodeModel", "turn", "(I)I"⟩, 23), (⟨"DiagramCodeModel", "facesAt", "(I)I"⟩, 23), (⟨"DiagramCodeModel", "back", "()V"⟩, 23), (⟨"DiagramCodeModel", "allComponents", "()I"⟩, 23), (⟨"DiagramCodeModel", "components", "()V"⟩, 23), (⟨"DiagramCodeModel", "next", "(I)I"⟩, 23), (⟨"DiagramCodeModel", "pieces", "()I"⟩, 23), (⟨"DiagramCodeModel", "signs", "()I"⟩, 23), (⟨"DiagramCodeModel", "allFaces", "()I"⟩, 23), (⟨"DiagramCodeModel", "arcs", "()I"⟩, 23), (⟨"DiagramCodeModel", "arcOf", "(I)I"⟩, 23), (⟨"DiagramCodeModel", "seifert", "()I"⟩, 23), (⟨"DiagramCodeModel", "seifertNext", "(I)I"⟩, 23), (⟨"DiagramCodeModel", "upperIn", "(I)I"⟩, 23), (⟨"DiagramCodeModel", "isAlternating", "()Z"⟩, 23)]
theorem lw_r3 : ∀ q ∈ lw_privs_3, lw_okq q := List.forall_mem_cons.mpr ⟨lw_p32, List.forall_mem_cons.mpr ⟨lw_p33, List.forall_mem_cons.mpr ⟨lw_p34, List.forall_mem_cons.mpr ⟨lw_p35, List.forall_mem_cons.mpr ⟨lw_p36, List.forall_mem_cons.mpr ⟨lw_p37, List.forall_mem_cons.mpr ⟨lw_p38, List.forall_mem_cons.mpr ⟨lw_p39, List.forall_mem_cons.mpr ⟨lw_p40, List.forall_mem_cons.mpr ⟨lw_p41, List.forall_mem_cons.mpr ⟨lw_p42, List.forall_mem_cons.mpr ⟨lw_p43, List.forall_mem_cons.mpr ⟨lw_p44, List.forall_mem_cons.mpr ⟨lw_p45, List.forall_mem_cons.mpr ⟨lw_p46, List.forall_mem_cons.mpr ⟨lw_p47, fun _ h => absurd h List.not_mem_nil⟩⟩⟩⟩⟩⟩⟩⟩⟩⟩⟩⟩⟩⟩⟩⟩
theorem lw_p48 : lw_okq (⟨"DiagramCodeModel", "pieceOf", "(I)I"⟩, 23) := ⟨⟨by decide +kernel, by decide +kernel⟩, List.mem_of_getElem? (i := 570) (by decide +kernel), List.mem_of_getElem? (i := 772) (by decide +kernel), List.mem_of_getElem? (i := 773) (by decide +kernel)⟩
theorem lw_p49 : lw_okq (⟨"DiagramCodeModel", "componentOf", "(I)I"⟩, 23) := ⟨⟨by decide +kernel, by decide +kernel⟩, List.mem_of_getElem? (i := 570) (by decide +kernel), List.mem_of_getElem? (i := 776) (by decide +kernel), List.mem_of_getElem? (i := 777) (by decide +kernel)⟩
theorem lw_p50 : lw_okq (⟨"DiagramCodeModel", "faceAt", "(II)I"⟩, 23) := ⟨⟨by decide +kernel, by decide +kernel⟩, List.mem_of_getElem? (i := 570) (by decide +kernel), List.mem_of_getElem? (i := 784) (by decide +kernel), List.mem_of_getElem? (i := 785) (by decide +kernel)⟩
theorem lw_p51 : lw_okq (⟨"DiagramCodeModel", "together", "(II)I"⟩, 23) := ⟨⟨by decide +kernel, by decide +kernel⟩, List.mem_of_getElem? (i := 570) (by decide +kernel), List.mem_of_getElem? (i := 792) (by decide +kernel), List.mem_of_getElem? (i := 793) (by decide +kernel)⟩
theorem lw_p52 : lw_okq (⟨"DiagramCodeModel", "beginning", "(I)I"⟩, 23) := ⟨⟨by decide +kernel, by decide +kernel⟩, List.mem_of_getElem? (i := 570) (by decide +kernel), List.mem_of_getElem? (i := 796) (by decide +kernel), List.mem_of_getElem? (i := 797) (by decide +kernel)⟩
theorem lw_p53 : lw_okq (⟨"DiagramCodeModel", "edgesOf", "(I)I"⟩, 23) := ⟨⟨by decide +kernel, by decide +kernel⟩, List.mem_of_getElem? (i := 570) (by decide +kernel), List.mem_of_getElem? (i := 800) (by decide +kernel), List.mem_of_getElem? (i := 801) (by decide +kernel)⟩
theorem lw_p54 : lw_okq (⟨"DiagramCodeModel", "join", "(II)V"⟩, 23) := ⟨⟨by decide +kernel, by decide +kernel⟩, List.mem_of_getElem? (i := 570) (by decide +kernel), List.mem_of_getElem? (i := 829) (by decide +kernel), List.mem_of_getElem? (i := 830) (by decide +kernel)⟩
theorem lw_p55 : lw_okq (⟨"DiagramCodeModel", "rename", "(II)V"⟩, 23) := ⟨⟨by decide +kernel, by decide +kernel⟩, List.mem_of_getElem? (i := 570) (by decide +kernel), List.mem_of_getElem? (i := 833) (by decide +kernel), List.mem_of_getElem? (i := 834) (by decide +kernel)⟩
def lw_privs_4 : List (MethodName × Nat) := [(⟨"DiagramCodeModel", "pieceOf", "(I)I"⟩, 23), (⟨"DiagramCodeModel", "componentOf", "(I)I"⟩, 23), (⟨"DiagramCodeModel", "faceAt", "(II)I"⟩, 23), (⟨"DiagramCodeModel", "together", "(II)I"⟩, 23), (⟨"DiagramCodeModel", "beginning", "(I)I"⟩, 23), (⟨"DiagramCodeModel", "edgesOf", "(I)I"⟩, 23), (⟨"DiagramCodeModel", "join", "(II)V"⟩, 23), (⟨"DiagramCodeModel", "rename", "(II)V"⟩, 23)]
theorem lw_r4 : ∀ q ∈ lw_privs_4, lw_okq q := List.forall_mem_cons.mpr ⟨lw_p48, List.forall_mem_cons.mpr ⟨lw_p49, List.forall_mem_cons.mpr ⟨lw_p50, List.forall_mem_cons.mpr ⟨lw_p51, List.forall_mem_cons.mpr ⟨lw_p52, List.forall_mem_cons.mpr ⟨lw_p53, List.forall_mem_cons.mpr ⟨lw_p54, List.forall_mem_cons.mpr ⟨lw_p55, fun _ h => absurd h List.not_mem_nil⟩⟩⟩⟩⟩⟩⟩⟩
def lw_privs : List (MethodName × Nat) := lw_privs_1 ++ (lw_privs_2 ++ (lw_privs_3 ++ (lw_privs_4)))
def lw_tbl : List Cond := k2_sels lw_privs ++ tables_1
theorem lw_privs_ok : ∀ q ∈ lw_privs, lw_okq q := by
  show ∀ q ∈ lw_privs_1 ++ (lw_privs_2 ++ (lw_privs_3 ++ (lw_privs_4))), lw_okq q
  exact List.forall_mem_append.mpr ⟨lw_r1, List.forall_mem_append.mpr ⟨lw_r2, List.forall_mem_append.mpr ⟨lw_r3, lw_r4⟩⟩⟩
end
section
/-! ===== BEGIN words of one list among another's, by their places ===== -/
theorem goodIn_r {big : List Cond} (ws : List Cond) (ps : List Nat) (hp : ws = ps.filterMap (fun i => big[i]?)) (h : ws.all goodWord = true) : GoodIn big ws := by
  intro w hw
  have h1 := List.all_eq_true.mp h w hw
  rw [hp] at hw
  obtain ⟨i, -, hi⟩ := List.mem_filterMap.mp hw
  have hm : w ∈ big := by first | exact List.mem_of_getElem? hi | exact List.getElem?_mem hi
  exact ⟨hm, good_of_word h1⟩
theorem goodIn_app {big a b : List Cond} (ha : GoodIn big a) (hb : GoodIn big b) : GoodIn big (a ++ b) := fun w h => (List.mem_append.mp h).elim (ha w) (hb w)
theorem goodIn_ca {big a b : List Cond} {c : Cond} (ha : GoodIn big (c :: a)) (hb : GoodIn big b) : GoodIn big (c :: (a ++ b)) := fun w h => (List.mem_cons.mp h).elim (fun e => ha w (List.mem_cons.mpr (Or.inl e))) (fun h => (List.mem_append.mp h).elim (fun h => ha w (List.mem_cons.mpr (Or.inr h))) (hb w))
theorem goodIn_sub {big ws : List Cond} (hm : ∀ w ∈ ws, w ∈ big) (h : ws.all goodWord = true) : GoodIn big ws := fun w hw => ⟨hm w hw, good_of_word (List.all_eq_true.mp h w hw)⟩
/-! ===== END ===== -/

/-! ===== BEGIN printed: names, fields, word lists, decode rows ===== -/
def RX0 : String := "DiagramCode$Chart"
def TX0 : u_T := fun k => match k with
  | 0 => ("DiagramCode$Chart", "row", "LDiagramCode$Row;", true)
  | 1 => ("DiagramCode$Chart", "edges", "LDiagramCode$Edges;", true)
  | 2 => ("DiagramCode$Chart", "pieces", "LDiagramCode$Groups;", true)
  | 3 => ("DiagramCode$Chart", "arcs", "LDiagramCode$Groups;", true)
  | 4 => ("DiagramCode$Chart", "components", "LDiagramCode$Rounds;", true)
  | 5 => ("DiagramCode$Chart", "seifert", "LDiagramCode$Rounds;", true)
  | 6 => ("DiagramCode$Chart", "faces", "LDiagramCode$Rounds;", true)
  | 7 => ("DiagramCode$Chart", "newLabels", "[I", true)
  | _ => ("DiagramCode$Chart", "wrong", "I", false)
def tyX0 : Nat → FieldType := fun k => match k with
  | 0 => .object "DiagramCode$Row"
  | 1 => .object "DiagramCode$Edges"
  | 2 => .object "DiagramCode$Groups"
  | 3 => .object "DiagramCode$Groups"
  | 4 => .object "DiagramCode$Rounds"
  | 5 => .object "DiagramCode$Rounds"
  | 6 => .object "DiagramCode$Rounds"
  | 7 => .array .int
  | _ => .int
abbrev wsX00 : List Cond := u_ws RX0 TX0 9
theorem nmX0 : ∀ a, a < 9 → ∀ b, b < 9 → a ≠ b → (TX0 a).2.1 ≠ (TX0 b).2.1 := by decide +kernel
theorem tyX0_ok : ∀ k, k < 9 → parseFieldDescriptor (TX0 k).2.2.1 = some (tyX0 k) := by decide +kernel
abbrev cX0_init : ByteArray := prog_2_method_1_code
def yX0_init : MethodName := ⟨RX0, "<init>", "()V"⟩
abbrev cX0_wrong : ByteArray := prog_2_method_2_code
def yX0_wrong : MethodName := ⟨RX0, "wrong", "()I"⟩
abbrev cX0_survey : ByteArray := prog_2_method_3_code
def yX0_survey : MethodName := ⟨RX0, "survey", "()I"⟩
abbrev cX0_groupPieces : ByteArray := prog_2_method_4_code
def yX0_groupPieces : MethodName := ⟨RX0, "groupPieces", "()V"⟩
abbrev cX0_traceFaces : ByteArray := prog_2_method_5_code
def yX0_traceFaces : MethodName := ⟨RX0, "traceFaces", "()V"⟩
abbrev cX0_leastCrossingOnNoSphere : ByteArray := prog_2_method_6_code
def yX0_leastCrossingOnNoSphere : MethodName := ⟨RX0, "leastCrossingOnNoSphere", "()I"⟩
abbrev cX0_facesLessCrossings : ByteArray := prog_2_method_7_code
def yX0_facesLessCrossings : MethodName := ⟨RX0, "facesLessCrossings", "(I)I"⟩
abbrev cX0_traceStrands : ByteArray := prog_2_method_8_code
def yX0_traceStrands : MethodName := ⟨RX0, "traceStrands", "()V"⟩
abbrev cX0_groupArcs : ByteArray := prog_2_method_9_code
def yX0_groupArcs : MethodName := ⟨RX0, "groupArcs", "()V"⟩
abbrev cX0_pieceOfEdge : ByteArray := prog_2_method_10_code
def yX0_pieceOfEdge : MethodName := ⟨RX0, "pieceOfEdge", "(I)I"⟩
abbrev cX0_pieceOfComponent : ByteArray := prog_2_method_11_code
def yX0_pieceOfComponent : MethodName := ⟨RX0, "pieceOfComponent", "(I)I"⟩
abbrev cX0_lowerComponent : ByteArray := prog_2_method_12_code
def yX0_lowerComponent : MethodName := ⟨RX0, "lowerComponent", "(I)I"⟩
abbrev cX0_upperComponent : ByteArray := prog_2_method_13_code
def yX0_upperComponent : MethodName := ⟨RX0, "upperComponent", "(I)I"⟩
abbrev cX0_sumOfOwnSigns : ByteArray := prog_2_method_14_code
def yX0_sumOfOwnSigns : MethodName := ⟨RX0, "sumOfOwnSigns", "(I)I"⟩
abbrev cX0_linking : ByteArray := prog_2_method_15_code
def yX0_linking : MethodName := ⟨RX0, "linking", "(II)I"⟩
abbrev cX0_sumOfSignsUnder : ByteArray := prog_2_method_16_code
def yX0_sumOfSignsUnder : MethodName := ⟨RX0, "sumOfSignsUnder", "(II)I"⟩
abbrev cX0_turnComponent : ByteArray := prog_2_method_17_code
def yX0_turnComponent : MethodName := ⟨RX0, "turnComponent", "(I)V"⟩
abbrev cX0_labelAnew : ByteArray := prog_2_method_18_code
def yX0_labelAnew : MethodName := ⟨RX0, "labelAnew", "()V"⟩
abbrev cX0_chooseNewLabels : ByteArray := prog_2_method_19_code
def yX0_chooseNewLabels : MethodName := ⟨RX0, "chooseNewLabels", "()V"⟩
def RX1 : String := "DiagramCode$Edges"
def TX1 : u_T := fun k => match k with
  | 0 => ("DiagramCode$Edges", "labels", "[I", true)
  | 1 => ("DiagramCode$Edges", "times", "[I", true)
  | 2 => ("DiagramCode$Edges", "from", "[I", true)
  | 3 => ("DiagramCode$Edges", "to", "[I", true)
  | 4 => ("DiagramCode$Edges", "edgeAt", "[I", true)
  | _ => ("DiagramCode$Edges", "count", "I", false)
def tyX1 : Nat → FieldType := fun k => match k with
  | 0 => .array .int
  | 1 => .array .int
  | 2 => .array .int
  | 3 => .array .int
  | 4 => .array .int
  | _ => .int
abbrev wsX10 : List Cond := u_ws RX1 TX1 6
theorem nmX1 : ∀ a, a < 6 → ∀ b, b < 6 → a ≠ b → (TX1 a).2.1 ≠ (TX1 b).2.1 := by decide +kernel
theorem tyX1_ok : ∀ k, k < 6 → parseFieldDescriptor (TX1 k).2.2.1 = some (tyX1 k) := by decide +kernel
abbrev cX1_init : ByteArray := prog_3_method_1_code
def yX1_init : MethodName := ⟨RX1, "<init>", "()V"⟩
abbrev cX1_count : ByteArray := prog_3_method_2_code
def yX1_count : MethodName := ⟨RX1, "count", "()I"⟩
abbrev cX1_has : ByteArray := prog_3_method_3_code
def yX1_has : MethodName := ⟨RX1, "has", "(I)Z"⟩
abbrev cX1_label : ByteArray := prog_3_method_4_code
def yX1_label : MethodName := ⟨RX1, "label", "(I)I"⟩
abbrev cX1_from : ByteArray := prog_3_method_5_code
def yX1_from : MethodName := ⟨RX1, "from", "(I)I"⟩
abbrev cX1_to : ByteArray := prog_3_method_6_code
def yX1_to : MethodName := ⟨RX1, "to", "(I)I"⟩
abbrev cX1_at : ByteArray := prog_3_method_7_code
def yX1_at : MethodName := ⟨RX1, "at", "(I)I"⟩
abbrev cX1_dartFrom : ByteArray := prog_3_method_8_code
def yX1_dartFrom : MethodName := ⟨RX1, "dartFrom", "(I)I"⟩
abbrev cX1_gatherLabels : ByteArray := prog_3_method_9_code
def yX1_gatherLabels : MethodName := ⟨RX1, "gatherLabels", "(LDiagramCode$Row;)I"⟩
abbrev cX1_countLabel : ByteArray := prog_3_method_10_code
def yX1_countLabel : MethodName := ⟨RX1, "countLabel", "(I)V"⟩
abbrev cX1_findEnds : ByteArray := prog_3_method_11_code
def yX1_findEnds : MethodName := ⟨RX1, "findEnds", "(LDiagramCode$Row;)I"⟩
abbrev cX1_noteEnd : ByteArray := prog_3_method_12_code
def yX1_noteEnd : MethodName := ⟨RX1, "noteEnd", "(IIZ)V"⟩
abbrev cX1_rank : ByteArray := prog_3_method_13_code
def yX1_rank : MethodName := ⟨RX1, "rank", "(I)I"⟩
abbrev cX1_countLess : ByteArray := prog_3_method_14_code
def yX1_countLess : MethodName := ⟨RX1, "countLess", "(I)I"⟩
abbrev cX1_alternate : ByteArray := prog_3_method_15_code
def yX1_alternate : MethodName := ⟨RX1, "alternate", "()Z"⟩
def RX2 : String := "DiagramCode$Groups"
def TX2 : u_T := fun k => match k with
  | 0 => ("DiagramCode$Groups", "least", "[I", true)
  | 1 => ("DiagramCode$Groups", "numberOf", "[I", true)
  | 2 => ("DiagramCode$Groups", "members", "I", false)
  | _ => ("DiagramCode$Groups", "count", "I", false)
def tyX2 : Nat → FieldType := fun k => match k with
  | 0 => .array .int
  | 1 => .array .int
  | 2 => .int
  | _ => .int
abbrev wsX20 : List Cond := u_ws RX2 TX2 4
theorem nmX2 : ∀ a, a < 4 → ∀ b, b < 4 → a ≠ b → (TX2 a).2.1 ≠ (TX2 b).2.1 := by decide +kernel
theorem tyX2_ok : ∀ k, k < 4 → parseFieldDescriptor (TX2 k).2.2.1 = some (tyX2 k) := by decide +kernel
abbrev cX2_init : ByteArray := prog_4_method_1_code
def yX2_init : MethodName := ⟨RX2, "<init>", "()V"⟩
abbrev cX2_count : ByteArray := prog_4_method_2_code
def yX2_count : MethodName := ⟨RX2, "count", "()I"⟩
abbrev cX2_hasMember : ByteArray := prog_4_method_3_code
def yX2_hasMember : MethodName := ⟨RX2, "hasMember", "(I)Z"⟩
abbrev cX2_least : ByteArray := prog_4_method_4_code
def yX2_least : MethodName := ⟨RX2, "least", "(I)I"⟩
abbrev cX2_numberOf : ByteArray := prog_4_method_5_code
def yX2_numberOf : MethodName := ⟨RX2, "numberOf", "(I)I"⟩
abbrev cX2_begin : ByteArray := prog_4_method_6_code
def yX2_begin : MethodName := ⟨RX2, "begin", "(I)V"⟩
abbrev cX2_join : ByteArray := prog_4_method_7_code
def yX2_join : MethodName := ⟨RX2, "join", "(II)V"⟩
abbrev cX2_numberGroups : ByteArray := prog_4_method_8_code
def yX2_numberGroups : MethodName := ⟨RX2, "numberGroups", "()V"⟩
def RX3 : String := "DiagramCode$Rounds"
def TX3 : u_T := fun k => match k with
  | 0 => ("DiagramCode$Rounds", "next", "[I", true)
  | 1 => ("DiagramCode$Rounds", "roundOf", "[I", true)
  | 2 => ("DiagramCode$Rounds", "first", "[I", true)
  | 3 => ("DiagramCode$Rounds", "size", "[I", true)
  | 4 => ("DiagramCode$Rounds", "members", "I", false)
  | _ => ("DiagramCode$Rounds", "count", "I", false)
def tyX3 : Nat → FieldType := fun k => match k with
  | 0 => .array .int
  | 1 => .array .int
  | 2 => .array .int
  | 3 => .array .int
  | 4 => .int
  | _ => .int
abbrev wsX30 : List Cond := u_ws RX3 TX3 6
theorem nmX3 : ∀ a, a < 6 → ∀ b, b < 6 → a ≠ b → (TX3 a).2.1 ≠ (TX3 b).2.1 := by decide +kernel
theorem tyX3_ok : ∀ k, k < 6 → parseFieldDescriptor (TX3 k).2.2.1 = some (tyX3 k) := by decide +kernel
abbrev cX3_init : ByteArray := prog_5_method_1_code
def yX3_init : MethodName := ⟨RX3, "<init>", "()V"⟩
abbrev cX3_count : ByteArray := prog_5_method_2_code
def yX3_count : MethodName := ⟨RX3, "count", "()I"⟩
abbrev cX3_hasMember : ByteArray := prog_5_method_3_code
def yX3_hasMember : MethodName := ⟨RX3, "hasMember", "(I)Z"⟩
abbrev cX3_hasRound : ByteArray := prog_5_method_4_code
def yX3_hasRound : MethodName := ⟨RX3, "hasRound", "(I)Z"⟩
abbrev cX3_next : ByteArray := prog_5_method_5_code
def yX3_next : MethodName := ⟨RX3, "next", "(I)I"⟩
abbrev cX3_roundOf : ByteArray := prog_5_method_6_code
def yX3_roundOf : MethodName := ⟨RX3, "roundOf", "(I)I"⟩
abbrev cX3_first : ByteArray := prog_5_method_7_code
def yX3_first : MethodName := ⟨RX3, "first", "(I)I"⟩
abbrev cX3_size : ByteArray := prog_5_method_8_code
def yX3_size : MethodName := ⟨RX3, "size", "(I)I"⟩
abbrev cX3_member : ByteArray := prog_5_method_9_code
def yX3_member : MethodName := ⟨RX3, "member", "(II)I"⟩
abbrev cX3_begin : ByteArray := prog_5_method_10_code
def yX3_begin : MethodName := ⟨RX3, "begin", "(I)V"⟩
abbrev cX3_link : ByteArray := prog_5_method_11_code
def yX3_link : MethodName := ⟨RX3, "link", "(II)V"⟩
abbrev cX3_trace : ByteArray := prog_5_method_12_code
def yX3_trace : MethodName := ⟨RX3, "trace", "()V"⟩
abbrev cX3_walk : ByteArray := prog_5_method_13_code
def yX3_walk : MethodName := ⟨RX3, "walk", "(I)V"⟩
def RX4 : String := "DiagramCode$Row"
def TX4 : u_T := fun k => match k with
  | 0 => ("DiagramCode$Row", "signs", "[I", true)
  | 1 => ("DiagramCode$Row", "labels", "[I", true)
  | _ => ("DiagramCode$Row", "crossings", "I", false)
def tyX4 : Nat → FieldType := fun k => match k with
  | 0 => .array .int
  | 1 => .array .int
  | _ => .int
abbrev wsX40 : List Cond := u_ws RX4 TX4 3
theorem nmX4 : ∀ a, a < 3 → ∀ b, b < 3 → a ≠ b → (TX4 a).2.1 ≠ (TX4 b).2.1 := by decide +kernel
theorem tyX4_ok : ∀ k, k < 3 → parseFieldDescriptor (TX4 k).2.2.1 = some (tyX4 k) := by decide +kernel
abbrev cX4_init : ByteArray := prog_6_method_1_code
def yX4_init : MethodName := ⟨RX4, "<init>", "()V"⟩
abbrev cX4_crossings : ByteArray := prog_6_method_2_code
def yX4_crossings : MethodName := ⟨RX4, "crossings", "()I"⟩
abbrev cX4_spots : ByteArray := prog_6_method_3_code
def yX4_spots : MethodName := ⟨RX4, "spots", "()I"⟩
abbrev cX4_has : ByteArray := prog_6_method_4_code
def yX4_has : MethodName := ⟨RX4, "has", "(I)Z"⟩
abbrev cX4_sign : ByteArray := prog_6_method_5_code
def yX4_sign : MethodName := ⟨RX4, "sign", "(I)I"⟩
abbrev cX4_label : ByteArray := prog_6_method_6_code
def yX4_label : MethodName := ⟨RX4, "label", "(I)I"⟩
abbrev cX4_setLabel : ByteArray := prog_6_method_7_code
def yX4_setLabel : MethodName := ⟨RX4, "setLabel", "(II)V"⟩
abbrev cX4_clear : ByteArray := prog_6_method_8_code
def yX4_clear : MethodName := ⟨RX4, "clear", "()V"⟩
abbrev cX4_append : ByteArray := prog_6_method_9_code
def yX4_append : MethodName := ⟨RX4, "append", "(IIIII)Z"⟩
abbrev cX4_upperIn : ByteArray := prog_6_method_10_code
def yX4_upperIn : MethodName := ⟨RX4, "upperIn", "(I)I"⟩
abbrev cX4_upperOut : ByteArray := prog_6_method_11_code
def yX4_upperOut : MethodName := ⟨RX4, "upperOut", "(I)I"⟩
abbrev cX4_goesOut : ByteArray := prog_6_method_12_code
def yX4_goesOut : MethodName := ⟨RX4, "goesOut", "(I)Z"⟩
abbrev cX4_seifertOut : ByteArray := prog_6_method_13_code
def yX4_seifertOut : MethodName := ⟨RX4, "seifertOut", "(I)I"⟩
abbrev cX4_sumOfSigns : ByteArray := prog_6_method_14_code
def yX4_sumOfSigns : MethodName := ⟨RX4, "sumOfSigns", "()I"⟩
abbrev cX4_exchangeStrands : ByteArray := prog_6_method_15_code
def yX4_exchangeStrands : MethodName := ⟨RX4, "exchangeStrands", "(I)V"⟩
abbrev cX4_exchangeAllStrands : ByteArray := prog_6_method_16_code
def yX4_exchangeAllStrands : MethodName := ⟨RX4, "exchangeAllStrands", "()V"⟩
abbrev cX4_turnStrands : ByteArray := prog_6_method_17_code
def yX4_turnStrands : MethodName := ⟨RX4, "turnStrands", "(IZZ)V"⟩
abbrev cX4_flipSign : ByteArray := prog_6_method_18_code
def yX4_flipSign : MethodName := ⟨RX4, "flipSign", "(I)V"⟩
abbrev cX4_beginPlacesAt : ByteArray := prog_6_method_19_code
def yX4_beginPlacesAt : MethodName := ⟨RX4, "beginPlacesAt", "(II)V"⟩
abbrev cX4_smoothAway : ByteArray := prog_6_method_20_code
def yX4_smoothAway : MethodName := ⟨RX4, "smoothAway", "(I)I"⟩
abbrev cX4_joinEdges : ByteArray := prog_6_method_21_code
def yX4_joinEdges : MethodName := ⟨RX4, "joinEdges", "(II)I"⟩
abbrev cX4_dropCrossing : ByteArray := prog_6_method_22_code
def yX4_dropCrossing : MethodName := ⟨RX4, "dropCrossing", "(I)V"⟩
abbrev cX4_lowerIn : ByteArray := prog_6_method_23_code
def yX4_lowerIn : MethodName := ⟨RX4, "lowerIn", "(I)I"⟩
abbrev cX4_lowerOut : ByteArray := prog_6_method_24_code
def yX4_lowerOut : MethodName := ⟨RX4, "lowerOut", "(I)I"⟩
abbrev cX4_isUpper : ByteArray := prog_6_method_25_code
def yX4_isUpper : MethodName := ⟨RX4, "isUpper", "(I)Z"⟩
abbrev cX4_across : ByteArray := prog_6_method_26_code
def yX4_across : MethodName := ⟨RX4, "across", "(I)I"⟩
abbrev cX4_beside : ByteArray := prog_6_method_27_code
def yX4_beside : MethodName := ⟨RX4, "beside", "(I)I"⟩
def RX5 : String := "DiagramCode"
def TX5 : u_T := fun k => match k with
  | 0 => ("DiagramCode", "put", "LDiagramCode$Chart;", false)
  | 1 => ("DiagramCode", "held", "LDiagramCode$Chart;", false)
  | 2 => ("DiagramCode", "circles", "I", false)
  | _ => ("DiagramCode", "wrong", "I", false)
def tyX5 : Nat → FieldType := fun k => match k with
  | 0 => .object "DiagramCode$Chart"
  | 1 => .object "DiagramCode$Chart"
  | 2 => .int
  | _ => .int
abbrev wsX50 : List Cond := u_ws RX5 TX5 4
theorem nmX5 : ∀ a, a < 4 → ∀ b, b < 4 → a ≠ b → (TX5 a).2.1 ≠ (TX5 b).2.1 := by decide +kernel
theorem tyX5_ok : ∀ k, k < 4 → parseFieldDescriptor (TX5 k).2.2.1 = some (tyX5 k) := by decide +kernel
abbrev cX5_init : ByteArray := prog_1_method_1_code
def yX5_init : MethodName := ⟨RX5, "<init>", "()V"⟩
abbrev cX5_crossing : ByteArray := prog_1_method_2_code
def yX5_crossing : MethodName := ⟨RX5, "crossing", "(IIIII)I"⟩
abbrev cX5_check : ByteArray := prog_1_method_3_code
def yX5_check : MethodName := ⟨RX5, "check", "(I)I"⟩
abbrev cX5_which : ByteArray := prog_1_method_4_code
def yX5_which : MethodName := ⟨RX5, "which", "()I"⟩
abbrev cX5_many : ByteArray := prog_1_method_5_code
def yX5_many : MethodName := ⟨RX5, "many", "(I)I"⟩
abbrev cX5_look : ByteArray := prog_1_method_6_code
def yX5_look : MethodName := ⟨RX5, "look", "(II)I"⟩
abbrev cX5_edge : ByteArray := prog_1_method_7_code
def yX5_edge : MethodName := ⟨RX5, "edge", "(II)I"⟩
abbrev cX5_component : ByteArray := prog_1_method_8_code
def yX5_component : MethodName := ⟨RX5, "component", "(II)I"⟩
abbrev cX5_face : ByteArray := prog_1_method_9_code
def yX5_face : MethodName := ⟨RX5, "face", "(II)I"⟩
abbrev cX5_mirror : ByteArray := prog_1_method_10_code
def yX5_mirror : MethodName := ⟨RX5, "mirror", "()V"⟩
abbrev cX5_reverse : ByteArray := prog_1_method_11_code
def yX5_reverse : MethodName := ⟨RX5, "reverse", "(I)Z"⟩
abbrev cX5_number : ByteArray := prog_1_method_12_code
def yX5_number : MethodName := ⟨RX5, "number", "()V"⟩
abbrev cX5_change : ByteArray := prog_1_method_13_code
def yX5_change : MethodName := ⟨RX5, "change", "(I)Z"⟩
abbrev cX5_smooth : ByteArray := prog_1_method_14_code
def yX5_smooth : MethodName := ⟨RX5, "smooth", "(I)Z"⟩
abbrev cX5_isLabel : ByteArray := prog_1_method_15_code
def yX5_isLabel : MethodName := ⟨RX5, "isLabel", "(I)Z"⟩
abbrev cX5_hasComponent : ByteArray := prog_1_method_16_code
def yX5_hasComponent : MethodName := ⟨RX5, "hasComponent", "(I)Z"⟩
abbrev cX5_tellCircle : ByteArray := prog_1_method_17_code
def yX5_tellCircle : MethodName := ⟨RX5, "tellCircle", "(II)I"⟩
def RX6 : String := "DiagramCodeModel"
def TX6 : u_T := fun k => match k with
  | 0 => ("DiagramCodeModel", "thrown", "I", false)
  | 1 => ("DiagramCodeModel", "put", "I", false)
  | 2 => ("DiagramCodeModel", "wrong", "I", false)
  | 3 => ("DiagramCodeModel", "putSign", "[I", true)
  | 4 => ("DiagramCodeModel", "putLabel", "[I", true)
  | 5 => ("DiagramCodeModel", "n", "I", false)
  | 6 => ("DiagramCodeModel", "circles", "I", false)
  | 7 => ("DiagramCodeModel", "oldN", "I", false)
  | 8 => ("DiagramCodeModel", "oldCircles", "I", false)
  | 9 => ("DiagramCodeModel", "sign", "[I", true)
  | 10 => ("DiagramCodeModel", "label", "[I", true)
  | 11 => ("DiagramCodeModel", "oldSign", "[I", true)
  | 12 => ("DiagramCodeModel", "oldLabel", "[I", true)
  | 13 => ("DiagramCodeModel", "labels", "I", false)
  | 14 => ("DiagramCodeModel", "row", "[I", true)
  | 15 => ("DiagramCodeModel", "fresh", "[I", true)
  | 16 => ("DiagramCodeModel", "lower", "[Z", true)
  | 17 => ("DiagramCodeModel", "upper", "[Z", true)
  | 18 => ("DiagramCodeModel", "piece", "[I", true)
  | 19 => ("DiagramCodeModel", "closed", "I", false)
  | 20 => ("DiagramCodeModel", "faces", "I", false)
  | 21 => ("DiagramCodeModel", "component", "[I", true)
  | _ => ("DiagramCodeModel", "faceOf", "[I", true)
def tyX6 : Nat → FieldType := fun k => match k with
  | 0 => .int
  | 1 => .int
  | 2 => .int
  | 3 => .array .int
  | 4 => .array .int
  | 5 => .int
  | 6 => .int
  | 7 => .int
  | 8 => .int
  | 9 => .array .int
  | 10 => .array .int
  | 11 => .array .int
  | 12 => .array .int
  | 13 => .int
  | 14 => .array .int
  | 15 => .array .int
  | 16 => .array .boolean
  | 17 => .array .boolean
  | 18 => .array .int
  | 19 => .int
  | 20 => .int
  | 21 => .array .int
  | _ => .array .int
abbrev wsX60 : List Cond := u_ws RX6 TX6 23
theorem nmX6 : ∀ a, a < 23 → ∀ b, b < 23 → a ≠ b → (TX6 a).2.1 ≠ (TX6 b).2.1 := by decide +kernel
theorem tyX6_ok : ∀ k, k < 23 → parseFieldDescriptor (TX6 k).2.2.1 = some (tyX6 k) := by decide +kernel
abbrev cX6_init : ByteArray := prog_8_method_1_code
def yX6_init : MethodName := ⟨RX6, "<init>", "()V"⟩
abbrev cX6_isOut : ByteArray := prog_8_method_3_code
def yX6_isOut : MethodName := ⟨RX6, "isOut", "(I)Z"⟩
abbrev cX6_isUpper : ByteArray := prog_8_method_4_code
def yX6_isUpper : MethodName := ⟨RX6, "isUpper", "(I)Z"⟩
abbrev cX6_placeOf : ByteArray := prog_8_method_5_code
def yX6_placeOf : MethodName := ⟨RX6, "placeOf", "(IZ)I"⟩
abbrev cX6_across : ByteArray := prog_8_method_6_code
def yX6_across : MethodName := ⟨RX6, "across", "(I)I"⟩
abbrev cX6_next : ByteArray := prog_8_method_7_code
def yX6_next : MethodName := ⟨RX6, "next", "(I)I"⟩
abbrev cX6_upperIn : ByteArray := prog_8_method_8_code
def yX6_upperIn : MethodName := ⟨RX6, "upperIn", "(I)I"⟩
abbrev cX6_sort : ByteArray := prog_8_method_9_code
def yX6_sort : MethodName := ⟨RX6, "sort", "()V"⟩
abbrev cX6_components : ByteArray := prog_8_method_10_code
def yX6_components : MethodName := ⟨RX6, "components", "()V"⟩
abbrev cX6_componentOf : ByteArray := prog_8_method_11_code
def yX6_componentOf : MethodName := ⟨RX6, "componentOf", "(I)I"⟩
abbrev cX6_beginning : ByteArray := prog_8_method_12_code
def yX6_beginning : MethodName := ⟨RX6, "beginning", "(I)I"⟩
abbrev cX6_hang : ByteArray := prog_8_method_13_code
def yX6_hang : MethodName := ⟨RX6, "hang", "()V"⟩
abbrev cX6_pieceOf : ByteArray := prog_8_method_14_code
def yX6_pieceOf : MethodName := ⟨RX6, "pieceOf", "(I)I"⟩
abbrev cX6_pieces : ByteArray := prog_8_method_15_code
def yX6_pieces : MethodName := ⟨RX6, "pieces", "()I"⟩
abbrev cX6_turn : ByteArray := prog_8_method_16_code
def yX6_turn : MethodName := ⟨RX6, "turn", "(I)I"⟩
abbrev cX6_rowOf : ByteArray := prog_8_method_17_code
def yX6_rowOf : MethodName := ⟨RX6, "rowOf", "(I)I"⟩
abbrev cX6_findFaces : ByteArray := prog_8_method_18_code
def yX6_findFaces : MethodName := ⟨RX6, "findFaces", "()V"⟩
abbrev cX6_facesAt : ByteArray := prog_8_method_19_code
def yX6_facesAt : MethodName := ⟨RX6, "facesAt", "(I)I"⟩
abbrev cX6_crossing : ByteArray := prog_8_method_20_code
def yX6_crossing : MethodName := ⟨RX6, "crossing", "(IIIII)I"⟩
abbrev cX6_take : ByteArray := prog_8_method_21_code
def yX6_take : MethodName := ⟨RX6, "take", "()V"⟩
abbrev cX6_back : ByteArray := prog_8_method_22_code
def yX6_back : MethodName := ⟨RX6, "back", "()V"⟩
abbrev cX6_badLabel : ByteArray := prog_8_method_23_code
def yX6_badLabel : MethodName := ⟨RX6, "badLabel", "(Z)I"⟩
abbrev cX6_badPiece : ByteArray := prog_8_method_24_code
def yX6_badPiece : MethodName := ⟨RX6, "badPiece", "()I"⟩
abbrev cX6_fault : ByteArray := prog_8_method_25_code
def yX6_fault : MethodName := ⟨RX6, "fault", "()I"⟩
abbrev cX6_check : ByteArray := prog_8_method_26_code
def yX6_check : MethodName := ⟨RX6, "check", "(I)I"⟩
abbrev cX6_which : ByteArray := prog_8_method_27_code
def yX6_which : MethodName := ⟨RX6, "which", "()I"⟩
abbrev cX6_signs : ByteArray := prog_8_method_28_code
def yX6_signs : MethodName := ⟨RX6, "signs", "()I"⟩
abbrev cX6_arcOf : ByteArray := prog_8_method_29_code
def yX6_arcOf : MethodName := ⟨RX6, "arcOf", "(I)I"⟩
abbrev cX6_arcs : ByteArray := prog_8_method_30_code
def yX6_arcs : MethodName := ⟨RX6, "arcs", "()I"⟩
abbrev cX6_seifertNext : ByteArray := prog_8_method_31_code
def yX6_seifertNext : MethodName := ⟨RX6, "seifertNext", "(I)I"⟩
abbrev cX6_seifert : ByteArray := prog_8_method_32_code
def yX6_seifert : MethodName := ⟨RX6, "seifert", "()I"⟩
abbrev cX6_isAlternating : ByteArray := prog_8_method_33_code
def yX6_isAlternating : MethodName := ⟨RX6, "isAlternating", "()Z"⟩
abbrev cX6_many : ByteArray := prog_8_method_34_code
def yX6_many : MethodName := ⟨RX6, "many", "(I)I"⟩
abbrev cX6_look : ByteArray := prog_8_method_35_code
def yX6_look : MethodName := ⟨RX6, "look", "(II)I"⟩
abbrev cX6_edge : ByteArray := prog_8_method_36_code
def yX6_edge : MethodName := ⟨RX6, "edge", "(II)I"⟩
abbrev cX6_faceAt : ByteArray := prog_8_method_37_code
def yX6_faceAt : MethodName := ⟨RX6, "faceAt", "(II)I"⟩
abbrev cX6_allFaces : ByteArray := prog_8_method_38_code
def yX6_allFaces : MethodName := ⟨RX6, "allFaces", "()I"⟩
abbrev cX6_allComponents : ByteArray := prog_8_method_39_code
def yX6_allComponents : MethodName := ⟨RX6, "allComponents", "()I"⟩
abbrev cX6_together : ByteArray := prog_8_method_40_code
def yX6_together : MethodName := ⟨RX6, "together", "(II)I"⟩
abbrev cX6_edgesOf : ByteArray := prog_8_method_41_code
def yX6_edgesOf : MethodName := ⟨RX6, "edgesOf", "(I)I"⟩
abbrev cX6_component : ByteArray := prog_8_method_42_code
def yX6_component : MethodName := ⟨RX6, "component", "(II)I"⟩
abbrev cX6_face : ByteArray := prog_8_method_43_code
def yX6_face : MethodName := ⟨RX6, "face", "(II)I"⟩
abbrev cX6_mirror : ByteArray := prog_8_method_44_code
def yX6_mirror : MethodName := ⟨RX6, "mirror", "()V"⟩
abbrev cX6_change : ByteArray := prog_8_method_45_code
def yX6_change : MethodName := ⟨RX6, "change", "(I)Z"⟩
abbrev cX6_reverse : ByteArray := prog_8_method_46_code
def yX6_reverse : MethodName := ⟨RX6, "reverse", "(I)Z"⟩
abbrev cX6_number : ByteArray := prog_8_method_47_code
def yX6_number : MethodName := ⟨RX6, "number", "()V"⟩
abbrev cX6_rename : ByteArray := prog_8_method_48_code
def yX6_rename : MethodName := ⟨RX6, "rename", "(II)V"⟩
abbrev cX6_join : ByteArray := prog_8_method_49_code
def yX6_join : MethodName := ⟨RX6, "join", "(II)V"⟩
abbrev cX6_smooth : ByteArray := prog_8_method_50_code
def yX6_smooth : MethodName := ⟨RX6, "smooth", "(I)Z"⟩
def RJ9 : String := "java/lang/Math"
def TJ9 : u_T := fun k => match k with
  | _ => ("", "", "", false)
def tyJ9 : Nat → FieldType := fun k => match k with
  | _ => .int
abbrev wsJ90 : List Cond := u_ws RJ9 TJ9 0
theorem nmJ9 : ∀ a, a < 0 → ∀ b, b < 0 → a ≠ b → (TJ9 a).2.1 ≠ (TJ9 b).2.1 := by decide +kernel
theorem tyJ9_ok : ∀ k, k < 0 → parseFieldDescriptor (TJ9 k).2.2.1 = some (tyJ9 k) := by decide +kernel
abbrev cJ9_max_7cf53 : ByteArray := prog_9_method_65_code
def yJ9_max_7cf53 : MethodName := ⟨RJ9, "max", "(II)I"⟩
abbrev cJ9_min_7cf53 : ByteArray := prog_9_method_69_code
def yJ9_min_7cf53 : MethodName := ⟨RJ9, "min", "(II)I"⟩
def RJ7 : String := "java/util/Arrays"
def TJ7 : u_T := fun k => match k with
  | _ => ("", "", "", false)
def tyJ7 : Nat → FieldType := fun k => match k with
  | _ => .int
abbrev wsJ70 : List Cond := u_ws RJ7 TJ7 0
theorem nmJ7 : ∀ a, a < 0 → ∀ b, b < 0 → a ≠ b → (TJ7 a).2.1 ≠ (TJ7 b).2.1 := by decide +kernel
theorem tyJ7_ok : ∀ k, k < 0 → parseFieldDescriptor (TJ7 k).2.2.1 = some (tyJ7 k) := by decide +kernel
abbrev cJ7_fill_53178 : ByteArray := prog_10_method_103_code
def yJ7_fill_53178 : MethodName := ⟨RJ7, "fill", "([II)V"⟩
def RL : String := "DiagramCodeLaw"
abbrev cL_law : ByteArray := code
def yL_law : MethodName := ⟨RL, "law", "([I)Z"⟩
def wsX4_init : List Cond := .code yX4_init cX4_init 1 none :: ([.methodLink RX4 3 objectInit, .instanceMethod objectInit, .code objectInit ⟨#[0xb1]⟩ 1 none, .arrayClass .int, .fieldLink RX4 9 "DiagramCode$Row" "signs" "[I", .fieldLink RX4 15 "DiagramCode$Row" "labels" "[I", .fieldLink RX4 18 "DiagramCode$Row" "crossings" "I"] ++ wsX40)
def wsX1_init : List Cond := .code yX1_init cX1_init 1 none :: ([.methodLink RX1 3 objectInit, .instanceMethod objectInit, .code objectInit ⟨#[0xb1]⟩ 1 none, .arrayClass .int, .fieldLink RX1 9 "DiagramCode$Edges" "labels" "[I", .fieldLink RX1 15 "DiagramCode$Edges" "times" "[I", .fieldLink RX1 18 "DiagramCode$Edges" "from" "[I", .fieldLink RX1 21 "DiagramCode$Edges" "to" "[I", .fieldLink RX1 24 "DiagramCode$Edges" "edgeAt" "[I", .fieldLink RX1 27 "DiagramCode$Edges" "count" "I"] ++ wsX10)
def wsX2_init : List Cond := .code yX2_init cX2_init 1 none :: ([.methodLink RX2 3 objectInit, .instanceMethod objectInit, .code objectInit ⟨#[0xb1]⟩ 1 none, .arrayClass .int, .fieldLink RX2 9 "DiagramCode$Groups" "least" "[I", .fieldLink RX2 15 "DiagramCode$Groups" "numberOf" "[I", .fieldLink RX2 18 "DiagramCode$Groups" "members" "I", .fieldLink RX2 22 "DiagramCode$Groups" "count" "I"] ++ wsX20)
def wsX3_init : List Cond := .code yX3_init cX3_init 1 none :: ([.methodLink RX3 3 objectInit, .instanceMethod objectInit, .code objectInit ⟨#[0xb1]⟩ 1 none, .arrayClass .int, .fieldLink RX3 9 "DiagramCode$Rounds" "next" "[I", .fieldLink RX3 15 "DiagramCode$Rounds" "roundOf" "[I", .fieldLink RX3 18 "DiagramCode$Rounds" "first" "[I", .fieldLink RX3 21 "DiagramCode$Rounds" "size" "[I", .fieldLink RX3 24 "DiagramCode$Rounds" "members" "I", .fieldLink RX3 28 "DiagramCode$Rounds" "count" "I"] ++ wsX30)
def wsX0_init_r1 : List Cond := [Cond.methodLink RX0 3 objectInit, Cond.instanceMethod objectInit, Cond.code objectInit ⟨#[0xb1]⟩ 1 none, Cond.classLink RX0 9 RX4, Cond.instantiable RX4 3, Cond.initialized RX4, Cond.fieldLink RX0 12 "DiagramCode$Chart" "row" "LDiagramCode$Row;", Cond.classLink RX0 18 RX1, Cond.instantiable RX1 6, Cond.initialized RX1, Cond.fieldLink RX0 21 "DiagramCode$Chart" "edges" "LDiagramCode$Edges;", Cond.classLink RX0 25 RX2, Cond.instantiable RX2 4, Cond.initialized RX2, Cond.fieldLink RX0 28 "DiagramCode$Chart" "pieces" "LDiagramCode$Groups;", Cond.fieldLink RX0 32 "DiagramCode$Chart" "arcs" "LDiagramCode$Groups;", Cond.classLink RX0 35 RX3, Cond.instantiable RX3 6, Cond.initialized RX3, Cond.fieldLink RX0 38 "DiagramCode$Chart" "components" "LDiagramCode$Rounds;", Cond.fieldLink RX0 42 "DiagramCode$Chart" "seifert" "LDiagramCode$Rounds;", Cond.fieldLink RX0 45 "DiagramCode$Chart" "faces" "LDiagramCode$Rounds;", Cond.arrayClass .int, Cond.fieldLink RX0 48 "DiagramCode$Chart" "newLabels" "[I"]
def wsX0_init_r2 : List Cond := [Cond.fieldLink RX0 52 "DiagramCode$Chart" "wrong" "I", Cond.instanceMethod yX4_init, Cond.code yX4_init cX4_init 1 none, Cond.methodLink RX4 3 objectInit, Cond.fieldLink RX4 9 "DiagramCode$Row" "signs" "[I", Cond.fieldLink RX4 15 "DiagramCode$Row" "labels" "[I", Cond.fieldLink RX4 18 "DiagramCode$Row" "crossings" "I", Cond.instanceMethod yX1_init, Cond.code yX1_init cX1_init 1 none, Cond.methodLink RX1 3 objectInit, Cond.fieldLink RX1 9 "DiagramCode$Edges" "labels" "[I", Cond.fieldLink RX1 15 "DiagramCode$Edges" "times" "[I", Cond.fieldLink RX1 18 "DiagramCode$Edges" "from" "[I", Cond.fieldLink RX1 21 "DiagramCode$Edges" "to" "[I", Cond.fieldLink RX1 24 "DiagramCode$Edges" "edgeAt" "[I", Cond.fieldLink RX1 27 "DiagramCode$Edges" "count" "I", Cond.instanceMethod yX2_init, Cond.code yX2_init cX2_init 1 none, Cond.methodLink RX2 3 objectInit, Cond.fieldLink RX2 9 "DiagramCode$Groups" "least" "[I", Cond.fieldLink RX2 15 "DiagramCode$Groups" "numberOf" "[I", Cond.fieldLink RX2 18 "DiagramCode$Groups" "members" "I", Cond.fieldLink RX2 22 "DiagramCode$Groups" "count" "I", Cond.instanceMethod yX3_init]
def wsX0_init_r3 : List Cond := [Cond.code yX3_init cX3_init 1 none, Cond.methodLink RX3 3 objectInit, Cond.fieldLink RX3 9 "DiagramCode$Rounds" "next" "[I", Cond.fieldLink RX3 15 "DiagramCode$Rounds" "roundOf" "[I", Cond.fieldLink RX3 18 "DiagramCode$Rounds" "first" "[I", Cond.fieldLink RX3 21 "DiagramCode$Rounds" "size" "[I", Cond.fieldLink RX3 24 "DiagramCode$Rounds" "members" "I", Cond.fieldLink RX3 28 "DiagramCode$Rounds" "count" "I"]
def wsX0_init : List Cond := .code yX0_init cX0_init 1 none :: ((wsX0_init_r1 ++ (wsX0_init_r2 ++ wsX0_init_r3)) ++ wsX40 ++ wsX00 ++ wsX10 ++ wsX20 ++ wsX30)
def wsX0_wrong : List Cond := .code yX0_wrong cX0_wrong 1 (some .int) :: ([.fieldLink RX0 52 "DiagramCode$Chart" "wrong" "I"] ++ wsX00)
def wsX4_spots : List Cond := .code yX4_spots cX4_spots 1 (some .int) :: ([.fieldLink RX4 18 "DiagramCode$Row" "crossings" "I"] ++ wsX40)
def wsX4_label : List Cond := .code yX4_label cX4_label 2 (some .int) :: ([.fieldLink RX4 15 "DiagramCode$Row" "labels" "[I", .methodLink RX4 26 yX4_spots, .instanceMethod yX4_spots, .selects RX4 yX4_spots yX4_spots, .initialized RX4, .code yX4_spots cX4_spots 1 (some .int), .fieldLink RX4 18 "DiagramCode$Row" "crossings" "I"] ++ wsX40)
def wsX1_countLess : List Cond := .code yX1_countLess cX1_countLess 3 (some .int) :: ([.fieldLink RX1 27 "DiagramCode$Edges" "count" "I", .fieldLink RX1 9 "DiagramCode$Edges" "labels" "[I"] ++ wsX10)
def wsX1_has : List Cond := .code yX1_has cX1_has 2 (some .boolean) :: ([.fieldLink RX1 27 "DiagramCode$Edges" "count" "I"] ++ wsX10)
def wsX1_countLabel : List Cond := .code yX1_countLabel cX1_countLabel 4 none :: ([.fieldLink RX1 9 "DiagramCode$Edges" "labels" "[I", .fieldLink RX1 15 "DiagramCode$Edges" "times" "[I", .fieldLink RX1 27 "DiagramCode$Edges" "count" "I", .methodLink RX1 54 yX1_countLess, .instanceMethod yX1_countLess, .selects RX1 yX1_countLess yX1_countLess, .initialized RX1, .code yX1_countLess cX1_countLess 3 (some .int), .methodLink RX1 31 yX1_has, .instanceMethod yX1_has, .selects RX1 yX1_has yX1_has, .code yX1_has cX1_has 2 (some .boolean)] ++ wsX10)
def wsX1_gatherLabels_r1 : List Cond := [Cond.fieldLink RX1 27 "DiagramCode$Edges" "count" "I", Cond.fieldLink RX1 15 "DiagramCode$Edges" "times" "[I", Cond.fieldLink RX1 9 "DiagramCode$Edges" "labels" "[I", Cond.methodLink RX1 41 yX4_spots, Cond.instanceMethod yX4_spots, Cond.selects RX4 yX4_spots yX4_spots, Cond.initialized RX4, Cond.code yX4_spots cX4_spots 1 (some .int), Cond.fieldLink RX4 18 "DiagramCode$Row" "crossings" "I", Cond.methodLink RX1 47 yX4_label, Cond.instanceMethod yX4_label, Cond.selects RX4 yX4_label yX4_label, Cond.code yX4_label cX4_label 2 (some .int), Cond.fieldLink RX4 15 "DiagramCode$Row" "labels" "[I", Cond.methodLink RX4 26 yX4_spots, Cond.methodLink RX1 50 yX1_countLabel, Cond.instanceMethod yX1_countLabel, Cond.selects RX1 yX1_countLabel yX1_countLabel, Cond.initialized RX1, Cond.code yX1_countLabel cX1_countLabel 4 none, Cond.methodLink RX1 54 yX1_countLess, Cond.instanceMethod yX1_countLess, Cond.selects RX1 yX1_countLess yX1_countLess, Cond.code yX1_countLess cX1_countLess 3 (some .int)]
def wsX1_gatherLabels_r2 : List Cond := [Cond.methodLink RX1 31 yX1_has, Cond.instanceMethod yX1_has, Cond.selects RX1 yX1_has yX1_has, Cond.code yX1_has cX1_has 2 (some .boolean)]
def wsX1_gatherLabels : List Cond := .code yX1_gatherLabels cX1_gatherLabels 3 (some .int) :: ((wsX1_gatherLabels_r1 ++ wsX1_gatherLabels_r2) ++ wsX10 ++ wsX40)
def wsJ7_fill_53178 : List Cond := .code yJ7_fill_53178 cJ7_fill_53178 4 none :: ([])
def wsX1_rank : List Cond := .code yX1_rank cX1_rank 3 (some .int) :: ([.fieldLink RX1 9 "DiagramCode$Edges" "labels" "[I", .methodLink RX1 54 yX1_countLess, .instanceMethod yX1_countLess, .selects RX1 yX1_countLess yX1_countLess, .initialized RX1, .code yX1_countLess cX1_countLess 3 (some .int), .fieldLink RX1 27 "DiagramCode$Edges" "count" "I", .methodLink RX1 31 yX1_has, .instanceMethod yX1_has, .selects RX1 yX1_has yX1_has, .code yX1_has cX1_has 2 (some .boolean)] ++ wsX10)
def wsX4_lowerOut : List Cond := .code yX4_lowerOut cX4_lowerOut 1 (some .int) :: ([])
def wsX4_has : List Cond := .code yX4_has cX4_has 2 (some .boolean) :: ([.fieldLink RX4 18 "DiagramCode$Row" "crossings" "I"] ++ wsX40)
def wsX4_sign : List Cond := .code yX4_sign cX4_sign 2 (some .int) :: ([.fieldLink RX4 9 "DiagramCode$Row" "signs" "[I", .methodLink RX4 22 yX4_has, .instanceMethod yX4_has, .selects RX4 yX4_has yX4_has, .initialized RX4, .code yX4_has cX4_has 2 (some .boolean), .fieldLink RX4 18 "DiagramCode$Row" "crossings" "I"] ++ wsX40)
def wsX4_upperOut : List Cond := .code yX4_upperOut cX4_upperOut 2 (some .int) :: ([.methodLink RX4 30 yX4_sign, .instanceMethod yX4_sign, .selects RX4 yX4_sign yX4_sign, .initialized RX4, .code yX4_sign cX4_sign 2 (some .int), .fieldLink RX4 9 "DiagramCode$Row" "signs" "[I", .methodLink RX4 22 yX4_has, .instanceMethod yX4_has, .selects RX4 yX4_has yX4_has, .code yX4_has cX4_has 2 (some .boolean), .fieldLink RX4 18 "DiagramCode$Row" "crossings" "I"] ++ wsX40)
def wsX4_goesOut : List Cond := .code yX4_goesOut cX4_goesOut 3 (some .boolean) :: ([.methodLink RX4 34 yX4_lowerOut, .static yX4_lowerOut, .initialized RX4, .code yX4_lowerOut cX4_lowerOut 1 (some .int), .methodLink RX4 37 yX4_upperOut, .instanceMethod yX4_upperOut, .selects RX4 yX4_upperOut yX4_upperOut, .code yX4_upperOut cX4_upperOut 2 (some .int), .methodLink RX4 30 yX4_sign, .instanceMethod yX4_sign, .selects RX4 yX4_sign yX4_sign, .code yX4_sign cX4_sign 2 (some .int), .fieldLink RX4 9 "DiagramCode$Row" "signs" "[I", .methodLink RX4 22 yX4_has, .instanceMethod yX4_has, .selects RX4 yX4_has yX4_has, .code yX4_has cX4_has 2 (some .boolean), .fieldLink RX4 18 "DiagramCode$Row" "crossings" "I"] ++ wsX40)
def wsX1_noteEnd : List Cond := .code yX1_noteEnd cX1_noteEnd 4 none :: ([.fieldLink RX1 24 "DiagramCode$Edges" "edgeAt" "[I", .fieldLink RX1 18 "DiagramCode$Edges" "from" "[I", .fieldLink RX1 21 "DiagramCode$Edges" "to" "[I", .methodLink RX1 31 yX1_has, .instanceMethod yX1_has, .selects RX1 yX1_has yX1_has, .initialized RX1, .code yX1_has cX1_has 2 (some .boolean), .fieldLink RX1 27 "DiagramCode$Edges" "count" "I"] ++ wsX10)
def wsX1_findEnds_r1 : List Cond := [Cond.fieldLink RX1 18 "DiagramCode$Edges" "from" "[I", Cond.fieldLink RX1 21 "DiagramCode$Edges" "to" "[I", Cond.fieldLink RX1 27 "DiagramCode$Edges" "count" "I", Cond.fieldLink RX1 9 "DiagramCode$Edges" "labels" "[I", Cond.methodLink RX1 57 yJ7_fill_53178, Cond.static yJ7_fill_53178, Cond.initialized RJ7, Cond.code yJ7_fill_53178 cJ7_fill_53178 4 none, Cond.methodLink RX1 41 yX4_spots, Cond.instanceMethod yX4_spots, Cond.selects RX4 yX4_spots yX4_spots, Cond.initialized RX4, Cond.code yX4_spots cX4_spots 1 (some .int), Cond.fieldLink RX4 18 "DiagramCode$Row" "crossings" "I", Cond.methodLink RX1 47 yX4_label, Cond.instanceMethod yX4_label, Cond.selects RX4 yX4_label yX4_label, Cond.code yX4_label cX4_label 2 (some .int), Cond.fieldLink RX4 15 "DiagramCode$Row" "labels" "[I", Cond.methodLink RX4 26 yX4_spots, Cond.methodLink RX1 63 yX1_rank, Cond.instanceMethod yX1_rank, Cond.selects RX1 yX1_rank yX1_rank, Cond.initialized RX1]
def wsX1_findEnds_r2 : List Cond := [Cond.code yX1_rank cX1_rank 3 (some .int), Cond.methodLink RX1 54 yX1_countLess, Cond.instanceMethod yX1_countLess, Cond.selects RX1 yX1_countLess yX1_countLess, Cond.code yX1_countLess cX1_countLess 3 (some .int), Cond.methodLink RX1 31 yX1_has, Cond.instanceMethod yX1_has, Cond.selects RX1 yX1_has yX1_has, Cond.code yX1_has cX1_has 2 (some .boolean), Cond.methodLink RX1 66 yX4_goesOut, Cond.instanceMethod yX4_goesOut, Cond.selects RX4 yX4_goesOut yX4_goesOut, Cond.code yX4_goesOut cX4_goesOut 3 (some .boolean), Cond.methodLink RX4 34 yX4_lowerOut, Cond.static yX4_lowerOut, Cond.code yX4_lowerOut cX4_lowerOut 1 (some .int), Cond.methodLink RX4 37 yX4_upperOut, Cond.instanceMethod yX4_upperOut, Cond.selects RX4 yX4_upperOut yX4_upperOut, Cond.code yX4_upperOut cX4_upperOut 2 (some .int), Cond.methodLink RX4 30 yX4_sign, Cond.instanceMethod yX4_sign, Cond.selects RX4 yX4_sign yX4_sign, Cond.code yX4_sign cX4_sign 2 (some .int)]
def wsX1_findEnds_r3 : List Cond := [Cond.fieldLink RX4 9 "DiagramCode$Row" "signs" "[I", Cond.methodLink RX4 22 yX4_has, Cond.instanceMethod yX4_has, Cond.selects RX4 yX4_has yX4_has, Cond.code yX4_has cX4_has 2 (some .boolean), Cond.methodLink RX1 69 yX1_noteEnd, Cond.instanceMethod yX1_noteEnd, Cond.selects RX1 yX1_noteEnd yX1_noteEnd, Cond.code yX1_noteEnd cX1_noteEnd 4 none, Cond.fieldLink RX1 24 "DiagramCode$Edges" "edgeAt" "[I"]
def wsX1_findEnds : List Cond := .code yX1_findEnds cX1_findEnds 3 (some .int) :: ((wsX1_findEnds_r1 ++ (wsX1_findEnds_r2 ++ wsX1_findEnds_r3)) ++ wsX10 ++ wsX40)
def wsX4_crossings : List Cond := .code yX4_crossings cX4_crossings 1 (some .int) :: ([.fieldLink RX4 18 "DiagramCode$Row" "crossings" "I"] ++ wsX40)
def wsX2_begin : List Cond := .code yX2_begin cX2_begin 3 none :: ([.methodLink RX2 29 Lib.Math.min.name, .static Lib.Math.min.name, .initialized "java/lang/Math", .code Lib.Math.min.name Lib.Math.min.code 2 (some .int), .fieldLink RX2 18 "DiagramCode$Groups" "members" "I", .fieldLink RX2 9 "DiagramCode$Groups" "least" "[I"] ++ wsX20)
def wsX1_count : List Cond := .code yX1_count cX1_count 1 (some .int) :: ([.fieldLink RX1 27 "DiagramCode$Edges" "count" "I"] ++ wsX10)
def wsX1_from : List Cond := .code yX1_from cX1_from 2 (some .int) :: ([.fieldLink RX1 18 "DiagramCode$Edges" "from" "[I", .methodLink RX1 31 yX1_has, .instanceMethod yX1_has, .selects RX1 yX1_has yX1_has, .initialized RX1, .code yX1_has cX1_has 2 (some .boolean), .fieldLink RX1 27 "DiagramCode$Edges" "count" "I"] ++ wsX10)
def wsX1_to : List Cond := .code yX1_to cX1_to 2 (some .int) :: ([.fieldLink RX1 21 "DiagramCode$Edges" "to" "[I", .methodLink RX1 31 yX1_has, .instanceMethod yX1_has, .selects RX1 yX1_has yX1_has, .initialized RX1, .code yX1_has cX1_has 2 (some .boolean), .fieldLink RX1 27 "DiagramCode$Edges" "count" "I"] ++ wsX10)
def wsX2_hasMember : List Cond := .code yX2_hasMember cX2_hasMember 2 (some .boolean) :: ([.fieldLink RX2 18 "DiagramCode$Groups" "members" "I"] ++ wsX20)
def wsX2_least : List Cond := .code yX2_least cX2_least 2 (some .int) :: ([.fieldLink RX2 9 "DiagramCode$Groups" "least" "[I", .methodLink RX2 25 yX2_hasMember, .instanceMethod yX2_hasMember, .selects RX2 yX2_hasMember yX2_hasMember, .initialized RX2, .code yX2_hasMember cX2_hasMember 2 (some .boolean), .fieldLink RX2 18 "DiagramCode$Groups" "members" "I"] ++ wsX20)
def wsX2_join : List Cond := .code yX2_join cX2_join 6 none :: ([.methodLink RX2 29 Lib.Math.min.name, .static Lib.Math.min.name, .initialized "java/lang/Math", .code Lib.Math.min.name Lib.Math.min.code 2 (some .int), .methodLink RX2 38 Lib.Math.max.name, .static Lib.Math.max.name, .code Lib.Math.max.name Lib.Math.max.code 2 (some .int), .fieldLink RX2 18 "DiagramCode$Groups" "members" "I", .fieldLink RX2 9 "DiagramCode$Groups" "least" "[I", .methodLink RX2 35 yX2_least, .instanceMethod yX2_least, .selects RX2 yX2_least yX2_least, .initialized RX2, .code yX2_least cX2_least 2 (some .int), .methodLink RX2 25 yX2_hasMember, .instanceMethod yX2_hasMember, .selects RX2 yX2_hasMember yX2_hasMember, .code yX2_hasMember cX2_hasMember 2 (some .boolean)] ++ wsX20)
def wsX2_numberOf : List Cond := .code yX2_numberOf cX2_numberOf 2 (some .int) :: ([.fieldLink RX2 15 "DiagramCode$Groups" "numberOf" "[I", .methodLink RX2 25 yX2_hasMember, .instanceMethod yX2_hasMember, .selects RX2 yX2_hasMember yX2_hasMember, .initialized RX2, .code yX2_hasMember cX2_hasMember 2 (some .boolean), .fieldLink RX2 18 "DiagramCode$Groups" "members" "I"] ++ wsX20)
def wsX2_numberGroups : List Cond := .code yX2_numberGroups cX2_numberGroups 2 none :: ([.fieldLink RX2 22 "DiagramCode$Groups" "count" "I", .fieldLink RX2 18 "DiagramCode$Groups" "members" "I", .fieldLink RX2 9 "DiagramCode$Groups" "least" "[I", .fieldLink RX2 15 "DiagramCode$Groups" "numberOf" "[I", .methodLink RX2 41 yX2_numberOf, .instanceMethod yX2_numberOf, .selects RX2 yX2_numberOf yX2_numberOf, .initialized RX2, .code yX2_numberOf cX2_numberOf 2 (some .int), .methodLink RX2 25 yX2_hasMember, .instanceMethod yX2_hasMember, .selects RX2 yX2_hasMember yX2_hasMember, .code yX2_hasMember cX2_hasMember 2 (some .boolean)] ++ wsX20)
def wsX0_groupPieces_r1 : List Cond := [Cond.fieldLink RX0 28 "DiagramCode$Chart" "pieces" "LDiagramCode$Groups;", Cond.fieldLink RX0 12 "DiagramCode$Chart" "row" "LDiagramCode$Row;", Cond.fieldLink RX0 21 "DiagramCode$Chart" "edges" "LDiagramCode$Edges;", Cond.methodLink RX0 79 yX4_crossings, Cond.instanceMethod yX4_crossings, Cond.selects RX4 yX4_crossings yX4_crossings, Cond.initialized RX4, Cond.code yX4_crossings cX4_crossings 1 (some .int), Cond.fieldLink RX4 18 "DiagramCode$Row" "crossings" "I", Cond.methodLink RX0 82 yX2_begin, Cond.instanceMethod yX2_begin, Cond.selects RX2 yX2_begin yX2_begin, Cond.initialized RX2, Cond.code yX2_begin cX2_begin 3 none, Cond.methodLink RX2 29 Lib.Math.min.name, Cond.static Lib.Math.min.name, Cond.initialized "java/lang/Math", Cond.code Lib.Math.min.name Lib.Math.min.code 2 (some .int), Cond.fieldLink RX2 18 "DiagramCode$Groups" "members" "I", Cond.fieldLink RX2 9 "DiagramCode$Groups" "least" "[I", Cond.methodLink RX0 86 yX1_count, Cond.instanceMethod yX1_count, Cond.selects RX1 yX1_count yX1_count, Cond.initialized RX1]
def wsX0_groupPieces_r2 : List Cond := [Cond.code yX1_count cX1_count 1 (some .int), Cond.fieldLink RX1 27 "DiagramCode$Edges" "count" "I", Cond.methodLink RX0 89 yX1_from, Cond.instanceMethod yX1_from, Cond.selects RX1 yX1_from yX1_from, Cond.code yX1_from cX1_from 2 (some .int), Cond.fieldLink RX1 18 "DiagramCode$Edges" "from" "[I", Cond.methodLink RX1 31 yX1_has, Cond.instanceMethod yX1_has, Cond.selects RX1 yX1_has yX1_has, Cond.code yX1_has cX1_has 2 (some .boolean), Cond.methodLink RX0 93 yX1_to, Cond.instanceMethod yX1_to, Cond.selects RX1 yX1_to yX1_to, Cond.code yX1_to cX1_to 2 (some .int), Cond.fieldLink RX1 21 "DiagramCode$Edges" "to" "[I", Cond.methodLink RX0 96 yX2_join, Cond.instanceMethod yX2_join, Cond.selects RX2 yX2_join yX2_join, Cond.code yX2_join cX2_join 6 none, Cond.methodLink RX2 38 Lib.Math.max.name, Cond.static Lib.Math.max.name, Cond.code Lib.Math.max.name Lib.Math.max.code 2 (some .int), Cond.methodLink RX2 35 yX2_least]
def wsX0_groupPieces_r3 : List Cond := [Cond.instanceMethod yX2_least, Cond.selects RX2 yX2_least yX2_least, Cond.code yX2_least cX2_least 2 (some .int), Cond.methodLink RX2 25 yX2_hasMember, Cond.instanceMethod yX2_hasMember, Cond.selects RX2 yX2_hasMember yX2_hasMember, Cond.code yX2_hasMember cX2_hasMember 2 (some .boolean), Cond.methodLink RX0 100 yX2_numberGroups, Cond.instanceMethod yX2_numberGroups, Cond.selects RX2 yX2_numberGroups yX2_numberGroups, Cond.code yX2_numberGroups cX2_numberGroups 2 none, Cond.fieldLink RX2 22 "DiagramCode$Groups" "count" "I", Cond.fieldLink RX2 15 "DiagramCode$Groups" "numberOf" "[I", Cond.methodLink RX2 41 yX2_numberOf, Cond.instanceMethod yX2_numberOf, Cond.selects RX2 yX2_numberOf yX2_numberOf, Cond.code yX2_numberOf cX2_numberOf 2 (some .int)]
def wsX0_groupPieces : List Cond := .code yX0_groupPieces cX0_groupPieces 2 none :: ((wsX0_groupPieces_r1 ++ (wsX0_groupPieces_r2 ++ wsX0_groupPieces_r3)) ++ wsX00 ++ wsX40 ++ wsX20 ++ wsX10)
def wsX3_begin : List Cond := .code yX3_begin cX3_begin 2 none :: ([.methodLink RX3 43 Lib.Math.min.name, .static Lib.Math.min.name, .initialized "java/lang/Math", .code Lib.Math.min.name Lib.Math.min.code 2 (some .int), .fieldLink RX3 24 "DiagramCode$Rounds" "members" "I", .fieldLink RX3 28 "DiagramCode$Rounds" "count" "I"] ++ wsX30)
def wsX4_beside : List Cond := .code yX4_beside cX4_beside 1 (some .int) :: ([])
def wsX1_at : List Cond := .code yX1_at cX1_at 2 (some .int) :: ([.fieldLink RX1 24 "DiagramCode$Edges" "edgeAt" "[I"] ++ wsX10)
def wsX1_dartFrom : List Cond := .code yX1_dartFrom cX1_dartFrom 3 (some .int) :: ([.methodLink RX1 35 yX1_at, .instanceMethod yX1_at, .selects RX1 yX1_at yX1_at, .initialized RX1, .code yX1_at cX1_at 2 (some .int), .fieldLink RX1 24 "DiagramCode$Edges" "edgeAt" "[I", .methodLink RX1 39 yX1_from, .instanceMethod yX1_from, .selects RX1 yX1_from yX1_from, .code yX1_from cX1_from 2 (some .int), .fieldLink RX1 18 "DiagramCode$Edges" "from" "[I", .methodLink RX1 31 yX1_has, .instanceMethod yX1_has, .selects RX1 yX1_has yX1_has, .code yX1_has cX1_has 2 (some .boolean), .fieldLink RX1 27 "DiagramCode$Edges" "count" "I"] ++ wsX10)
def wsX3_hasMember : List Cond := .code yX3_hasMember cX3_hasMember 2 (some .boolean) :: ([.fieldLink RX3 24 "DiagramCode$Rounds" "members" "I"] ++ wsX30)
def wsX3_link : List Cond := .code yX3_link cX3_link 3 none :: ([.fieldLink RX3 9 "DiagramCode$Rounds" "next" "[I", .methodLink RX3 31 yX3_hasMember, .instanceMethod yX3_hasMember, .selects RX3 yX3_hasMember yX3_hasMember, .initialized RX3, .code yX3_hasMember cX3_hasMember 2 (some .boolean), .fieldLink RX3 24 "DiagramCode$Rounds" "members" "I"] ++ wsX30)
def wsX3_walk : List Cond := .code yX3_walk cX3_walk 4 none :: ([.fieldLink RX3 28 "DiagramCode$Rounds" "count" "I", .fieldLink RX3 24 "DiagramCode$Rounds" "members" "I", .fieldLink RX3 15 "DiagramCode$Rounds" "roundOf" "[I", .fieldLink RX3 9 "DiagramCode$Rounds" "next" "[I", .fieldLink RX3 18 "DiagramCode$Rounds" "first" "[I", .fieldLink RX3 21 "DiagramCode$Rounds" "size" "[I", .methodLink RX3 31 yX3_hasMember, .instanceMethod yX3_hasMember, .selects RX3 yX3_hasMember yX3_hasMember, .initialized RX3, .code yX3_hasMember cX3_hasMember 2 (some .boolean)] ++ wsX30)
def wsX3_trace : List Cond := .code yX3_trace cX3_trace 2 none :: ([.fieldLink RX3 15 "DiagramCode$Rounds" "roundOf" "[I", .fieldLink RX3 24 "DiagramCode$Rounds" "members" "I", .methodLink RX3 49 yJ7_fill_53178, .static yJ7_fill_53178, .initialized RJ7, .code yJ7_fill_53178 cJ7_fill_53178 4 none, .methodLink RX3 55 yX3_walk, .instanceMethod yX3_walk, .selects RX3 yX3_walk yX3_walk, .initialized RX3, .code yX3_walk cX3_walk 4 none, .fieldLink RX3 28 "DiagramCode$Rounds" "count" "I", .fieldLink RX3 9 "DiagramCode$Rounds" "next" "[I", .fieldLink RX3 18 "DiagramCode$Rounds" "first" "[I", .fieldLink RX3 21 "DiagramCode$Rounds" "size" "[I", .methodLink RX3 31 yX3_hasMember, .instanceMethod yX3_hasMember, .selects RX3 yX3_hasMember yX3_hasMember, .code yX3_hasMember cX3_hasMember 2 (some .boolean)] ++ wsX30)
def wsX0_traceFaces_r1 : List Cond := [Cond.fieldLink RX0 45 "DiagramCode$Chart" "faces" "LDiagramCode$Rounds;", Cond.fieldLink RX0 21 "DiagramCode$Chart" "edges" "LDiagramCode$Edges;", Cond.methodLink RX0 86 yX1_count, Cond.instanceMethod yX1_count, Cond.selects RX1 yX1_count yX1_count, Cond.initialized RX1, Cond.code yX1_count cX1_count 1 (some .int), Cond.fieldLink RX1 27 "DiagramCode$Edges" "count" "I", Cond.methodLink RX0 103 yX3_begin, Cond.instanceMethod yX3_begin, Cond.selects RX3 yX3_begin yX3_begin, Cond.initialized RX3, Cond.code yX3_begin cX3_begin 2 none, Cond.methodLink RX3 43 Lib.Math.min.name, Cond.static Lib.Math.min.name, Cond.initialized "java/lang/Math", Cond.code Lib.Math.min.name Lib.Math.min.code 2 (some .int), Cond.fieldLink RX3 24 "DiagramCode$Rounds" "members" "I", Cond.fieldLink RX3 28 "DiagramCode$Rounds" "count" "I", Cond.methodLink RX0 93 yX1_to, Cond.instanceMethod yX1_to, Cond.selects RX1 yX1_to yX1_to, Cond.code yX1_to cX1_to 2 (some .int), Cond.fieldLink RX1 21 "DiagramCode$Edges" "to" "[I"]
def wsX0_traceFaces_r2 : List Cond := [Cond.methodLink RX1 31 yX1_has, Cond.instanceMethod yX1_has, Cond.selects RX1 yX1_has yX1_has, Cond.code yX1_has cX1_has 2 (some .boolean), Cond.methodLink RX0 104 yX4_beside, Cond.static yX4_beside, Cond.initialized RX4, Cond.code yX4_beside cX4_beside 1 (some .int), Cond.methodLink RX0 107 yX1_dartFrom, Cond.instanceMethod yX1_dartFrom, Cond.selects RX1 yX1_dartFrom yX1_dartFrom, Cond.code yX1_dartFrom cX1_dartFrom 3 (some .int), Cond.methodLink RX1 35 yX1_at, Cond.instanceMethod yX1_at, Cond.selects RX1 yX1_at yX1_at, Cond.code yX1_at cX1_at 2 (some .int), Cond.fieldLink RX1 24 "DiagramCode$Edges" "edgeAt" "[I", Cond.methodLink RX1 39 yX1_from, Cond.instanceMethod yX1_from, Cond.selects RX1 yX1_from yX1_from, Cond.code yX1_from cX1_from 2 (some .int), Cond.fieldLink RX1 18 "DiagramCode$Edges" "from" "[I", Cond.methodLink RX0 110 yX3_link, Cond.instanceMethod yX3_link]
def wsX0_traceFaces_r3 : List Cond := [Cond.selects RX3 yX3_link yX3_link, Cond.code yX3_link cX3_link 3 none, Cond.fieldLink RX3 9 "DiagramCode$Rounds" "next" "[I", Cond.methodLink RX3 31 yX3_hasMember, Cond.instanceMethod yX3_hasMember, Cond.selects RX3 yX3_hasMember yX3_hasMember, Cond.code yX3_hasMember cX3_hasMember 2 (some .boolean), Cond.methodLink RX0 89 yX1_from, Cond.methodLink RX0 113 yX3_trace, Cond.instanceMethod yX3_trace, Cond.selects RX3 yX3_trace yX3_trace, Cond.code yX3_trace cX3_trace 2 none, Cond.fieldLink RX3 15 "DiagramCode$Rounds" "roundOf" "[I", Cond.methodLink RX3 49 yJ7_fill_53178, Cond.static yJ7_fill_53178, Cond.initialized RJ7, Cond.code yJ7_fill_53178 cJ7_fill_53178 4 none, Cond.methodLink RX3 55 yX3_walk, Cond.instanceMethod yX3_walk, Cond.selects RX3 yX3_walk yX3_walk, Cond.code yX3_walk cX3_walk 4 none, Cond.fieldLink RX3 18 "DiagramCode$Rounds" "first" "[I", Cond.fieldLink RX3 21 "DiagramCode$Rounds" "size" "[I"]
def wsX0_traceFaces : List Cond := .code yX0_traceFaces cX0_traceFaces 2 none :: ((wsX0_traceFaces_r1 ++ (wsX0_traceFaces_r2 ++ wsX0_traceFaces_r3)) ++ wsX00 ++ wsX10 ++ wsX30)
def wsX3_count : List Cond := .code yX3_count cX3_count 1 (some .int) :: ([.fieldLink RX3 28 "DiagramCode$Rounds" "count" "I"] ++ wsX30)
def wsX3_hasRound : List Cond := .code yX3_hasRound cX3_hasRound 2 (some .boolean) :: ([.fieldLink RX3 28 "DiagramCode$Rounds" "count" "I"] ++ wsX30)
def wsX3_first : List Cond := .code yX3_first cX3_first 2 (some .int) :: ([.fieldLink RX3 18 "DiagramCode$Rounds" "first" "[I", .methodLink RX3 35 yX3_hasRound, .instanceMethod yX3_hasRound, .selects RX3 yX3_hasRound yX3_hasRound, .initialized RX3, .code yX3_hasRound cX3_hasRound 2 (some .boolean), .fieldLink RX3 28 "DiagramCode$Rounds" "count" "I"] ++ wsX30)
def wsX0_pieceOfEdge : List Cond := .code yX0_pieceOfEdge cX0_pieceOfEdge 2 (some .int) :: ([.fieldLink RX0 28 "DiagramCode$Chart" "pieces" "LDiagramCode$Groups;", .fieldLink RX0 21 "DiagramCode$Chart" "edges" "LDiagramCode$Edges;", .methodLink RX0 93 yX1_to, .instanceMethod yX1_to, .selects RX1 yX1_to yX1_to, .initialized RX1, .code yX1_to cX1_to 2 (some .int), .fieldLink RX1 21 "DiagramCode$Edges" "to" "[I", .methodLink RX1 31 yX1_has, .instanceMethod yX1_has, .selects RX1 yX1_has yX1_has, .code yX1_has cX1_has 2 (some .boolean), .fieldLink RX1 27 "DiagramCode$Edges" "count" "I", .methodLink RX0 119 yX2_numberOf, .instanceMethod yX2_numberOf, .selects RX2 yX2_numberOf yX2_numberOf, .initialized RX2, .code yX2_numberOf cX2_numberOf 2 (some .int), .fieldLink RX2 15 "DiagramCode$Groups" "numberOf" "[I", .methodLink RX2 25 yX2_hasMember, .instanceMethod yX2_hasMember, .selects RX2 yX2_hasMember yX2_hasMember, .code yX2_hasMember cX2_hasMember 2 (some .boolean), .fieldLink RX2 18 "DiagramCode$Groups" "members" "I"] ++ wsX00 ++ wsX10 ++ wsX20)
def wsX0_facesLessCrossings_r1 : List Cond := [Cond.fieldLink RX0 45 "DiagramCode$Chart" "faces" "LDiagramCode$Rounds;", Cond.fieldLink RX0 12 "DiagramCode$Chart" "row" "LDiagramCode$Row;", Cond.fieldLink RX0 28 "DiagramCode$Chart" "pieces" "LDiagramCode$Groups;", Cond.methodLink RX0 125 yX3_count, Cond.instanceMethod yX3_count, Cond.selects RX3 yX3_count yX3_count, Cond.initialized RX3, Cond.code yX3_count cX3_count 1 (some .int), Cond.fieldLink RX3 28 "DiagramCode$Rounds" "count" "I", Cond.methodLink RX0 126 yX3_first, Cond.instanceMethod yX3_first, Cond.selects RX3 yX3_first yX3_first, Cond.code yX3_first cX3_first 2 (some .int), Cond.fieldLink RX3 18 "DiagramCode$Rounds" "first" "[I", Cond.methodLink RX3 35 yX3_hasRound, Cond.instanceMethod yX3_hasRound, Cond.selects RX3 yX3_hasRound yX3_hasRound, Cond.code yX3_hasRound cX3_hasRound 2 (some .boolean), Cond.methodLink RX0 129 yX0_pieceOfEdge, Cond.instanceMethod yX0_pieceOfEdge, Cond.selects RX0 yX0_pieceOfEdge yX0_pieceOfEdge, Cond.initialized RX0, Cond.code yX0_pieceOfEdge cX0_pieceOfEdge 2 (some .int), Cond.fieldLink RX0 21 "DiagramCode$Chart" "edges" "LDiagramCode$Edges;"]
def wsX0_facesLessCrossings_r2 : List Cond := [Cond.methodLink RX0 93 yX1_to, Cond.instanceMethod yX1_to, Cond.selects RX1 yX1_to yX1_to, Cond.initialized RX1, Cond.code yX1_to cX1_to 2 (some .int), Cond.fieldLink RX1 21 "DiagramCode$Edges" "to" "[I", Cond.methodLink RX1 31 yX1_has, Cond.instanceMethod yX1_has, Cond.selects RX1 yX1_has yX1_has, Cond.code yX1_has cX1_has 2 (some .boolean), Cond.fieldLink RX1 27 "DiagramCode$Edges" "count" "I", Cond.methodLink RX0 119 yX2_numberOf, Cond.instanceMethod yX2_numberOf, Cond.selects RX2 yX2_numberOf yX2_numberOf, Cond.initialized RX2, Cond.code yX2_numberOf cX2_numberOf 2 (some .int), Cond.fieldLink RX2 15 "DiagramCode$Groups" "numberOf" "[I", Cond.methodLink RX2 25 yX2_hasMember, Cond.instanceMethod yX2_hasMember, Cond.selects RX2 yX2_hasMember yX2_hasMember, Cond.code yX2_hasMember cX2_hasMember 2 (some .boolean), Cond.fieldLink RX2 18 "DiagramCode$Groups" "members" "I", Cond.methodLink RX0 79 yX4_crossings, Cond.instanceMethod yX4_crossings]
def wsX0_facesLessCrossings_r3 : List Cond := [Cond.selects RX4 yX4_crossings yX4_crossings, Cond.initialized RX4, Cond.code yX4_crossings cX4_crossings 1 (some .int), Cond.fieldLink RX4 18 "DiagramCode$Row" "crossings" "I"]
def wsX0_facesLessCrossings : List Cond := .code yX0_facesLessCrossings cX0_facesLessCrossings 4 (some .int) :: ((wsX0_facesLessCrossings_r1 ++ (wsX0_facesLessCrossings_r2 ++ wsX0_facesLessCrossings_r3)) ++ wsX00 ++ wsX30 ++ wsX10 ++ wsX20 ++ wsX40)
def wsX0_leastCrossingOnNoSphere_r1 : List Cond := [Cond.fieldLink RX0 12 "DiagramCode$Chart" "row" "LDiagramCode$Row;", Cond.fieldLink RX0 28 "DiagramCode$Chart" "pieces" "LDiagramCode$Groups;", Cond.methodLink RX0 79 yX4_crossings, Cond.instanceMethod yX4_crossings, Cond.selects RX4 yX4_crossings yX4_crossings, Cond.initialized RX4, Cond.code yX4_crossings cX4_crossings 1 (some .int), Cond.fieldLink RX4 18 "DiagramCode$Row" "crossings" "I", Cond.methodLink RX0 116 yX2_least, Cond.instanceMethod yX2_least, Cond.selects RX2 yX2_least yX2_least, Cond.initialized RX2, Cond.code yX2_least cX2_least 2 (some .int), Cond.fieldLink RX2 9 "DiagramCode$Groups" "least" "[I", Cond.methodLink RX2 25 yX2_hasMember, Cond.instanceMethod yX2_hasMember, Cond.selects RX2 yX2_hasMember yX2_hasMember, Cond.code yX2_hasMember cX2_hasMember 2 (some .boolean), Cond.fieldLink RX2 18 "DiagramCode$Groups" "members" "I", Cond.methodLink RX0 119 yX2_numberOf, Cond.instanceMethod yX2_numberOf, Cond.selects RX2 yX2_numberOf yX2_numberOf, Cond.code yX2_numberOf cX2_numberOf 2 (some .int), Cond.fieldLink RX2 15 "DiagramCode$Groups" "numberOf" "[I"]
def wsX0_leastCrossingOnNoSphere_r2 : List Cond := [Cond.methodLink RX0 122 yX0_facesLessCrossings, Cond.instanceMethod yX0_facesLessCrossings, Cond.selects RX0 yX0_facesLessCrossings yX0_facesLessCrossings, Cond.initialized RX0, Cond.code yX0_facesLessCrossings cX0_facesLessCrossings 4 (some .int), Cond.fieldLink RX0 45 "DiagramCode$Chart" "faces" "LDiagramCode$Rounds;", Cond.methodLink RX0 125 yX3_count, Cond.instanceMethod yX3_count, Cond.selects RX3 yX3_count yX3_count, Cond.initialized RX3, Cond.code yX3_count cX3_count 1 (some .int), Cond.fieldLink RX3 28 "DiagramCode$Rounds" "count" "I", Cond.methodLink RX0 126 yX3_first, Cond.instanceMethod yX3_first, Cond.selects RX3 yX3_first yX3_first, Cond.code yX3_first cX3_first 2 (some .int), Cond.fieldLink RX3 18 "DiagramCode$Rounds" "first" "[I", Cond.methodLink RX3 35 yX3_hasRound, Cond.instanceMethod yX3_hasRound, Cond.selects RX3 yX3_hasRound yX3_hasRound, Cond.code yX3_hasRound cX3_hasRound 2 (some .boolean), Cond.methodLink RX0 129 yX0_pieceOfEdge, Cond.instanceMethod yX0_pieceOfEdge, Cond.selects RX0 yX0_pieceOfEdge yX0_pieceOfEdge]
def wsX0_leastCrossingOnNoSphere_r3 : List Cond := [Cond.code yX0_pieceOfEdge cX0_pieceOfEdge 2 (some .int), Cond.fieldLink RX0 21 "DiagramCode$Chart" "edges" "LDiagramCode$Edges;", Cond.methodLink RX0 93 yX1_to, Cond.instanceMethod yX1_to, Cond.selects RX1 yX1_to yX1_to, Cond.initialized RX1, Cond.code yX1_to cX1_to 2 (some .int), Cond.fieldLink RX1 21 "DiagramCode$Edges" "to" "[I", Cond.methodLink RX1 31 yX1_has, Cond.instanceMethod yX1_has, Cond.selects RX1 yX1_has yX1_has, Cond.code yX1_has cX1_has 2 (some .boolean), Cond.fieldLink RX1 27 "DiagramCode$Edges" "count" "I"]
def wsX0_leastCrossingOnNoSphere : List Cond := .code yX0_leastCrossingOnNoSphere cX0_leastCrossingOnNoSphere 2 (some .int) :: ((wsX0_leastCrossingOnNoSphere_r1 ++ (wsX0_leastCrossingOnNoSphere_r2 ++ wsX0_leastCrossingOnNoSphere_r3)) ++ wsX00 ++ wsX40 ++ wsX20 ++ wsX30 ++ wsX10)
def wsX4_across : List Cond := .code yX4_across cX4_across 1 (some .int) :: ([])
def wsX4_isUpper : List Cond := .code yX4_isUpper cX4_isUpper 1 (some .boolean) :: ([])
def wsX4_seifertOut : List Cond := .code yX4_seifertOut cX4_seifertOut 3 (some .int) :: ([.methodLink RX4 40 yX4_isUpper, .static yX4_isUpper, .initialized RX4, .code yX4_isUpper cX4_isUpper 1 (some .boolean), .methodLink RX4 34 yX4_lowerOut, .static yX4_lowerOut, .code yX4_lowerOut cX4_lowerOut 1 (some .int), .methodLink RX4 37 yX4_upperOut, .instanceMethod yX4_upperOut, .selects RX4 yX4_upperOut yX4_upperOut, .code yX4_upperOut cX4_upperOut 2 (some .int), .methodLink RX4 30 yX4_sign, .instanceMethod yX4_sign, .selects RX4 yX4_sign yX4_sign, .code yX4_sign cX4_sign 2 (some .int), .fieldLink RX4 9 "DiagramCode$Row" "signs" "[I", .methodLink RX4 22 yX4_has, .instanceMethod yX4_has, .selects RX4 yX4_has yX4_has, .code yX4_has cX4_has 2 (some .boolean), .fieldLink RX4 18 "DiagramCode$Row" "crossings" "I"] ++ wsX40)
def wsX0_traceStrands_r1 : List Cond := [Cond.fieldLink RX0 38 "DiagramCode$Chart" "components" "LDiagramCode$Rounds;", Cond.fieldLink RX0 21 "DiagramCode$Chart" "edges" "LDiagramCode$Edges;", Cond.fieldLink RX0 42 "DiagramCode$Chart" "seifert" "LDiagramCode$Rounds;", Cond.fieldLink RX0 12 "DiagramCode$Chart" "row" "LDiagramCode$Row;", Cond.methodLink RX0 86 yX1_count, Cond.instanceMethod yX1_count, Cond.selects RX1 yX1_count yX1_count, Cond.initialized RX1, Cond.code yX1_count cX1_count 1 (some .int), Cond.fieldLink RX1 27 "DiagramCode$Edges" "count" "I", Cond.methodLink RX0 103 yX3_begin, Cond.instanceMethod yX3_begin, Cond.selects RX3 yX3_begin yX3_begin, Cond.initialized RX3, Cond.code yX3_begin cX3_begin 2 none, Cond.methodLink RX3 43 Lib.Math.min.name, Cond.static Lib.Math.min.name, Cond.initialized "java/lang/Math", Cond.code Lib.Math.min.name Lib.Math.min.code 2 (some .int), Cond.fieldLink RX3 24 "DiagramCode$Rounds" "members" "I", Cond.fieldLink RX3 28 "DiagramCode$Rounds" "count" "I", Cond.methodLink RX0 93 yX1_to, Cond.instanceMethod yX1_to, Cond.selects RX1 yX1_to yX1_to]
def wsX0_traceStrands_r2 : List Cond := [Cond.code yX1_to cX1_to 2 (some .int), Cond.fieldLink RX1 21 "DiagramCode$Edges" "to" "[I", Cond.methodLink RX1 31 yX1_has, Cond.instanceMethod yX1_has, Cond.selects RX1 yX1_has yX1_has, Cond.code yX1_has cX1_has 2 (some .boolean), Cond.methodLink RX0 132 yX4_across, Cond.static yX4_across, Cond.initialized RX4, Cond.code yX4_across cX4_across 1 (some .int), Cond.methodLink RX0 135 yX1_at, Cond.instanceMethod yX1_at, Cond.selects RX1 yX1_at yX1_at, Cond.code yX1_at cX1_at 2 (some .int), Cond.fieldLink RX1 24 "DiagramCode$Edges" "edgeAt" "[I", Cond.methodLink RX0 110 yX3_link, Cond.instanceMethod yX3_link, Cond.selects RX3 yX3_link yX3_link, Cond.code yX3_link cX3_link 3 none, Cond.fieldLink RX3 9 "DiagramCode$Rounds" "next" "[I", Cond.methodLink RX3 31 yX3_hasMember, Cond.instanceMethod yX3_hasMember, Cond.selects RX3 yX3_hasMember yX3_hasMember, Cond.code yX3_hasMember cX3_hasMember 2 (some .boolean)]
def wsX0_traceStrands_r3 : List Cond := [Cond.methodLink RX0 138 yX4_seifertOut, Cond.instanceMethod yX4_seifertOut, Cond.selects RX4 yX4_seifertOut yX4_seifertOut, Cond.code yX4_seifertOut cX4_seifertOut 3 (some .int), Cond.methodLink RX4 40 yX4_isUpper, Cond.static yX4_isUpper, Cond.code yX4_isUpper cX4_isUpper 1 (some .boolean), Cond.methodLink RX4 34 yX4_lowerOut, Cond.static yX4_lowerOut, Cond.code yX4_lowerOut cX4_lowerOut 1 (some .int), Cond.methodLink RX4 37 yX4_upperOut, Cond.instanceMethod yX4_upperOut, Cond.selects RX4 yX4_upperOut yX4_upperOut, Cond.code yX4_upperOut cX4_upperOut 2 (some .int), Cond.methodLink RX4 30 yX4_sign, Cond.instanceMethod yX4_sign, Cond.selects RX4 yX4_sign yX4_sign, Cond.code yX4_sign cX4_sign 2 (some .int), Cond.fieldLink RX4 9 "DiagramCode$Row" "signs" "[I", Cond.methodLink RX4 22 yX4_has, Cond.instanceMethod yX4_has, Cond.selects RX4 yX4_has yX4_has, Cond.code yX4_has cX4_has 2 (some .boolean), Cond.fieldLink RX4 18 "DiagramCode$Row" "crossings" "I"]
def wsX0_traceStrands_r4 : List Cond := [Cond.methodLink RX0 113 yX3_trace, Cond.instanceMethod yX3_trace, Cond.selects RX3 yX3_trace yX3_trace, Cond.code yX3_trace cX3_trace 2 none, Cond.fieldLink RX3 15 "DiagramCode$Rounds" "roundOf" "[I", Cond.methodLink RX3 49 yJ7_fill_53178, Cond.static yJ7_fill_53178, Cond.initialized RJ7, Cond.code yJ7_fill_53178 cJ7_fill_53178 4 none, Cond.methodLink RX3 55 yX3_walk, Cond.instanceMethod yX3_walk, Cond.selects RX3 yX3_walk yX3_walk, Cond.code yX3_walk cX3_walk 4 none, Cond.fieldLink RX3 18 "DiagramCode$Rounds" "first" "[I", Cond.fieldLink RX3 21 "DiagramCode$Rounds" "size" "[I"]
def wsX0_traceStrands : List Cond := .code yX0_traceStrands cX0_traceStrands 2 none :: ((wsX0_traceStrands_r1 ++ (wsX0_traceStrands_r2 ++ (wsX0_traceStrands_r3 ++ wsX0_traceStrands_r4))) ++ wsX00 ++ wsX10 ++ wsX30 ++ wsX40)
def wsX3_next : List Cond := .code yX3_next cX3_next 2 (some .int) :: ([.fieldLink RX3 9 "DiagramCode$Rounds" "next" "[I", .methodLink RX3 31 yX3_hasMember, .instanceMethod yX3_hasMember, .selects RX3 yX3_hasMember yX3_hasMember, .initialized RX3, .code yX3_hasMember cX3_hasMember 2 (some .boolean), .fieldLink RX3 24 "DiagramCode$Rounds" "members" "I"] ++ wsX30)
def wsX0_groupArcs_r1 : List Cond := [Cond.fieldLink RX0 32 "DiagramCode$Chart" "arcs" "LDiagramCode$Groups;", Cond.fieldLink RX0 21 "DiagramCode$Chart" "edges" "LDiagramCode$Edges;", Cond.fieldLink RX0 38 "DiagramCode$Chart" "components" "LDiagramCode$Rounds;", Cond.methodLink RX0 86 yX1_count, Cond.instanceMethod yX1_count, Cond.selects RX1 yX1_count yX1_count, Cond.initialized RX1, Cond.code yX1_count cX1_count 1 (some .int), Cond.fieldLink RX1 27 "DiagramCode$Edges" "count" "I", Cond.methodLink RX0 82 yX2_begin, Cond.instanceMethod yX2_begin, Cond.selects RX2 yX2_begin yX2_begin, Cond.initialized RX2, Cond.code yX2_begin cX2_begin 3 none, Cond.methodLink RX2 29 Lib.Math.min.name, Cond.static Lib.Math.min.name, Cond.initialized "java/lang/Math", Cond.code Lib.Math.min.name Lib.Math.min.code 2 (some .int), Cond.fieldLink RX2 18 "DiagramCode$Groups" "members" "I", Cond.fieldLink RX2 9 "DiagramCode$Groups" "least" "[I", Cond.methodLink RX0 93 yX1_to, Cond.instanceMethod yX1_to, Cond.selects RX1 yX1_to yX1_to, Cond.code yX1_to cX1_to 2 (some .int)]
def wsX0_groupArcs_r2 : List Cond := [Cond.fieldLink RX1 21 "DiagramCode$Edges" "to" "[I", Cond.methodLink RX1 31 yX1_has, Cond.instanceMethod yX1_has, Cond.selects RX1 yX1_has yX1_has, Cond.code yX1_has cX1_has 2 (some .boolean), Cond.methodLink RX0 141 yX4_isUpper, Cond.static yX4_isUpper, Cond.initialized RX4, Cond.code yX4_isUpper cX4_isUpper 1 (some .boolean), Cond.methodLink RX0 145 yX3_next, Cond.instanceMethod yX3_next, Cond.selects RX3 yX3_next yX3_next, Cond.initialized RX3, Cond.code yX3_next cX3_next 2 (some .int), Cond.fieldLink RX3 9 "DiagramCode$Rounds" "next" "[I", Cond.methodLink RX3 31 yX3_hasMember, Cond.instanceMethod yX3_hasMember, Cond.selects RX3 yX3_hasMember yX3_hasMember, Cond.code yX3_hasMember cX3_hasMember 2 (some .boolean), Cond.fieldLink RX3 24 "DiagramCode$Rounds" "members" "I", Cond.methodLink RX0 96 yX2_join, Cond.instanceMethod yX2_join, Cond.selects RX2 yX2_join yX2_join, Cond.code yX2_join cX2_join 6 none]
def wsX0_groupArcs_r3 : List Cond := [Cond.methodLink RX2 38 Lib.Math.max.name, Cond.static Lib.Math.max.name, Cond.code Lib.Math.max.name Lib.Math.max.code 2 (some .int), Cond.methodLink RX2 35 yX2_least, Cond.instanceMethod yX2_least, Cond.selects RX2 yX2_least yX2_least, Cond.code yX2_least cX2_least 2 (some .int), Cond.methodLink RX2 25 yX2_hasMember, Cond.instanceMethod yX2_hasMember, Cond.selects RX2 yX2_hasMember yX2_hasMember, Cond.code yX2_hasMember cX2_hasMember 2 (some .boolean), Cond.methodLink RX0 100 yX2_numberGroups, Cond.instanceMethod yX2_numberGroups, Cond.selects RX2 yX2_numberGroups yX2_numberGroups, Cond.code yX2_numberGroups cX2_numberGroups 2 none, Cond.fieldLink RX2 22 "DiagramCode$Groups" "count" "I", Cond.fieldLink RX2 15 "DiagramCode$Groups" "numberOf" "[I", Cond.methodLink RX2 41 yX2_numberOf, Cond.instanceMethod yX2_numberOf, Cond.selects RX2 yX2_numberOf yX2_numberOf, Cond.code yX2_numberOf cX2_numberOf 2 (some .int)]
def wsX0_groupArcs : List Cond := .code yX0_groupArcs cX0_groupArcs 2 none :: ((wsX0_groupArcs_r1 ++ (wsX0_groupArcs_r2 ++ wsX0_groupArcs_r3)) ++ wsX00 ++ wsX10 ++ wsX20 ++ wsX30)
def wsX0_survey_r1 : List Cond := [Cond.fieldLink RX0 21 "DiagramCode$Chart" "edges" "LDiagramCode$Edges;", Cond.fieldLink RX0 12 "DiagramCode$Chart" "row" "LDiagramCode$Row;", Cond.fieldLink RX0 52 "DiagramCode$Chart" "wrong" "I", Cond.methodLink RX0 56 yX1_gatherLabels, Cond.instanceMethod yX1_gatherLabels, Cond.selects RX1 yX1_gatherLabels yX1_gatherLabels, Cond.initialized RX1, Cond.code yX1_gatherLabels cX1_gatherLabels 3 (some .int), Cond.fieldLink RX1 27 "DiagramCode$Edges" "count" "I", Cond.fieldLink RX1 15 "DiagramCode$Edges" "times" "[I", Cond.fieldLink RX1 9 "DiagramCode$Edges" "labels" "[I", Cond.methodLink RX1 41 yX4_spots, Cond.instanceMethod yX4_spots, Cond.selects RX4 yX4_spots yX4_spots, Cond.initialized RX4, Cond.code yX4_spots cX4_spots 1 (some .int), Cond.fieldLink RX4 18 "DiagramCode$Row" "crossings" "I", Cond.methodLink RX1 47 yX4_label, Cond.instanceMethod yX4_label, Cond.selects RX4 yX4_label yX4_label, Cond.code yX4_label cX4_label 2 (some .int), Cond.fieldLink RX4 15 "DiagramCode$Row" "labels" "[I", Cond.methodLink RX4 26 yX4_spots, Cond.methodLink RX1 50 yX1_countLabel]
def wsX0_survey_r2 : List Cond := [Cond.instanceMethod yX1_countLabel, Cond.selects RX1 yX1_countLabel yX1_countLabel, Cond.code yX1_countLabel cX1_countLabel 4 none, Cond.methodLink RX1 54 yX1_countLess, Cond.instanceMethod yX1_countLess, Cond.selects RX1 yX1_countLess yX1_countLess, Cond.code yX1_countLess cX1_countLess 3 (some .int), Cond.methodLink RX1 31 yX1_has, Cond.instanceMethod yX1_has, Cond.selects RX1 yX1_has yX1_has, Cond.code yX1_has cX1_has 2 (some .boolean), Cond.methodLink RX0 60 yX1_findEnds, Cond.instanceMethod yX1_findEnds, Cond.selects RX1 yX1_findEnds yX1_findEnds, Cond.code yX1_findEnds cX1_findEnds 3 (some .int), Cond.fieldLink RX1 18 "DiagramCode$Edges" "from" "[I", Cond.fieldLink RX1 21 "DiagramCode$Edges" "to" "[I", Cond.methodLink RX1 57 yJ7_fill_53178, Cond.static yJ7_fill_53178, Cond.initialized RJ7, Cond.code yJ7_fill_53178 cJ7_fill_53178 4 none, Cond.methodLink RX1 63 yX1_rank, Cond.instanceMethod yX1_rank, Cond.selects RX1 yX1_rank yX1_rank]
def wsX0_survey_r3 : List Cond := [Cond.code yX1_rank cX1_rank 3 (some .int), Cond.methodLink RX1 66 yX4_goesOut, Cond.instanceMethod yX4_goesOut, Cond.selects RX4 yX4_goesOut yX4_goesOut, Cond.code yX4_goesOut cX4_goesOut 3 (some .boolean), Cond.methodLink RX4 34 yX4_lowerOut, Cond.static yX4_lowerOut, Cond.code yX4_lowerOut cX4_lowerOut 1 (some .int), Cond.methodLink RX4 37 yX4_upperOut, Cond.instanceMethod yX4_upperOut, Cond.selects RX4 yX4_upperOut yX4_upperOut, Cond.code yX4_upperOut cX4_upperOut 2 (some .int), Cond.methodLink RX4 30 yX4_sign, Cond.instanceMethod yX4_sign, Cond.selects RX4 yX4_sign yX4_sign, Cond.code yX4_sign cX4_sign 2 (some .int), Cond.fieldLink RX4 9 "DiagramCode$Row" "signs" "[I", Cond.methodLink RX4 22 yX4_has, Cond.instanceMethod yX4_has, Cond.selects RX4 yX4_has yX4_has, Cond.code yX4_has cX4_has 2 (some .boolean), Cond.methodLink RX1 69 yX1_noteEnd, Cond.instanceMethod yX1_noteEnd, Cond.selects RX1 yX1_noteEnd yX1_noteEnd]
def wsX0_survey_r4 : List Cond := [Cond.code yX1_noteEnd cX1_noteEnd 4 none, Cond.fieldLink RX1 24 "DiagramCode$Edges" "edgeAt" "[I", Cond.methodLink RX0 63 yX0_groupPieces, Cond.instanceMethod yX0_groupPieces, Cond.selects RX0 yX0_groupPieces yX0_groupPieces, Cond.initialized RX0, Cond.code yX0_groupPieces cX0_groupPieces 2 none, Cond.fieldLink RX0 28 "DiagramCode$Chart" "pieces" "LDiagramCode$Groups;", Cond.methodLink RX0 79 yX4_crossings, Cond.instanceMethod yX4_crossings, Cond.selects RX4 yX4_crossings yX4_crossings, Cond.code yX4_crossings cX4_crossings 1 (some .int), Cond.methodLink RX0 82 yX2_begin, Cond.instanceMethod yX2_begin, Cond.selects RX2 yX2_begin yX2_begin, Cond.initialized RX2, Cond.code yX2_begin cX2_begin 3 none, Cond.methodLink RX2 29 Lib.Math.min.name, Cond.static Lib.Math.min.name, Cond.initialized "java/lang/Math", Cond.code Lib.Math.min.name Lib.Math.min.code 2 (some .int), Cond.fieldLink RX2 18 "DiagramCode$Groups" "members" "I", Cond.fieldLink RX2 9 "DiagramCode$Groups" "least" "[I", Cond.methodLink RX0 86 yX1_count]
def wsX0_survey_r5 : List Cond := [Cond.instanceMethod yX1_count, Cond.selects RX1 yX1_count yX1_count, Cond.code yX1_count cX1_count 1 (some .int), Cond.methodLink RX0 89 yX1_from, Cond.instanceMethod yX1_from, Cond.selects RX1 yX1_from yX1_from, Cond.code yX1_from cX1_from 2 (some .int), Cond.methodLink RX0 93 yX1_to, Cond.instanceMethod yX1_to, Cond.selects RX1 yX1_to yX1_to, Cond.code yX1_to cX1_to 2 (some .int), Cond.methodLink RX0 96 yX2_join, Cond.instanceMethod yX2_join, Cond.selects RX2 yX2_join yX2_join, Cond.code yX2_join cX2_join 6 none, Cond.methodLink RX2 38 Lib.Math.max.name, Cond.static Lib.Math.max.name, Cond.code Lib.Math.max.name Lib.Math.max.code 2 (some .int), Cond.methodLink RX2 35 yX2_least, Cond.instanceMethod yX2_least, Cond.selects RX2 yX2_least yX2_least, Cond.code yX2_least cX2_least 2 (some .int), Cond.methodLink RX2 25 yX2_hasMember, Cond.instanceMethod yX2_hasMember]
def wsX0_survey_r6 : List Cond := [Cond.selects RX2 yX2_hasMember yX2_hasMember, Cond.code yX2_hasMember cX2_hasMember 2 (some .boolean), Cond.methodLink RX0 100 yX2_numberGroups, Cond.instanceMethod yX2_numberGroups, Cond.selects RX2 yX2_numberGroups yX2_numberGroups, Cond.code yX2_numberGroups cX2_numberGroups 2 none, Cond.fieldLink RX2 22 "DiagramCode$Groups" "count" "I", Cond.fieldLink RX2 15 "DiagramCode$Groups" "numberOf" "[I", Cond.methodLink RX2 41 yX2_numberOf, Cond.instanceMethod yX2_numberOf, Cond.selects RX2 yX2_numberOf yX2_numberOf, Cond.code yX2_numberOf cX2_numberOf 2 (some .int), Cond.methodLink RX0 66 yX0_traceFaces, Cond.instanceMethod yX0_traceFaces, Cond.selects RX0 yX0_traceFaces yX0_traceFaces, Cond.code yX0_traceFaces cX0_traceFaces 2 none, Cond.fieldLink RX0 45 "DiagramCode$Chart" "faces" "LDiagramCode$Rounds;", Cond.methodLink RX0 103 yX3_begin, Cond.instanceMethod yX3_begin, Cond.selects RX3 yX3_begin yX3_begin, Cond.initialized RX3, Cond.code yX3_begin cX3_begin 2 none, Cond.methodLink RX3 43 Lib.Math.min.name, Cond.fieldLink RX3 24 "DiagramCode$Rounds" "members" "I"]
def wsX0_survey_r7 : List Cond := [Cond.fieldLink RX3 28 "DiagramCode$Rounds" "count" "I", Cond.methodLink RX0 104 yX4_beside, Cond.static yX4_beside, Cond.code yX4_beside cX4_beside 1 (some .int), Cond.methodLink RX0 107 yX1_dartFrom, Cond.instanceMethod yX1_dartFrom, Cond.selects RX1 yX1_dartFrom yX1_dartFrom, Cond.code yX1_dartFrom cX1_dartFrom 3 (some .int), Cond.methodLink RX1 35 yX1_at, Cond.instanceMethod yX1_at, Cond.selects RX1 yX1_at yX1_at, Cond.code yX1_at cX1_at 2 (some .int), Cond.methodLink RX1 39 yX1_from, Cond.methodLink RX0 110 yX3_link, Cond.instanceMethod yX3_link, Cond.selects RX3 yX3_link yX3_link, Cond.code yX3_link cX3_link 3 none, Cond.fieldLink RX3 9 "DiagramCode$Rounds" "next" "[I", Cond.methodLink RX3 31 yX3_hasMember, Cond.instanceMethod yX3_hasMember, Cond.selects RX3 yX3_hasMember yX3_hasMember, Cond.code yX3_hasMember cX3_hasMember 2 (some .boolean), Cond.methodLink RX0 113 yX3_trace, Cond.instanceMethod yX3_trace]
def wsX0_survey_r8 : List Cond := [Cond.selects RX3 yX3_trace yX3_trace, Cond.code yX3_trace cX3_trace 2 none, Cond.fieldLink RX3 15 "DiagramCode$Rounds" "roundOf" "[I", Cond.methodLink RX3 49 yJ7_fill_53178, Cond.methodLink RX3 55 yX3_walk, Cond.instanceMethod yX3_walk, Cond.selects RX3 yX3_walk yX3_walk, Cond.code yX3_walk cX3_walk 4 none, Cond.fieldLink RX3 18 "DiagramCode$Rounds" "first" "[I", Cond.fieldLink RX3 21 "DiagramCode$Rounds" "size" "[I", Cond.methodLink RX0 69 yX0_leastCrossingOnNoSphere, Cond.instanceMethod yX0_leastCrossingOnNoSphere, Cond.selects RX0 yX0_leastCrossingOnNoSphere yX0_leastCrossingOnNoSphere, Cond.code yX0_leastCrossingOnNoSphere cX0_leastCrossingOnNoSphere 2 (some .int), Cond.methodLink RX0 116 yX2_least, Cond.methodLink RX0 119 yX2_numberOf, Cond.methodLink RX0 122 yX0_facesLessCrossings, Cond.instanceMethod yX0_facesLessCrossings, Cond.selects RX0 yX0_facesLessCrossings yX0_facesLessCrossings, Cond.code yX0_facesLessCrossings cX0_facesLessCrossings 4 (some .int), Cond.methodLink RX0 125 yX3_count, Cond.instanceMethod yX3_count, Cond.selects RX3 yX3_count yX3_count, Cond.code yX3_count cX3_count 1 (some .int)]
def wsX0_survey_r9 : List Cond := [Cond.methodLink RX0 126 yX3_first, Cond.instanceMethod yX3_first, Cond.selects RX3 yX3_first yX3_first, Cond.code yX3_first cX3_first 2 (some .int), Cond.methodLink RX3 35 yX3_hasRound, Cond.instanceMethod yX3_hasRound, Cond.selects RX3 yX3_hasRound yX3_hasRound, Cond.code yX3_hasRound cX3_hasRound 2 (some .boolean), Cond.methodLink RX0 129 yX0_pieceOfEdge, Cond.instanceMethod yX0_pieceOfEdge, Cond.selects RX0 yX0_pieceOfEdge yX0_pieceOfEdge, Cond.code yX0_pieceOfEdge cX0_pieceOfEdge 2 (some .int), Cond.methodLink RX0 73 yX0_traceStrands, Cond.instanceMethod yX0_traceStrands, Cond.selects RX0 yX0_traceStrands yX0_traceStrands, Cond.code yX0_traceStrands cX0_traceStrands 2 none, Cond.fieldLink RX0 38 "DiagramCode$Chart" "components" "LDiagramCode$Rounds;", Cond.fieldLink RX0 42 "DiagramCode$Chart" "seifert" "LDiagramCode$Rounds;", Cond.methodLink RX0 132 yX4_across, Cond.static yX4_across, Cond.code yX4_across cX4_across 1 (some .int), Cond.methodLink RX0 135 yX1_at, Cond.methodLink RX0 138 yX4_seifertOut, Cond.instanceMethod yX4_seifertOut]
def wsX0_survey_r10 : List Cond := [Cond.selects RX4 yX4_seifertOut yX4_seifertOut, Cond.code yX4_seifertOut cX4_seifertOut 3 (some .int), Cond.methodLink RX4 40 yX4_isUpper, Cond.static yX4_isUpper, Cond.code yX4_isUpper cX4_isUpper 1 (some .boolean), Cond.methodLink RX0 76 yX0_groupArcs, Cond.instanceMethod yX0_groupArcs, Cond.selects RX0 yX0_groupArcs yX0_groupArcs, Cond.code yX0_groupArcs cX0_groupArcs 2 none, Cond.fieldLink RX0 32 "DiagramCode$Chart" "arcs" "LDiagramCode$Groups;", Cond.methodLink RX0 141 yX4_isUpper, Cond.methodLink RX0 145 yX3_next, Cond.instanceMethod yX3_next, Cond.selects RX3 yX3_next yX3_next, Cond.code yX3_next cX3_next 2 (some .int)]
def wsX0_survey : List Cond := .code yX0_survey cX0_survey 1 (some .int) :: ((wsX0_survey_r1 ++ (wsX0_survey_r2 ++ (wsX0_survey_r3 ++ (wsX0_survey_r4 ++ (wsX0_survey_r5 ++ (wsX0_survey_r6 ++ (wsX0_survey_r7 ++ (wsX0_survey_r8 ++ (wsX0_survey_r9 ++ wsX0_survey_r10))))))))) ++ wsX00 ++ wsX10 ++ wsX40 ++ wsX20 ++ wsX30)
def wsX0_pieceOfComponent_r1 : List Cond := [Cond.fieldLink RX0 38 "DiagramCode$Chart" "components" "LDiagramCode$Rounds;", Cond.methodLink RX0 126 yX3_first, Cond.instanceMethod yX3_first, Cond.selects RX3 yX3_first yX3_first, Cond.initialized RX3, Cond.code yX3_first cX3_first 2 (some .int), Cond.fieldLink RX3 18 "DiagramCode$Rounds" "first" "[I", Cond.methodLink RX3 35 yX3_hasRound, Cond.instanceMethod yX3_hasRound, Cond.selects RX3 yX3_hasRound yX3_hasRound, Cond.code yX3_hasRound cX3_hasRound 2 (some .boolean), Cond.fieldLink RX3 28 "DiagramCode$Rounds" "count" "I", Cond.methodLink RX0 129 yX0_pieceOfEdge, Cond.instanceMethod yX0_pieceOfEdge, Cond.selects RX0 yX0_pieceOfEdge yX0_pieceOfEdge, Cond.initialized RX0, Cond.code yX0_pieceOfEdge cX0_pieceOfEdge 2 (some .int), Cond.fieldLink RX0 28 "DiagramCode$Chart" "pieces" "LDiagramCode$Groups;", Cond.fieldLink RX0 21 "DiagramCode$Chart" "edges" "LDiagramCode$Edges;", Cond.methodLink RX0 93 yX1_to, Cond.instanceMethod yX1_to, Cond.selects RX1 yX1_to yX1_to, Cond.initialized RX1, Cond.code yX1_to cX1_to 2 (some .int)]
def wsX0_pieceOfComponent_r2 : List Cond := [Cond.fieldLink RX1 21 "DiagramCode$Edges" "to" "[I", Cond.methodLink RX1 31 yX1_has, Cond.instanceMethod yX1_has, Cond.selects RX1 yX1_has yX1_has, Cond.code yX1_has cX1_has 2 (some .boolean), Cond.fieldLink RX1 27 "DiagramCode$Edges" "count" "I", Cond.methodLink RX0 119 yX2_numberOf, Cond.instanceMethod yX2_numberOf, Cond.selects RX2 yX2_numberOf yX2_numberOf, Cond.initialized RX2, Cond.code yX2_numberOf cX2_numberOf 2 (some .int), Cond.fieldLink RX2 15 "DiagramCode$Groups" "numberOf" "[I", Cond.methodLink RX2 25 yX2_hasMember, Cond.instanceMethod yX2_hasMember, Cond.selects RX2 yX2_hasMember yX2_hasMember, Cond.code yX2_hasMember cX2_hasMember 2 (some .boolean), Cond.fieldLink RX2 18 "DiagramCode$Groups" "members" "I"]
def wsX0_pieceOfComponent : List Cond := .code yX0_pieceOfComponent cX0_pieceOfComponent 2 (some .int) :: ((wsX0_pieceOfComponent_r1 ++ wsX0_pieceOfComponent_r2) ++ wsX00 ++ wsX30 ++ wsX10 ++ wsX20)
def wsX4_lowerIn : List Cond := .code yX4_lowerIn cX4_lowerIn 1 (some .int) :: ([])
def wsX3_roundOf : List Cond := .code yX3_roundOf cX3_roundOf 2 (some .int) :: ([.fieldLink RX3 15 "DiagramCode$Rounds" "roundOf" "[I", .methodLink RX3 31 yX3_hasMember, .instanceMethod yX3_hasMember, .selects RX3 yX3_hasMember yX3_hasMember, .initialized RX3, .code yX3_hasMember cX3_hasMember 2 (some .boolean), .fieldLink RX3 24 "DiagramCode$Rounds" "members" "I"] ++ wsX30)
def wsX0_lowerComponent : List Cond := .code yX0_lowerComponent cX0_lowerComponent 2 (some .int) :: ([.fieldLink RX0 38 "DiagramCode$Chart" "components" "LDiagramCode$Rounds;", .fieldLink RX0 21 "DiagramCode$Chart" "edges" "LDiagramCode$Edges;", .methodLink RX0 148 yX4_lowerIn, .static yX4_lowerIn, .initialized RX4, .code yX4_lowerIn cX4_lowerIn 1 (some .int), .methodLink RX0 135 yX1_at, .instanceMethod yX1_at, .selects RX1 yX1_at yX1_at, .initialized RX1, .code yX1_at cX1_at 2 (some .int), .fieldLink RX1 24 "DiagramCode$Edges" "edgeAt" "[I", .methodLink RX0 151 yX3_roundOf, .instanceMethod yX3_roundOf, .selects RX3 yX3_roundOf yX3_roundOf, .initialized RX3, .code yX3_roundOf cX3_roundOf 2 (some .int), .fieldLink RX3 15 "DiagramCode$Rounds" "roundOf" "[I", .methodLink RX3 31 yX3_hasMember, .instanceMethod yX3_hasMember, .selects RX3 yX3_hasMember yX3_hasMember, .code yX3_hasMember cX3_hasMember 2 (some .boolean), .fieldLink RX3 24 "DiagramCode$Rounds" "members" "I"] ++ wsX00 ++ wsX10 ++ wsX30)
def wsX4_upperIn : List Cond := .code yX4_upperIn cX4_upperIn 2 (some .int) :: ([.methodLink RX4 30 yX4_sign, .instanceMethod yX4_sign, .selects RX4 yX4_sign yX4_sign, .initialized RX4, .code yX4_sign cX4_sign 2 (some .int), .fieldLink RX4 9 "DiagramCode$Row" "signs" "[I", .methodLink RX4 22 yX4_has, .instanceMethod yX4_has, .selects RX4 yX4_has yX4_has, .code yX4_has cX4_has 2 (some .boolean), .fieldLink RX4 18 "DiagramCode$Row" "crossings" "I"] ++ wsX40)
def wsX0_upperComponent_r1 : List Cond := [Cond.fieldLink RX0 38 "DiagramCode$Chart" "components" "LDiagramCode$Rounds;", Cond.fieldLink RX0 21 "DiagramCode$Chart" "edges" "LDiagramCode$Edges;", Cond.fieldLink RX0 12 "DiagramCode$Chart" "row" "LDiagramCode$Row;", Cond.methodLink RX0 154 yX4_upperIn, Cond.instanceMethod yX4_upperIn, Cond.selects RX4 yX4_upperIn yX4_upperIn, Cond.initialized RX4, Cond.code yX4_upperIn cX4_upperIn 2 (some .int), Cond.methodLink RX4 30 yX4_sign, Cond.instanceMethod yX4_sign, Cond.selects RX4 yX4_sign yX4_sign, Cond.code yX4_sign cX4_sign 2 (some .int), Cond.fieldLink RX4 9 "DiagramCode$Row" "signs" "[I", Cond.methodLink RX4 22 yX4_has, Cond.instanceMethod yX4_has, Cond.selects RX4 yX4_has yX4_has, Cond.code yX4_has cX4_has 2 (some .boolean), Cond.fieldLink RX4 18 "DiagramCode$Row" "crossings" "I", Cond.methodLink RX0 135 yX1_at, Cond.instanceMethod yX1_at, Cond.selects RX1 yX1_at yX1_at, Cond.initialized RX1, Cond.code yX1_at cX1_at 2 (some .int), Cond.fieldLink RX1 24 "DiagramCode$Edges" "edgeAt" "[I"]
def wsX0_upperComponent_r2 : List Cond := [Cond.methodLink RX0 151 yX3_roundOf, Cond.instanceMethod yX3_roundOf, Cond.selects RX3 yX3_roundOf yX3_roundOf, Cond.initialized RX3, Cond.code yX3_roundOf cX3_roundOf 2 (some .int), Cond.fieldLink RX3 15 "DiagramCode$Rounds" "roundOf" "[I", Cond.methodLink RX3 31 yX3_hasMember, Cond.instanceMethod yX3_hasMember, Cond.selects RX3 yX3_hasMember yX3_hasMember, Cond.code yX3_hasMember cX3_hasMember 2 (some .boolean), Cond.fieldLink RX3 24 "DiagramCode$Rounds" "members" "I"]
def wsX0_upperComponent : List Cond := .code yX0_upperComponent cX0_upperComponent 2 (some .int) :: ((wsX0_upperComponent_r1 ++ wsX0_upperComponent_r2) ++ wsX00 ++ wsX40 ++ wsX10 ++ wsX30)
def wsX0_sumOfSignsUnder_r1 : List Cond := [Cond.fieldLink RX0 12 "DiagramCode$Chart" "row" "LDiagramCode$Row;", Cond.methodLink RX0 79 yX4_crossings, Cond.instanceMethod yX4_crossings, Cond.selects RX4 yX4_crossings yX4_crossings, Cond.initialized RX4, Cond.code yX4_crossings cX4_crossings 1 (some .int), Cond.fieldLink RX4 18 "DiagramCode$Row" "crossings" "I", Cond.methodLink RX0 161 yX0_lowerComponent, Cond.instanceMethod yX0_lowerComponent, Cond.selects RX0 yX0_lowerComponent yX0_lowerComponent, Cond.initialized RX0, Cond.code yX0_lowerComponent cX0_lowerComponent 2 (some .int), Cond.fieldLink RX0 38 "DiagramCode$Chart" "components" "LDiagramCode$Rounds;", Cond.fieldLink RX0 21 "DiagramCode$Chart" "edges" "LDiagramCode$Edges;", Cond.methodLink RX0 148 yX4_lowerIn, Cond.static yX4_lowerIn, Cond.code yX4_lowerIn cX4_lowerIn 1 (some .int), Cond.methodLink RX0 135 yX1_at, Cond.instanceMethod yX1_at, Cond.selects RX1 yX1_at yX1_at, Cond.initialized RX1, Cond.code yX1_at cX1_at 2 (some .int), Cond.fieldLink RX1 24 "DiagramCode$Edges" "edgeAt" "[I", Cond.methodLink RX0 151 yX3_roundOf]
def wsX0_sumOfSignsUnder_r2 : List Cond := [Cond.instanceMethod yX3_roundOf, Cond.selects RX3 yX3_roundOf yX3_roundOf, Cond.initialized RX3, Cond.code yX3_roundOf cX3_roundOf 2 (some .int), Cond.fieldLink RX3 15 "DiagramCode$Rounds" "roundOf" "[I", Cond.methodLink RX3 31 yX3_hasMember, Cond.instanceMethod yX3_hasMember, Cond.selects RX3 yX3_hasMember yX3_hasMember, Cond.code yX3_hasMember cX3_hasMember 2 (some .boolean), Cond.fieldLink RX3 24 "DiagramCode$Rounds" "members" "I", Cond.methodLink RX0 164 yX0_upperComponent, Cond.instanceMethod yX0_upperComponent, Cond.selects RX0 yX0_upperComponent yX0_upperComponent, Cond.code yX0_upperComponent cX0_upperComponent 2 (some .int), Cond.methodLink RX0 154 yX4_upperIn, Cond.instanceMethod yX4_upperIn, Cond.selects RX4 yX4_upperIn yX4_upperIn, Cond.code yX4_upperIn cX4_upperIn 2 (some .int), Cond.methodLink RX4 30 yX4_sign, Cond.instanceMethod yX4_sign, Cond.selects RX4 yX4_sign yX4_sign, Cond.code yX4_sign cX4_sign 2 (some .int), Cond.fieldLink RX4 9 "DiagramCode$Row" "signs" "[I", Cond.methodLink RX4 22 yX4_has]
def wsX0_sumOfSignsUnder_r3 : List Cond := [Cond.instanceMethod yX4_has, Cond.selects RX4 yX4_has yX4_has, Cond.code yX4_has cX4_has 2 (some .boolean), Cond.methodLink RX0 167 yX4_sign]
def wsX0_sumOfSignsUnder : List Cond := .code yX0_sumOfSignsUnder cX0_sumOfSignsUnder 5 (some .int) :: ((wsX0_sumOfSignsUnder_r1 ++ (wsX0_sumOfSignsUnder_r2 ++ wsX0_sumOfSignsUnder_r3)) ++ wsX00 ++ wsX40 ++ wsX10 ++ wsX30)
def wsX0_sumOfOwnSigns_r1 : List Cond := [Cond.methodLink RX0 157 yX0_sumOfSignsUnder, Cond.instanceMethod yX0_sumOfSignsUnder, Cond.selects RX0 yX0_sumOfSignsUnder yX0_sumOfSignsUnder, Cond.initialized RX0, Cond.code yX0_sumOfSignsUnder cX0_sumOfSignsUnder 5 (some .int), Cond.fieldLink RX0 12 "DiagramCode$Chart" "row" "LDiagramCode$Row;", Cond.methodLink RX0 79 yX4_crossings, Cond.instanceMethod yX4_crossings, Cond.selects RX4 yX4_crossings yX4_crossings, Cond.initialized RX4, Cond.code yX4_crossings cX4_crossings 1 (some .int), Cond.fieldLink RX4 18 "DiagramCode$Row" "crossings" "I", Cond.methodLink RX0 161 yX0_lowerComponent, Cond.instanceMethod yX0_lowerComponent, Cond.selects RX0 yX0_lowerComponent yX0_lowerComponent, Cond.code yX0_lowerComponent cX0_lowerComponent 2 (some .int), Cond.fieldLink RX0 38 "DiagramCode$Chart" "components" "LDiagramCode$Rounds;", Cond.fieldLink RX0 21 "DiagramCode$Chart" "edges" "LDiagramCode$Edges;", Cond.methodLink RX0 148 yX4_lowerIn, Cond.static yX4_lowerIn, Cond.code yX4_lowerIn cX4_lowerIn 1 (some .int), Cond.methodLink RX0 135 yX1_at, Cond.instanceMethod yX1_at, Cond.selects RX1 yX1_at yX1_at]
def wsX0_sumOfOwnSigns_r2 : List Cond := [Cond.initialized RX1, Cond.code yX1_at cX1_at 2 (some .int), Cond.fieldLink RX1 24 "DiagramCode$Edges" "edgeAt" "[I", Cond.methodLink RX0 151 yX3_roundOf, Cond.instanceMethod yX3_roundOf, Cond.selects RX3 yX3_roundOf yX3_roundOf, Cond.initialized RX3, Cond.code yX3_roundOf cX3_roundOf 2 (some .int), Cond.fieldLink RX3 15 "DiagramCode$Rounds" "roundOf" "[I", Cond.methodLink RX3 31 yX3_hasMember, Cond.instanceMethod yX3_hasMember, Cond.selects RX3 yX3_hasMember yX3_hasMember, Cond.code yX3_hasMember cX3_hasMember 2 (some .boolean), Cond.fieldLink RX3 24 "DiagramCode$Rounds" "members" "I", Cond.methodLink RX0 164 yX0_upperComponent, Cond.instanceMethod yX0_upperComponent, Cond.selects RX0 yX0_upperComponent yX0_upperComponent, Cond.code yX0_upperComponent cX0_upperComponent 2 (some .int), Cond.methodLink RX0 154 yX4_upperIn, Cond.instanceMethod yX4_upperIn, Cond.selects RX4 yX4_upperIn yX4_upperIn, Cond.code yX4_upperIn cX4_upperIn 2 (some .int), Cond.methodLink RX4 30 yX4_sign, Cond.instanceMethod yX4_sign]
def wsX0_sumOfOwnSigns_r3 : List Cond := [Cond.selects RX4 yX4_sign yX4_sign, Cond.code yX4_sign cX4_sign 2 (some .int), Cond.fieldLink RX4 9 "DiagramCode$Row" "signs" "[I", Cond.methodLink RX4 22 yX4_has, Cond.instanceMethod yX4_has, Cond.selects RX4 yX4_has yX4_has, Cond.code yX4_has cX4_has 2 (some .boolean), Cond.methodLink RX0 167 yX4_sign]
def wsX0_sumOfOwnSigns : List Cond := .code yX0_sumOfOwnSigns cX0_sumOfOwnSigns 2 (some .int) :: ((wsX0_sumOfOwnSigns_r1 ++ (wsX0_sumOfOwnSigns_r2 ++ wsX0_sumOfOwnSigns_r3)) ++ wsX00 ++ wsX40 ++ wsX10 ++ wsX30)
def wsX0_linking_r1 : List Cond := [Cond.methodLink RX0 157 yX0_sumOfSignsUnder, Cond.instanceMethod yX0_sumOfSignsUnder, Cond.selects RX0 yX0_sumOfSignsUnder yX0_sumOfSignsUnder, Cond.initialized RX0, Cond.code yX0_sumOfSignsUnder cX0_sumOfSignsUnder 5 (some .int), Cond.fieldLink RX0 12 "DiagramCode$Chart" "row" "LDiagramCode$Row;", Cond.methodLink RX0 79 yX4_crossings, Cond.instanceMethod yX4_crossings, Cond.selects RX4 yX4_crossings yX4_crossings, Cond.initialized RX4, Cond.code yX4_crossings cX4_crossings 1 (some .int), Cond.fieldLink RX4 18 "DiagramCode$Row" "crossings" "I", Cond.methodLink RX0 161 yX0_lowerComponent, Cond.instanceMethod yX0_lowerComponent, Cond.selects RX0 yX0_lowerComponent yX0_lowerComponent, Cond.code yX0_lowerComponent cX0_lowerComponent 2 (some .int), Cond.fieldLink RX0 38 "DiagramCode$Chart" "components" "LDiagramCode$Rounds;", Cond.fieldLink RX0 21 "DiagramCode$Chart" "edges" "LDiagramCode$Edges;", Cond.methodLink RX0 148 yX4_lowerIn, Cond.static yX4_lowerIn, Cond.code yX4_lowerIn cX4_lowerIn 1 (some .int), Cond.methodLink RX0 135 yX1_at, Cond.instanceMethod yX1_at, Cond.selects RX1 yX1_at yX1_at]
def wsX0_linking_r2 : List Cond := [Cond.initialized RX1, Cond.code yX1_at cX1_at 2 (some .int), Cond.fieldLink RX1 24 "DiagramCode$Edges" "edgeAt" "[I", Cond.methodLink RX0 151 yX3_roundOf, Cond.instanceMethod yX3_roundOf, Cond.selects RX3 yX3_roundOf yX3_roundOf, Cond.initialized RX3, Cond.code yX3_roundOf cX3_roundOf 2 (some .int), Cond.fieldLink RX3 15 "DiagramCode$Rounds" "roundOf" "[I", Cond.methodLink RX3 31 yX3_hasMember, Cond.instanceMethod yX3_hasMember, Cond.selects RX3 yX3_hasMember yX3_hasMember, Cond.code yX3_hasMember cX3_hasMember 2 (some .boolean), Cond.fieldLink RX3 24 "DiagramCode$Rounds" "members" "I", Cond.methodLink RX0 164 yX0_upperComponent, Cond.instanceMethod yX0_upperComponent, Cond.selects RX0 yX0_upperComponent yX0_upperComponent, Cond.code yX0_upperComponent cX0_upperComponent 2 (some .int), Cond.methodLink RX0 154 yX4_upperIn, Cond.instanceMethod yX4_upperIn, Cond.selects RX4 yX4_upperIn yX4_upperIn, Cond.code yX4_upperIn cX4_upperIn 2 (some .int), Cond.methodLink RX4 30 yX4_sign, Cond.instanceMethod yX4_sign]
def wsX0_linking_r3 : List Cond := [Cond.selects RX4 yX4_sign yX4_sign, Cond.code yX4_sign cX4_sign 2 (some .int), Cond.fieldLink RX4 9 "DiagramCode$Row" "signs" "[I", Cond.methodLink RX4 22 yX4_has, Cond.instanceMethod yX4_has, Cond.selects RX4 yX4_has yX4_has, Cond.code yX4_has cX4_has 2 (some .boolean), Cond.methodLink RX0 167 yX4_sign]
def wsX0_linking : List Cond := .code yX0_linking cX0_linking 3 (some .int) :: ((wsX0_linking_r1 ++ (wsX0_linking_r2 ++ wsX0_linking_r3)) ++ wsX00 ++ wsX40 ++ wsX10 ++ wsX30)
def wsX4_beginPlacesAt : List Cond := .code yX4_beginPlacesAt cX4_beginPlacesAt 6 none :: ([.fieldLink RX4 15 "DiagramCode$Row" "labels" "[I", .methodLink RX4 22 yX4_has, .instanceMethod yX4_has, .selects RX4 yX4_has yX4_has, .initialized RX4, .code yX4_has cX4_has 2 (some .boolean), .fieldLink RX4 18 "DiagramCode$Row" "crossings" "I"] ++ wsX40)
def wsX4_flipSign : List Cond := .code yX4_flipSign cX4_flipSign 2 none :: ([.fieldLink RX4 9 "DiagramCode$Row" "signs" "[I", .methodLink RX4 22 yX4_has, .instanceMethod yX4_has, .selects RX4 yX4_has yX4_has, .initialized RX4, .code yX4_has cX4_has 2 (some .boolean), .fieldLink RX4 18 "DiagramCode$Row" "crossings" "I"] ++ wsX40)
def wsX4_turnStrands : List Cond := .code yX4_turnStrands cX4_turnStrands 4 none :: ([.methodLink RX4 46 yX4_beginPlacesAt, .instanceMethod yX4_beginPlacesAt, .selects RX4 yX4_beginPlacesAt yX4_beginPlacesAt, .initialized RX4, .code yX4_beginPlacesAt cX4_beginPlacesAt 6 none, .fieldLink RX4 15 "DiagramCode$Row" "labels" "[I", .methodLink RX4 22 yX4_has, .instanceMethod yX4_has, .selects RX4 yX4_has yX4_has, .code yX4_has cX4_has 2 (some .boolean), .fieldLink RX4 18 "DiagramCode$Row" "crossings" "I", .methodLink RX4 50 yX4_flipSign, .instanceMethod yX4_flipSign, .selects RX4 yX4_flipSign yX4_flipSign, .code yX4_flipSign cX4_flipSign 2 none, .fieldLink RX4 9 "DiagramCode$Row" "signs" "[I"] ++ wsX40)
def wsX0_turnComponent_r1 : List Cond := [Cond.fieldLink RX0 12 "DiagramCode$Chart" "row" "LDiagramCode$Row;", Cond.methodLink RX0 79 yX4_crossings, Cond.instanceMethod yX4_crossings, Cond.selects RX4 yX4_crossings yX4_crossings, Cond.initialized RX4, Cond.code yX4_crossings cX4_crossings 1 (some .int), Cond.fieldLink RX4 18 "DiagramCode$Row" "crossings" "I", Cond.methodLink RX0 161 yX0_lowerComponent, Cond.instanceMethod yX0_lowerComponent, Cond.selects RX0 yX0_lowerComponent yX0_lowerComponent, Cond.initialized RX0, Cond.code yX0_lowerComponent cX0_lowerComponent 2 (some .int), Cond.fieldLink RX0 38 "DiagramCode$Chart" "components" "LDiagramCode$Rounds;", Cond.fieldLink RX0 21 "DiagramCode$Chart" "edges" "LDiagramCode$Edges;", Cond.methodLink RX0 148 yX4_lowerIn, Cond.static yX4_lowerIn, Cond.code yX4_lowerIn cX4_lowerIn 1 (some .int), Cond.methodLink RX0 135 yX1_at, Cond.instanceMethod yX1_at, Cond.selects RX1 yX1_at yX1_at, Cond.initialized RX1, Cond.code yX1_at cX1_at 2 (some .int), Cond.fieldLink RX1 24 "DiagramCode$Edges" "edgeAt" "[I", Cond.methodLink RX0 151 yX3_roundOf]
def wsX0_turnComponent_r2 : List Cond := [Cond.instanceMethod yX3_roundOf, Cond.selects RX3 yX3_roundOf yX3_roundOf, Cond.initialized RX3, Cond.code yX3_roundOf cX3_roundOf 2 (some .int), Cond.fieldLink RX3 15 "DiagramCode$Rounds" "roundOf" "[I", Cond.methodLink RX3 31 yX3_hasMember, Cond.instanceMethod yX3_hasMember, Cond.selects RX3 yX3_hasMember yX3_hasMember, Cond.code yX3_hasMember cX3_hasMember 2 (some .boolean), Cond.fieldLink RX3 24 "DiagramCode$Rounds" "members" "I", Cond.methodLink RX0 164 yX0_upperComponent, Cond.instanceMethod yX0_upperComponent, Cond.selects RX0 yX0_upperComponent yX0_upperComponent, Cond.code yX0_upperComponent cX0_upperComponent 2 (some .int), Cond.methodLink RX0 154 yX4_upperIn, Cond.instanceMethod yX4_upperIn, Cond.selects RX4 yX4_upperIn yX4_upperIn, Cond.code yX4_upperIn cX4_upperIn 2 (some .int), Cond.methodLink RX4 30 yX4_sign, Cond.instanceMethod yX4_sign, Cond.selects RX4 yX4_sign yX4_sign, Cond.code yX4_sign cX4_sign 2 (some .int), Cond.fieldLink RX4 9 "DiagramCode$Row" "signs" "[I", Cond.methodLink RX4 22 yX4_has]
def wsX0_turnComponent_r3 : List Cond := [Cond.instanceMethod yX4_has, Cond.selects RX4 yX4_has yX4_has, Cond.code yX4_has cX4_has 2 (some .boolean), Cond.methodLink RX0 170 yX4_turnStrands, Cond.instanceMethod yX4_turnStrands, Cond.selects RX4 yX4_turnStrands yX4_turnStrands, Cond.code yX4_turnStrands cX4_turnStrands 4 none, Cond.methodLink RX4 46 yX4_beginPlacesAt, Cond.instanceMethod yX4_beginPlacesAt, Cond.selects RX4 yX4_beginPlacesAt yX4_beginPlacesAt, Cond.code yX4_beginPlacesAt cX4_beginPlacesAt 6 none, Cond.fieldLink RX4 15 "DiagramCode$Row" "labels" "[I", Cond.methodLink RX4 50 yX4_flipSign, Cond.instanceMethod yX4_flipSign, Cond.selects RX4 yX4_flipSign yX4_flipSign, Cond.code yX4_flipSign cX4_flipSign 2 none]
def wsX0_turnComponent : List Cond := .code yX0_turnComponent cX0_turnComponent 3 none :: ((wsX0_turnComponent_r1 ++ (wsX0_turnComponent_r2 ++ wsX0_turnComponent_r3)) ++ wsX00 ++ wsX40 ++ wsX10 ++ wsX30)
def wsX3_size : List Cond := .code yX3_size cX3_size 2 (some .int) :: ([.fieldLink RX3 21 "DiagramCode$Rounds" "size" "[I", .methodLink RX3 35 yX3_hasRound, .instanceMethod yX3_hasRound, .selects RX3 yX3_hasRound yX3_hasRound, .initialized RX3, .code yX3_hasRound cX3_hasRound 2 (some .boolean), .fieldLink RX3 28 "DiagramCode$Rounds" "count" "I"] ++ wsX30)
def wsX0_chooseNewLabels_r1 : List Cond := [Cond.fieldLink RX0 38 "DiagramCode$Chart" "components" "LDiagramCode$Rounds;", Cond.fieldLink RX0 48 "DiagramCode$Chart" "newLabels" "[I", Cond.methodLink RX0 125 yX3_count, Cond.instanceMethod yX3_count, Cond.selects RX3 yX3_count yX3_count, Cond.initialized RX3, Cond.code yX3_count cX3_count 1 (some .int), Cond.fieldLink RX3 28 "DiagramCode$Rounds" "count" "I", Cond.methodLink RX0 126 yX3_first, Cond.instanceMethod yX3_first, Cond.selects RX3 yX3_first yX3_first, Cond.code yX3_first cX3_first 2 (some .int), Cond.fieldLink RX3 18 "DiagramCode$Rounds" "first" "[I", Cond.methodLink RX3 35 yX3_hasRound, Cond.instanceMethod yX3_hasRound, Cond.selects RX3 yX3_hasRound yX3_hasRound, Cond.code yX3_hasRound cX3_hasRound 2 (some .boolean), Cond.methodLink RX0 183 yX3_size, Cond.instanceMethod yX3_size, Cond.selects RX3 yX3_size yX3_size, Cond.code yX3_size cX3_size 2 (some .int), Cond.fieldLink RX3 21 "DiagramCode$Rounds" "size" "[I", Cond.methodLink RX0 145 yX3_next, Cond.instanceMethod yX3_next]
def wsX0_chooseNewLabels_r2 : List Cond := [Cond.selects RX3 yX3_next yX3_next, Cond.code yX3_next cX3_next 2 (some .int), Cond.fieldLink RX3 9 "DiagramCode$Rounds" "next" "[I", Cond.methodLink RX3 31 yX3_hasMember, Cond.instanceMethod yX3_hasMember, Cond.selects RX3 yX3_hasMember yX3_hasMember, Cond.code yX3_hasMember cX3_hasMember 2 (some .boolean), Cond.fieldLink RX3 24 "DiagramCode$Rounds" "members" "I"]
def wsX0_chooseNewLabels : List Cond := .code yX0_chooseNewLabels cX0_chooseNewLabels 5 none :: ((wsX0_chooseNewLabels_r1 ++ wsX0_chooseNewLabels_r2) ++ wsX00 ++ wsX30)
def wsX4_setLabel : List Cond := .code yX4_setLabel cX4_setLabel 3 none :: ([.fieldLink RX4 15 "DiagramCode$Row" "labels" "[I", .methodLink RX4 26 yX4_spots, .instanceMethod yX4_spots, .selects RX4 yX4_spots yX4_spots, .initialized RX4, .code yX4_spots cX4_spots 1 (some .int), .fieldLink RX4 18 "DiagramCode$Row" "crossings" "I"] ++ wsX40)
def wsX0_labelAnew_r1 : List Cond := [Cond.fieldLink RX0 12 "DiagramCode$Chart" "row" "LDiagramCode$Row;", Cond.fieldLink RX0 21 "DiagramCode$Chart" "edges" "LDiagramCode$Edges;", Cond.fieldLink RX0 48 "DiagramCode$Chart" "newLabels" "[I", Cond.methodLink RX0 174 yX0_chooseNewLabels, Cond.instanceMethod yX0_chooseNewLabels, Cond.selects RX0 yX0_chooseNewLabels yX0_chooseNewLabels, Cond.initialized RX0, Cond.code yX0_chooseNewLabels cX0_chooseNewLabels 5 none, Cond.fieldLink RX0 38 "DiagramCode$Chart" "components" "LDiagramCode$Rounds;", Cond.methodLink RX0 125 yX3_count, Cond.instanceMethod yX3_count, Cond.selects RX3 yX3_count yX3_count, Cond.initialized RX3, Cond.code yX3_count cX3_count 1 (some .int), Cond.fieldLink RX3 28 "DiagramCode$Rounds" "count" "I", Cond.methodLink RX0 126 yX3_first, Cond.instanceMethod yX3_first, Cond.selects RX3 yX3_first yX3_first, Cond.code yX3_first cX3_first 2 (some .int), Cond.fieldLink RX3 18 "DiagramCode$Rounds" "first" "[I", Cond.methodLink RX3 35 yX3_hasRound, Cond.instanceMethod yX3_hasRound, Cond.selects RX3 yX3_hasRound yX3_hasRound, Cond.code yX3_hasRound cX3_hasRound 2 (some .boolean)]
def wsX0_labelAnew_r2 : List Cond := [Cond.methodLink RX0 183 yX3_size, Cond.instanceMethod yX3_size, Cond.selects RX3 yX3_size yX3_size, Cond.code yX3_size cX3_size 2 (some .int), Cond.fieldLink RX3 21 "DiagramCode$Rounds" "size" "[I", Cond.methodLink RX0 145 yX3_next, Cond.instanceMethod yX3_next, Cond.selects RX3 yX3_next yX3_next, Cond.code yX3_next cX3_next 2 (some .int), Cond.fieldLink RX3 9 "DiagramCode$Rounds" "next" "[I", Cond.methodLink RX3 31 yX3_hasMember, Cond.instanceMethod yX3_hasMember, Cond.selects RX3 yX3_hasMember yX3_hasMember, Cond.code yX3_hasMember cX3_hasMember 2 (some .boolean), Cond.fieldLink RX3 24 "DiagramCode$Rounds" "members" "I", Cond.methodLink RX0 177 yX4_spots, Cond.instanceMethod yX4_spots, Cond.selects RX4 yX4_spots yX4_spots, Cond.initialized RX4, Cond.code yX4_spots cX4_spots 1 (some .int), Cond.fieldLink RX4 18 "DiagramCode$Row" "crossings" "I", Cond.methodLink RX0 135 yX1_at, Cond.instanceMethod yX1_at, Cond.selects RX1 yX1_at yX1_at]
def wsX0_labelAnew_r3 : List Cond := [Cond.initialized RX1, Cond.code yX1_at cX1_at 2 (some .int), Cond.fieldLink RX1 24 "DiagramCode$Edges" "edgeAt" "[I", Cond.methodLink RX0 180 yX4_setLabel, Cond.instanceMethod yX4_setLabel, Cond.selects RX4 yX4_setLabel yX4_setLabel, Cond.code yX4_setLabel cX4_setLabel 3 none, Cond.fieldLink RX4 15 "DiagramCode$Row" "labels" "[I", Cond.methodLink RX4 26 yX4_spots]
def wsX0_labelAnew : List Cond := .code yX0_labelAnew cX0_labelAnew 3 none :: ((wsX0_labelAnew_r1 ++ (wsX0_labelAnew_r2 ++ wsX0_labelAnew_r3)) ++ wsX00 ++ wsX30 ++ wsX40 ++ wsX10)
def wsX1_label : List Cond := .code yX1_label cX1_label 2 (some .int) :: ([.fieldLink RX1 9 "DiagramCode$Edges" "labels" "[I", .methodLink RX1 31 yX1_has, .instanceMethod yX1_has, .selects RX1 yX1_has yX1_has, .initialized RX1, .code yX1_has cX1_has 2 (some .boolean), .fieldLink RX1 27 "DiagramCode$Edges" "count" "I"] ++ wsX10)
def wsX1_alternate : List Cond := .code yX1_alternate cX1_alternate 2 (some .boolean) :: ([.fieldLink RX1 27 "DiagramCode$Edges" "count" "I", .fieldLink RX1 18 "DiagramCode$Edges" "from" "[I", .fieldLink RX1 21 "DiagramCode$Edges" "to" "[I", .methodLink RX1 73 yX4_isUpper, .static yX4_isUpper, .initialized RX4, .code yX4_isUpper cX4_isUpper 1 (some .boolean)] ++ wsX10)
def wsX2_count : List Cond := .code yX2_count cX2_count 1 (some .int) :: ([.fieldLink RX2 22 "DiagramCode$Groups" "count" "I"] ++ wsX20)
def wsX3_member : List Cond := .code yX3_member cX3_member 5 (some .int) :: ([.methodLink RX3 38 yX3_first, .instanceMethod yX3_first, .selects RX3 yX3_first yX3_first, .initialized RX3, .code yX3_first cX3_first 2 (some .int), .fieldLink RX3 18 "DiagramCode$Rounds" "first" "[I", .methodLink RX3 35 yX3_hasRound, .instanceMethod yX3_hasRound, .selects RX3 yX3_hasRound yX3_hasRound, .code yX3_hasRound cX3_hasRound 2 (some .boolean), .fieldLink RX3 28 "DiagramCode$Rounds" "count" "I", .methodLink RX3 41 yX3_next, .instanceMethod yX3_next, .selects RX3 yX3_next yX3_next, .code yX3_next cX3_next 2 (some .int), .fieldLink RX3 9 "DiagramCode$Rounds" "next" "[I", .methodLink RX3 31 yX3_hasMember, .instanceMethod yX3_hasMember, .selects RX3 yX3_hasMember yX3_hasMember, .code yX3_hasMember cX3_hasMember 2 (some .boolean), .fieldLink RX3 24 "DiagramCode$Rounds" "members" "I"] ++ wsX30)
def wsX4_clear : List Cond := .code yX4_clear cX4_clear 1 none :: ([.fieldLink RX4 18 "DiagramCode$Row" "crossings" "I"] ++ wsX40)
def wsX4_append : List Cond := .code yX4_append cX4_append 7 (some .boolean) :: ([.fieldLink RX4 18 "DiagramCode$Row" "crossings" "I", .fieldLink RX4 9 "DiagramCode$Row" "signs" "[I", .fieldLink RX4 15 "DiagramCode$Row" "labels" "[I"] ++ wsX40)
def wsX4_sumOfSigns : List Cond := .code yX4_sumOfSigns cX4_sumOfSigns 3 (some .int) :: ([.fieldLink RX4 18 "DiagramCode$Row" "crossings" "I", .fieldLink RX4 9 "DiagramCode$Row" "signs" "[I"] ++ wsX40)
def wsX4_exchangeStrands : List Cond := .code yX4_exchangeStrands cX4_exchangeStrands 2 none :: ([.methodLink RX4 43 yX4_upperIn, .instanceMethod yX4_upperIn, .selects RX4 yX4_upperIn yX4_upperIn, .initialized RX4, .code yX4_upperIn cX4_upperIn 2 (some .int), .methodLink RX4 30 yX4_sign, .instanceMethod yX4_sign, .selects RX4 yX4_sign yX4_sign, .code yX4_sign cX4_sign 2 (some .int), .fieldLink RX4 9 "DiagramCode$Row" "signs" "[I", .methodLink RX4 22 yX4_has, .instanceMethod yX4_has, .selects RX4 yX4_has yX4_has, .code yX4_has cX4_has 2 (some .boolean), .fieldLink RX4 18 "DiagramCode$Row" "crossings" "I", .methodLink RX4 46 yX4_beginPlacesAt, .instanceMethod yX4_beginPlacesAt, .selects RX4 yX4_beginPlacesAt yX4_beginPlacesAt, .code yX4_beginPlacesAt cX4_beginPlacesAt 6 none, .fieldLink RX4 15 "DiagramCode$Row" "labels" "[I", .methodLink RX4 50 yX4_flipSign, .instanceMethod yX4_flipSign, .selects RX4 yX4_flipSign yX4_flipSign, .code yX4_flipSign cX4_flipSign 2 none] ++ wsX40)
def wsX4_exchangeAllStrands_r1 : List Cond := [Cond.fieldLink RX4 18 "DiagramCode$Row" "crossings" "I", Cond.methodLink RX4 54 yX4_exchangeStrands, Cond.instanceMethod yX4_exchangeStrands, Cond.selects RX4 yX4_exchangeStrands yX4_exchangeStrands, Cond.initialized RX4, Cond.code yX4_exchangeStrands cX4_exchangeStrands 2 none, Cond.methodLink RX4 43 yX4_upperIn, Cond.instanceMethod yX4_upperIn, Cond.selects RX4 yX4_upperIn yX4_upperIn, Cond.code yX4_upperIn cX4_upperIn 2 (some .int), Cond.methodLink RX4 30 yX4_sign, Cond.instanceMethod yX4_sign, Cond.selects RX4 yX4_sign yX4_sign, Cond.code yX4_sign cX4_sign 2 (some .int), Cond.fieldLink RX4 9 "DiagramCode$Row" "signs" "[I", Cond.methodLink RX4 22 yX4_has, Cond.instanceMethod yX4_has, Cond.selects RX4 yX4_has yX4_has, Cond.code yX4_has cX4_has 2 (some .boolean), Cond.methodLink RX4 46 yX4_beginPlacesAt, Cond.instanceMethod yX4_beginPlacesAt, Cond.selects RX4 yX4_beginPlacesAt yX4_beginPlacesAt, Cond.code yX4_beginPlacesAt cX4_beginPlacesAt 6 none, Cond.fieldLink RX4 15 "DiagramCode$Row" "labels" "[I"]
def wsX4_exchangeAllStrands_r2 : List Cond := [Cond.methodLink RX4 50 yX4_flipSign, Cond.instanceMethod yX4_flipSign, Cond.selects RX4 yX4_flipSign yX4_flipSign, Cond.code yX4_flipSign cX4_flipSign 2 none]
def wsX4_exchangeAllStrands : List Cond := .code yX4_exchangeAllStrands cX4_exchangeAllStrands 2 none :: ((wsX4_exchangeAllStrands_r1 ++ wsX4_exchangeAllStrands_r2) ++ wsX40)
def wsX4_joinEdges : List Cond := .code yX4_joinEdges cX4_joinEdges 6 (some .int) :: ([.methodLink RX4 70 Lib.Math.min.name, .static Lib.Math.min.name, .initialized "java/lang/Math", .code Lib.Math.min.name Lib.Math.min.code 2 (some .int), .methodLink RX4 75 Lib.Math.max.name, .static Lib.Math.max.name, .code Lib.Math.max.name Lib.Math.max.code 2 (some .int), .fieldLink RX4 15 "DiagramCode$Row" "labels" "[I", .methodLink RX4 26 yX4_spots, .instanceMethod yX4_spots, .selects RX4 yX4_spots yX4_spots, .initialized RX4, .code yX4_spots cX4_spots 1 (some .int), .fieldLink RX4 18 "DiagramCode$Row" "crossings" "I"] ++ wsX40)
def wsX4_dropCrossing : List Cond := .code yX4_dropCrossing cX4_dropCrossing 3 none :: ([.fieldLink RX4 18 "DiagramCode$Row" "crossings" "I", .fieldLink RX4 9 "DiagramCode$Row" "signs" "[I", .fieldLink RX4 15 "DiagramCode$Row" "labels" "[I", .methodLink RX4 26 yX4_spots, .instanceMethod yX4_spots, .selects RX4 yX4_spots yX4_spots, .initialized RX4, .code yX4_spots cX4_spots 1 (some .int)] ++ wsX40)
def wsX4_smoothAway_r1 : List Cond := [Cond.methodLink RX4 22 yX4_has, Cond.instanceMethod yX4_has, Cond.selects RX4 yX4_has yX4_has, Cond.initialized RX4, Cond.code yX4_has cX4_has 2 (some .boolean), Cond.fieldLink RX4 18 "DiagramCode$Row" "crossings" "I", Cond.methodLink RX4 57 yX4_lowerIn, Cond.static yX4_lowerIn, Cond.code yX4_lowerIn cX4_lowerIn 1 (some .int), Cond.methodLink RX4 60 yX4_label, Cond.instanceMethod yX4_label, Cond.selects RX4 yX4_label yX4_label, Cond.code yX4_label cX4_label 2 (some .int), Cond.fieldLink RX4 15 "DiagramCode$Row" "labels" "[I", Cond.methodLink RX4 26 yX4_spots, Cond.instanceMethod yX4_spots, Cond.selects RX4 yX4_spots yX4_spots, Cond.code yX4_spots cX4_spots 1 (some .int), Cond.methodLink RX4 37 yX4_upperOut, Cond.instanceMethod yX4_upperOut, Cond.selects RX4 yX4_upperOut yX4_upperOut, Cond.code yX4_upperOut cX4_upperOut 2 (some .int), Cond.methodLink RX4 30 yX4_sign, Cond.instanceMethod yX4_sign]
def wsX4_smoothAway_r2 : List Cond := [Cond.selects RX4 yX4_sign yX4_sign, Cond.code yX4_sign cX4_sign 2 (some .int), Cond.fieldLink RX4 9 "DiagramCode$Row" "signs" "[I", Cond.methodLink RX4 63 yX4_joinEdges, Cond.instanceMethod yX4_joinEdges, Cond.selects RX4 yX4_joinEdges yX4_joinEdges, Cond.code yX4_joinEdges cX4_joinEdges 6 (some .int), Cond.methodLink RX4 70 Lib.Math.min.name, Cond.static Lib.Math.min.name, Cond.initialized "java/lang/Math", Cond.code Lib.Math.min.name Lib.Math.min.code 2 (some .int), Cond.methodLink RX4 75 Lib.Math.max.name, Cond.static Lib.Math.max.name, Cond.code Lib.Math.max.name Lib.Math.max.code 2 (some .int), Cond.methodLink RX4 43 yX4_upperIn, Cond.instanceMethod yX4_upperIn, Cond.selects RX4 yX4_upperIn yX4_upperIn, Cond.code yX4_upperIn cX4_upperIn 2 (some .int), Cond.methodLink RX4 34 yX4_lowerOut, Cond.static yX4_lowerOut, Cond.code yX4_lowerOut cX4_lowerOut 1 (some .int), Cond.methodLink RX4 67 yX4_dropCrossing, Cond.instanceMethod yX4_dropCrossing, Cond.selects RX4 yX4_dropCrossing yX4_dropCrossing]
def wsX4_smoothAway_r3 : List Cond := [Cond.code yX4_dropCrossing cX4_dropCrossing 3 none]
def wsX4_smoothAway : List Cond := .code yX4_smoothAway cX4_smoothAway 3 (some .int) :: ((wsX4_smoothAway_r1 ++ (wsX4_smoothAway_r2 ++ wsX4_smoothAway_r3)) ++ wsX40)
def wsX5_init_r1 : List Cond := [Cond.methodLink RX5 3 objectInit, Cond.instanceMethod objectInit, Cond.code objectInit ⟨#[0xb1]⟩ 1 none, Cond.classLink RX5 9 RX0, Cond.instantiable RX0 9, Cond.initialized RX0, Cond.fieldLink RX5 12 "DiagramCode" "put" "LDiagramCode$Chart;", Cond.fieldLink RX5 16 "DiagramCode" "held" "LDiagramCode$Chart;", Cond.fieldLink RX5 19 "DiagramCode" "circles" "I", Cond.fieldLink RX5 23 "DiagramCode" "wrong" "I", Cond.instanceMethod yX0_init, Cond.code yX0_init cX0_init 1 none, Cond.methodLink RX0 3 objectInit, Cond.classLink RX0 9 RX4, Cond.instantiable RX4 3, Cond.initialized RX4, Cond.fieldLink RX0 12 "DiagramCode$Chart" "row" "LDiagramCode$Row;", Cond.classLink RX0 18 RX1, Cond.instantiable RX1 6, Cond.initialized RX1, Cond.fieldLink RX0 21 "DiagramCode$Chart" "edges" "LDiagramCode$Edges;", Cond.classLink RX0 25 RX2, Cond.instantiable RX2 4, Cond.initialized RX2]
def wsX5_init_r2 : List Cond := [Cond.fieldLink RX0 28 "DiagramCode$Chart" "pieces" "LDiagramCode$Groups;", Cond.fieldLink RX0 32 "DiagramCode$Chart" "arcs" "LDiagramCode$Groups;", Cond.classLink RX0 35 RX3, Cond.instantiable RX3 6, Cond.initialized RX3, Cond.fieldLink RX0 38 "DiagramCode$Chart" "components" "LDiagramCode$Rounds;", Cond.fieldLink RX0 42 "DiagramCode$Chart" "seifert" "LDiagramCode$Rounds;", Cond.fieldLink RX0 45 "DiagramCode$Chart" "faces" "LDiagramCode$Rounds;", Cond.arrayClass .int, Cond.fieldLink RX0 48 "DiagramCode$Chart" "newLabels" "[I", Cond.fieldLink RX0 52 "DiagramCode$Chart" "wrong" "I", Cond.instanceMethod yX4_init, Cond.code yX4_init cX4_init 1 none, Cond.methodLink RX4 3 objectInit, Cond.fieldLink RX4 9 "DiagramCode$Row" "signs" "[I", Cond.fieldLink RX4 15 "DiagramCode$Row" "labels" "[I", Cond.fieldLink RX4 18 "DiagramCode$Row" "crossings" "I", Cond.instanceMethod yX1_init, Cond.code yX1_init cX1_init 1 none, Cond.methodLink RX1 3 objectInit, Cond.fieldLink RX1 9 "DiagramCode$Edges" "labels" "[I", Cond.fieldLink RX1 15 "DiagramCode$Edges" "times" "[I", Cond.fieldLink RX1 18 "DiagramCode$Edges" "from" "[I", Cond.fieldLink RX1 21 "DiagramCode$Edges" "to" "[I"]
def wsX5_init_r3 : List Cond := [Cond.fieldLink RX1 24 "DiagramCode$Edges" "edgeAt" "[I", Cond.fieldLink RX1 27 "DiagramCode$Edges" "count" "I", Cond.instanceMethod yX2_init, Cond.code yX2_init cX2_init 1 none, Cond.methodLink RX2 3 objectInit, Cond.fieldLink RX2 9 "DiagramCode$Groups" "least" "[I", Cond.fieldLink RX2 15 "DiagramCode$Groups" "numberOf" "[I", Cond.fieldLink RX2 18 "DiagramCode$Groups" "members" "I", Cond.fieldLink RX2 22 "DiagramCode$Groups" "count" "I", Cond.instanceMethod yX3_init, Cond.code yX3_init cX3_init 1 none, Cond.methodLink RX3 3 objectInit, Cond.fieldLink RX3 9 "DiagramCode$Rounds" "next" "[I", Cond.fieldLink RX3 15 "DiagramCode$Rounds" "roundOf" "[I", Cond.fieldLink RX3 18 "DiagramCode$Rounds" "first" "[I", Cond.fieldLink RX3 21 "DiagramCode$Rounds" "size" "[I", Cond.fieldLink RX3 24 "DiagramCode$Rounds" "members" "I", Cond.fieldLink RX3 28 "DiagramCode$Rounds" "count" "I"]
def wsX5_init : List Cond := .code yX5_init cX5_init 1 none :: ((wsX5_init_r1 ++ (wsX5_init_r2 ++ wsX5_init_r3)) ++ wsX00 ++ wsX50 ++ wsX40 ++ wsX10 ++ wsX20 ++ wsX30)
def wsX5_isLabel : List Cond := .code yX5_isLabel cX5_isLabel 1 (some .boolean) :: ([])
def wsX5_crossing : List Cond := .code yX5_crossing cX5_crossing 6 (some .int) :: ([.fieldLink RX5 12 "DiagramCode" "put" "LDiagramCode$Chart;", .fieldLink RX5 30 "DiagramCode$Chart" "row" "LDiagramCode$Row;", .methodLink RX5 26 yX5_isLabel, .static yX5_isLabel, .initialized RX5, .code yX5_isLabel cX5_isLabel 1 (some .boolean), .methodLink RX5 34 yX4_append, .instanceMethod yX4_append, .selects RX4 yX4_append yX4_append, .initialized RX4, .code yX4_append cX4_append 7 (some .boolean), .fieldLink RX4 18 "DiagramCode$Row" "crossings" "I", .fieldLink RX4 9 "DiagramCode$Row" "signs" "[I", .fieldLink RX4 15 "DiagramCode$Row" "labels" "[I", .methodLink RX5 40 yX4_crossings, .instanceMethod yX4_crossings, .selects RX4 yX4_crossings yX4_crossings, .code yX4_crossings cX4_crossings 1 (some .int)] ++ wsX50 ++ wsX00 ++ wsX40)
def wsX5_check_r1 : List Cond := [Cond.fieldLink RX5 12 "DiagramCode" "put" "LDiagramCode$Chart;", Cond.fieldLink RX5 23 "DiagramCode" "wrong" "I", Cond.fieldLink RX5 16 "DiagramCode" "held" "LDiagramCode$Chart;", Cond.fieldLink RX5 19 "DiagramCode" "circles" "I", Cond.fieldLink RX5 30 "DiagramCode$Chart" "row" "LDiagramCode$Row;", Cond.methodLink RX5 44 yX0_survey, Cond.instanceMethod yX0_survey, Cond.selects RX0 yX0_survey yX0_survey, Cond.initialized RX0, Cond.code yX0_survey cX0_survey 1 (some .int), Cond.fieldLink RX0 21 "DiagramCode$Chart" "edges" "LDiagramCode$Edges;", Cond.fieldLink RX0 12 "DiagramCode$Chart" "row" "LDiagramCode$Row;", Cond.fieldLink RX0 52 "DiagramCode$Chart" "wrong" "I", Cond.methodLink RX0 56 yX1_gatherLabels, Cond.instanceMethod yX1_gatherLabels, Cond.selects RX1 yX1_gatherLabels yX1_gatherLabels, Cond.initialized RX1, Cond.code yX1_gatherLabels cX1_gatherLabels 3 (some .int), Cond.fieldLink RX1 27 "DiagramCode$Edges" "count" "I", Cond.fieldLink RX1 15 "DiagramCode$Edges" "times" "[I", Cond.fieldLink RX1 9 "DiagramCode$Edges" "labels" "[I", Cond.methodLink RX1 41 yX4_spots, Cond.instanceMethod yX4_spots, Cond.selects RX4 yX4_spots yX4_spots]
def wsX5_check_r2 : List Cond := [Cond.initialized RX4, Cond.code yX4_spots cX4_spots 1 (some .int), Cond.fieldLink RX4 18 "DiagramCode$Row" "crossings" "I", Cond.methodLink RX1 47 yX4_label, Cond.instanceMethod yX4_label, Cond.selects RX4 yX4_label yX4_label, Cond.code yX4_label cX4_label 2 (some .int), Cond.fieldLink RX4 15 "DiagramCode$Row" "labels" "[I", Cond.methodLink RX4 26 yX4_spots, Cond.methodLink RX1 50 yX1_countLabel, Cond.instanceMethod yX1_countLabel, Cond.selects RX1 yX1_countLabel yX1_countLabel, Cond.code yX1_countLabel cX1_countLabel 4 none, Cond.methodLink RX1 54 yX1_countLess, Cond.instanceMethod yX1_countLess, Cond.selects RX1 yX1_countLess yX1_countLess, Cond.code yX1_countLess cX1_countLess 3 (some .int), Cond.methodLink RX1 31 yX1_has, Cond.instanceMethod yX1_has, Cond.selects RX1 yX1_has yX1_has, Cond.code yX1_has cX1_has 2 (some .boolean), Cond.methodLink RX0 60 yX1_findEnds, Cond.instanceMethod yX1_findEnds, Cond.selects RX1 yX1_findEnds yX1_findEnds]
def wsX5_check_r3 : List Cond := [Cond.code yX1_findEnds cX1_findEnds 3 (some .int), Cond.fieldLink RX1 18 "DiagramCode$Edges" "from" "[I", Cond.fieldLink RX1 21 "DiagramCode$Edges" "to" "[I", Cond.methodLink RX1 57 yJ7_fill_53178, Cond.static yJ7_fill_53178, Cond.initialized RJ7, Cond.code yJ7_fill_53178 cJ7_fill_53178 4 none, Cond.methodLink RX1 63 yX1_rank, Cond.instanceMethod yX1_rank, Cond.selects RX1 yX1_rank yX1_rank, Cond.code yX1_rank cX1_rank 3 (some .int), Cond.methodLink RX1 66 yX4_goesOut, Cond.instanceMethod yX4_goesOut, Cond.selects RX4 yX4_goesOut yX4_goesOut, Cond.code yX4_goesOut cX4_goesOut 3 (some .boolean), Cond.methodLink RX4 34 yX4_lowerOut, Cond.static yX4_lowerOut, Cond.code yX4_lowerOut cX4_lowerOut 1 (some .int), Cond.methodLink RX4 37 yX4_upperOut, Cond.instanceMethod yX4_upperOut, Cond.selects RX4 yX4_upperOut yX4_upperOut, Cond.code yX4_upperOut cX4_upperOut 2 (some .int), Cond.methodLink RX4 30 yX4_sign, Cond.instanceMethod yX4_sign]
def wsX5_check_r4 : List Cond := [Cond.selects RX4 yX4_sign yX4_sign, Cond.code yX4_sign cX4_sign 2 (some .int), Cond.fieldLink RX4 9 "DiagramCode$Row" "signs" "[I", Cond.methodLink RX4 22 yX4_has, Cond.instanceMethod yX4_has, Cond.selects RX4 yX4_has yX4_has, Cond.code yX4_has cX4_has 2 (some .boolean), Cond.methodLink RX1 69 yX1_noteEnd, Cond.instanceMethod yX1_noteEnd, Cond.selects RX1 yX1_noteEnd yX1_noteEnd, Cond.code yX1_noteEnd cX1_noteEnd 4 none, Cond.fieldLink RX1 24 "DiagramCode$Edges" "edgeAt" "[I", Cond.methodLink RX0 63 yX0_groupPieces, Cond.instanceMethod yX0_groupPieces, Cond.selects RX0 yX0_groupPieces yX0_groupPieces, Cond.code yX0_groupPieces cX0_groupPieces 2 none, Cond.fieldLink RX0 28 "DiagramCode$Chart" "pieces" "LDiagramCode$Groups;", Cond.methodLink RX0 79 yX4_crossings, Cond.instanceMethod yX4_crossings, Cond.selects RX4 yX4_crossings yX4_crossings, Cond.code yX4_crossings cX4_crossings 1 (some .int), Cond.methodLink RX0 82 yX2_begin, Cond.instanceMethod yX2_begin, Cond.selects RX2 yX2_begin yX2_begin]
def wsX5_check_r5 : List Cond := [Cond.initialized RX2, Cond.code yX2_begin cX2_begin 3 none, Cond.methodLink RX2 29 Lib.Math.min.name, Cond.static Lib.Math.min.name, Cond.initialized "java/lang/Math", Cond.code Lib.Math.min.name Lib.Math.min.code 2 (some .int), Cond.fieldLink RX2 18 "DiagramCode$Groups" "members" "I", Cond.fieldLink RX2 9 "DiagramCode$Groups" "least" "[I", Cond.methodLink RX0 86 yX1_count, Cond.instanceMethod yX1_count, Cond.selects RX1 yX1_count yX1_count, Cond.code yX1_count cX1_count 1 (some .int), Cond.methodLink RX0 89 yX1_from, Cond.instanceMethod yX1_from, Cond.selects RX1 yX1_from yX1_from, Cond.code yX1_from cX1_from 2 (some .int), Cond.methodLink RX0 93 yX1_to, Cond.instanceMethod yX1_to, Cond.selects RX1 yX1_to yX1_to, Cond.code yX1_to cX1_to 2 (some .int), Cond.methodLink RX0 96 yX2_join, Cond.instanceMethod yX2_join, Cond.selects RX2 yX2_join yX2_join, Cond.code yX2_join cX2_join 6 none]
def wsX5_check_r6 : List Cond := [Cond.methodLink RX2 38 Lib.Math.max.name, Cond.static Lib.Math.max.name, Cond.code Lib.Math.max.name Lib.Math.max.code 2 (some .int), Cond.methodLink RX2 35 yX2_least, Cond.instanceMethod yX2_least, Cond.selects RX2 yX2_least yX2_least, Cond.code yX2_least cX2_least 2 (some .int), Cond.methodLink RX2 25 yX2_hasMember, Cond.instanceMethod yX2_hasMember, Cond.selects RX2 yX2_hasMember yX2_hasMember, Cond.code yX2_hasMember cX2_hasMember 2 (some .boolean), Cond.methodLink RX0 100 yX2_numberGroups, Cond.instanceMethod yX2_numberGroups, Cond.selects RX2 yX2_numberGroups yX2_numberGroups, Cond.code yX2_numberGroups cX2_numberGroups 2 none, Cond.fieldLink RX2 22 "DiagramCode$Groups" "count" "I", Cond.fieldLink RX2 15 "DiagramCode$Groups" "numberOf" "[I", Cond.methodLink RX2 41 yX2_numberOf, Cond.instanceMethod yX2_numberOf, Cond.selects RX2 yX2_numberOf yX2_numberOf, Cond.code yX2_numberOf cX2_numberOf 2 (some .int), Cond.methodLink RX0 66 yX0_traceFaces, Cond.instanceMethod yX0_traceFaces, Cond.selects RX0 yX0_traceFaces yX0_traceFaces]
def wsX5_check_r7 : List Cond := [Cond.code yX0_traceFaces cX0_traceFaces 2 none, Cond.fieldLink RX0 45 "DiagramCode$Chart" "faces" "LDiagramCode$Rounds;", Cond.methodLink RX0 103 yX3_begin, Cond.instanceMethod yX3_begin, Cond.selects RX3 yX3_begin yX3_begin, Cond.initialized RX3, Cond.code yX3_begin cX3_begin 2 none, Cond.methodLink RX3 43 Lib.Math.min.name, Cond.fieldLink RX3 24 "DiagramCode$Rounds" "members" "I", Cond.fieldLink RX3 28 "DiagramCode$Rounds" "count" "I", Cond.methodLink RX0 104 yX4_beside, Cond.static yX4_beside, Cond.code yX4_beside cX4_beside 1 (some .int), Cond.methodLink RX0 107 yX1_dartFrom, Cond.instanceMethod yX1_dartFrom, Cond.selects RX1 yX1_dartFrom yX1_dartFrom, Cond.code yX1_dartFrom cX1_dartFrom 3 (some .int), Cond.methodLink RX1 35 yX1_at, Cond.instanceMethod yX1_at, Cond.selects RX1 yX1_at yX1_at, Cond.code yX1_at cX1_at 2 (some .int), Cond.methodLink RX1 39 yX1_from, Cond.methodLink RX0 110 yX3_link, Cond.instanceMethod yX3_link]
def wsX5_check_r8 : List Cond := [Cond.selects RX3 yX3_link yX3_link, Cond.code yX3_link cX3_link 3 none, Cond.fieldLink RX3 9 "DiagramCode$Rounds" "next" "[I", Cond.methodLink RX3 31 yX3_hasMember, Cond.instanceMethod yX3_hasMember, Cond.selects RX3 yX3_hasMember yX3_hasMember, Cond.code yX3_hasMember cX3_hasMember 2 (some .boolean), Cond.methodLink RX0 113 yX3_trace, Cond.instanceMethod yX3_trace, Cond.selects RX3 yX3_trace yX3_trace, Cond.code yX3_trace cX3_trace 2 none, Cond.fieldLink RX3 15 "DiagramCode$Rounds" "roundOf" "[I", Cond.methodLink RX3 49 yJ7_fill_53178, Cond.methodLink RX3 55 yX3_walk, Cond.instanceMethod yX3_walk, Cond.selects RX3 yX3_walk yX3_walk, Cond.code yX3_walk cX3_walk 4 none, Cond.fieldLink RX3 18 "DiagramCode$Rounds" "first" "[I", Cond.fieldLink RX3 21 "DiagramCode$Rounds" "size" "[I", Cond.methodLink RX0 69 yX0_leastCrossingOnNoSphere, Cond.instanceMethod yX0_leastCrossingOnNoSphere, Cond.selects RX0 yX0_leastCrossingOnNoSphere yX0_leastCrossingOnNoSphere, Cond.code yX0_leastCrossingOnNoSphere cX0_leastCrossingOnNoSphere 2 (some .int), Cond.methodLink RX0 116 yX2_least]
def wsX5_check_r9 : List Cond := [Cond.methodLink RX0 119 yX2_numberOf, Cond.methodLink RX0 122 yX0_facesLessCrossings, Cond.instanceMethod yX0_facesLessCrossings, Cond.selects RX0 yX0_facesLessCrossings yX0_facesLessCrossings, Cond.code yX0_facesLessCrossings cX0_facesLessCrossings 4 (some .int), Cond.methodLink RX0 125 yX3_count, Cond.instanceMethod yX3_count, Cond.selects RX3 yX3_count yX3_count, Cond.code yX3_count cX3_count 1 (some .int), Cond.methodLink RX0 126 yX3_first, Cond.instanceMethod yX3_first, Cond.selects RX3 yX3_first yX3_first, Cond.code yX3_first cX3_first 2 (some .int), Cond.methodLink RX3 35 yX3_hasRound, Cond.instanceMethod yX3_hasRound, Cond.selects RX3 yX3_hasRound yX3_hasRound, Cond.code yX3_hasRound cX3_hasRound 2 (some .boolean), Cond.methodLink RX0 129 yX0_pieceOfEdge, Cond.instanceMethod yX0_pieceOfEdge, Cond.selects RX0 yX0_pieceOfEdge yX0_pieceOfEdge, Cond.code yX0_pieceOfEdge cX0_pieceOfEdge 2 (some .int), Cond.methodLink RX0 73 yX0_traceStrands, Cond.instanceMethod yX0_traceStrands, Cond.selects RX0 yX0_traceStrands yX0_traceStrands]
def wsX5_check_r10 : List Cond := [Cond.code yX0_traceStrands cX0_traceStrands 2 none, Cond.fieldLink RX0 38 "DiagramCode$Chart" "components" "LDiagramCode$Rounds;", Cond.fieldLink RX0 42 "DiagramCode$Chart" "seifert" "LDiagramCode$Rounds;", Cond.methodLink RX0 132 yX4_across, Cond.static yX4_across, Cond.code yX4_across cX4_across 1 (some .int), Cond.methodLink RX0 135 yX1_at, Cond.methodLink RX0 138 yX4_seifertOut, Cond.instanceMethod yX4_seifertOut, Cond.selects RX4 yX4_seifertOut yX4_seifertOut, Cond.code yX4_seifertOut cX4_seifertOut 3 (some .int), Cond.methodLink RX4 40 yX4_isUpper, Cond.static yX4_isUpper, Cond.code yX4_isUpper cX4_isUpper 1 (some .boolean), Cond.methodLink RX0 76 yX0_groupArcs, Cond.instanceMethod yX0_groupArcs, Cond.selects RX0 yX0_groupArcs yX0_groupArcs, Cond.code yX0_groupArcs cX0_groupArcs 2 none, Cond.fieldLink RX0 32 "DiagramCode$Chart" "arcs" "LDiagramCode$Groups;", Cond.methodLink RX0 141 yX4_isUpper, Cond.methodLink RX0 145 yX3_next, Cond.instanceMethod yX3_next, Cond.selects RX3 yX3_next yX3_next, Cond.code yX3_next cX3_next 2 (some .int)]
def wsX5_check_r11 : List Cond := [Cond.methodLink RX5 47 yX0_wrong, Cond.instanceMethod yX0_wrong, Cond.selects RX0 yX0_wrong yX0_wrong, Cond.code yX0_wrong cX0_wrong 1 (some .int), Cond.methodLink RX5 49 yX4_clear, Cond.instanceMethod yX4_clear, Cond.selects RX4 yX4_clear yX4_clear, Cond.code yX4_clear cX4_clear 1 none]
def wsX5_check : List Cond := .code yX5_check cX5_check 4 (some .int) :: ((wsX5_check_r1 ++ (wsX5_check_r2 ++ (wsX5_check_r3 ++ (wsX5_check_r4 ++ (wsX5_check_r5 ++ (wsX5_check_r6 ++ (wsX5_check_r7 ++ (wsX5_check_r8 ++ (wsX5_check_r9 ++ (wsX5_check_r10 ++ wsX5_check_r11)))))))))) ++ wsX50 ++ wsX00 ++ wsX10 ++ wsX40 ++ wsX20 ++ wsX30)
def wsX5_which : List Cond := .code yX5_which cX5_which 1 (some .int) :: ([.fieldLink RX5 23 "DiagramCode" "wrong" "I"] ++ wsX50)
def wsX5_many_r1 : List Cond := [Cond.fieldLink RX5 16 "DiagramCode" "held" "LDiagramCode$Chart;", Cond.fieldLink RX5 30 "DiagramCode$Chart" "row" "LDiagramCode$Row;", Cond.fieldLink RX5 52 "DiagramCode$Chart" "edges" "LDiagramCode$Edges;", Cond.fieldLink RX5 61 "DiagramCode$Chart" "components" "LDiagramCode$Rounds;", Cond.fieldLink RX5 19 "DiagramCode" "circles" "I", Cond.fieldLink RX5 68 "DiagramCode$Chart" "pieces" "LDiagramCode$Groups;", Cond.fieldLink RX5 78 "DiagramCode$Chart" "faces" "LDiagramCode$Rounds;", Cond.fieldLink RX5 81 "DiagramCode$Chart" "arcs" "LDiagramCode$Groups;", Cond.fieldLink RX5 84 "DiagramCode$Chart" "seifert" "LDiagramCode$Rounds;", Cond.fieldLink RX5 12 "DiagramCode" "put" "LDiagramCode$Chart;", Cond.methodLink RX5 40 yX4_crossings, Cond.instanceMethod yX4_crossings, Cond.selects RX4 yX4_crossings yX4_crossings, Cond.initialized RX4, Cond.code yX4_crossings cX4_crossings 1 (some .int), Cond.fieldLink RX4 18 "DiagramCode$Row" "crossings" "I", Cond.methodLink RX5 56 yX1_count, Cond.instanceMethod yX1_count, Cond.selects RX1 yX1_count yX1_count, Cond.initialized RX1, Cond.code yX1_count cX1_count 1 (some .int), Cond.fieldLink RX1 27 "DiagramCode$Edges" "count" "I", Cond.methodLink RX5 65 yX3_count, Cond.instanceMethod yX3_count]
def wsX5_many_r2 : List Cond := [Cond.selects RX3 yX3_count yX3_count, Cond.initialized RX3, Cond.code yX3_count cX3_count 1 (some .int), Cond.fieldLink RX3 28 "DiagramCode$Rounds" "count" "I", Cond.methodLink RX5 72 yX2_count, Cond.instanceMethod yX2_count, Cond.selects RX2 yX2_count yX2_count, Cond.initialized RX2, Cond.code yX2_count cX2_count 1 (some .int), Cond.fieldLink RX2 22 "DiagramCode$Groups" "count" "I", Cond.methodLink RX5 75 yX4_sumOfSigns, Cond.instanceMethod yX4_sumOfSigns, Cond.selects RX4 yX4_sumOfSigns yX4_sumOfSigns, Cond.code yX4_sumOfSigns cX4_sumOfSigns 3 (some .int), Cond.fieldLink RX4 9 "DiagramCode$Row" "signs" "[I", Cond.methodLink RX5 87 yX1_alternate, Cond.instanceMethod yX1_alternate, Cond.selects RX1 yX1_alternate yX1_alternate, Cond.code yX1_alternate cX1_alternate 2 (some .boolean), Cond.fieldLink RX1 18 "DiagramCode$Edges" "from" "[I", Cond.fieldLink RX1 21 "DiagramCode$Edges" "to" "[I", Cond.methodLink RX1 73 yX4_isUpper, Cond.static yX4_isUpper, Cond.code yX4_isUpper cX4_isUpper 1 (some .boolean)]
def wsX5_many : List Cond := .code yX5_many cX5_many 2 (some .int) :: ((wsX5_many_r1 ++ wsX5_many_r2) ++ wsX50 ++ wsX00 ++ wsX40 ++ wsX10 ++ wsX30 ++ wsX20)
def wsX5_look_r1 : List Cond := [Cond.fieldLink RX5 16 "DiagramCode" "held" "LDiagramCode$Chart;", Cond.fieldLink RX5 30 "DiagramCode$Chart" "row" "LDiagramCode$Row;", Cond.fieldLink RX5 68 "DiagramCode$Chart" "pieces" "LDiagramCode$Groups;", Cond.methodLink RX5 91 yX4_has, Cond.instanceMethod yX4_has, Cond.selects RX4 yX4_has yX4_has, Cond.initialized RX4, Cond.code yX4_has cX4_has 2 (some .boolean), Cond.fieldLink RX4 18 "DiagramCode$Row" "crossings" "I", Cond.methodLink RX5 94 yX4_label, Cond.instanceMethod yX4_label, Cond.selects RX4 yX4_label yX4_label, Cond.code yX4_label cX4_label 2 (some .int), Cond.fieldLink RX4 15 "DiagramCode$Row" "labels" "[I", Cond.methodLink RX4 26 yX4_spots, Cond.instanceMethod yX4_spots, Cond.selects RX4 yX4_spots yX4_spots, Cond.code yX4_spots cX4_spots 1 (some .int), Cond.methodLink RX5 98 yX4_sign, Cond.instanceMethod yX4_sign, Cond.selects RX4 yX4_sign yX4_sign, Cond.code yX4_sign cX4_sign 2 (some .int), Cond.fieldLink RX4 9 "DiagramCode$Row" "signs" "[I", Cond.methodLink RX4 22 yX4_has]
def wsX5_look_r2 : List Cond := [Cond.methodLink RX5 101 yX2_numberOf, Cond.instanceMethod yX2_numberOf, Cond.selects RX2 yX2_numberOf yX2_numberOf, Cond.initialized RX2, Cond.code yX2_numberOf cX2_numberOf 2 (some .int), Cond.fieldLink RX2 15 "DiagramCode$Groups" "numberOf" "[I", Cond.methodLink RX2 25 yX2_hasMember, Cond.instanceMethod yX2_hasMember, Cond.selects RX2 yX2_hasMember yX2_hasMember, Cond.code yX2_hasMember cX2_hasMember 2 (some .boolean), Cond.fieldLink RX2 18 "DiagramCode$Groups" "members" "I", Cond.methodLink RX5 104 yX0_lowerComponent, Cond.instanceMethod yX0_lowerComponent, Cond.selects RX0 yX0_lowerComponent yX0_lowerComponent, Cond.initialized RX0, Cond.code yX0_lowerComponent cX0_lowerComponent 2 (some .int), Cond.fieldLink RX0 38 "DiagramCode$Chart" "components" "LDiagramCode$Rounds;", Cond.fieldLink RX0 21 "DiagramCode$Chart" "edges" "LDiagramCode$Edges;", Cond.methodLink RX0 148 yX4_lowerIn, Cond.static yX4_lowerIn, Cond.code yX4_lowerIn cX4_lowerIn 1 (some .int), Cond.methodLink RX0 135 yX1_at, Cond.instanceMethod yX1_at, Cond.selects RX1 yX1_at yX1_at]
def wsX5_look_r3 : List Cond := [Cond.initialized RX1, Cond.code yX1_at cX1_at 2 (some .int), Cond.fieldLink RX1 24 "DiagramCode$Edges" "edgeAt" "[I", Cond.methodLink RX0 151 yX3_roundOf, Cond.instanceMethod yX3_roundOf, Cond.selects RX3 yX3_roundOf yX3_roundOf, Cond.initialized RX3, Cond.code yX3_roundOf cX3_roundOf 2 (some .int), Cond.fieldLink RX3 15 "DiagramCode$Rounds" "roundOf" "[I", Cond.methodLink RX3 31 yX3_hasMember, Cond.instanceMethod yX3_hasMember, Cond.selects RX3 yX3_hasMember yX3_hasMember, Cond.code yX3_hasMember cX3_hasMember 2 (some .boolean), Cond.fieldLink RX3 24 "DiagramCode$Rounds" "members" "I", Cond.methodLink RX5 107 yX0_upperComponent, Cond.instanceMethod yX0_upperComponent, Cond.selects RX0 yX0_upperComponent yX0_upperComponent, Cond.code yX0_upperComponent cX0_upperComponent 2 (some .int), Cond.fieldLink RX0 12 "DiagramCode$Chart" "row" "LDiagramCode$Row;", Cond.methodLink RX0 154 yX4_upperIn, Cond.instanceMethod yX4_upperIn, Cond.selects RX4 yX4_upperIn yX4_upperIn, Cond.code yX4_upperIn cX4_upperIn 2 (some .int), Cond.methodLink RX4 30 yX4_sign]
def wsX5_look : List Cond := .code yX5_look cX5_look 3 (some .int) :: ((wsX5_look_r1 ++ (wsX5_look_r2 ++ wsX5_look_r3)) ++ wsX50 ++ wsX00 ++ wsX40 ++ wsX20 ++ wsX10 ++ wsX30)
def wsX5_edge_r1 : List Cond := [Cond.fieldLink RX5 16 "DiagramCode" "held" "LDiagramCode$Chart;", Cond.fieldLink RX5 52 "DiagramCode$Chart" "edges" "LDiagramCode$Edges;", Cond.fieldLink RX5 61 "DiagramCode$Chart" "components" "LDiagramCode$Rounds;", Cond.fieldLink RX5 78 "DiagramCode$Chart" "faces" "LDiagramCode$Rounds;", Cond.fieldLink RX5 81 "DiagramCode$Chart" "arcs" "LDiagramCode$Groups;", Cond.methodLink RX5 110 yX1_rank, Cond.instanceMethod yX1_rank, Cond.selects RX1 yX1_rank yX1_rank, Cond.initialized RX1, Cond.code yX1_rank cX1_rank 3 (some .int), Cond.fieldLink RX1 9 "DiagramCode$Edges" "labels" "[I", Cond.methodLink RX1 54 yX1_countLess, Cond.instanceMethod yX1_countLess, Cond.selects RX1 yX1_countLess yX1_countLess, Cond.code yX1_countLess cX1_countLess 3 (some .int), Cond.fieldLink RX1 27 "DiagramCode$Edges" "count" "I", Cond.methodLink RX1 31 yX1_has, Cond.instanceMethod yX1_has, Cond.selects RX1 yX1_has yX1_has, Cond.code yX1_has cX1_has 2 (some .boolean), Cond.methodLink RX5 113 yX1_from, Cond.instanceMethod yX1_from, Cond.selects RX1 yX1_from yX1_from, Cond.code yX1_from cX1_from 2 (some .int)]
def wsX5_edge_r2 : List Cond := [Cond.fieldLink RX1 18 "DiagramCode$Edges" "from" "[I", Cond.methodLink RX5 116 yX1_to, Cond.instanceMethod yX1_to, Cond.selects RX1 yX1_to yX1_to, Cond.code yX1_to cX1_to 2 (some .int), Cond.fieldLink RX1 21 "DiagramCode$Edges" "to" "[I", Cond.methodLink RX5 119 yX3_next, Cond.instanceMethod yX3_next, Cond.selects RX3 yX3_next yX3_next, Cond.initialized RX3, Cond.code yX3_next cX3_next 2 (some .int), Cond.fieldLink RX3 9 "DiagramCode$Rounds" "next" "[I", Cond.methodLink RX3 31 yX3_hasMember, Cond.instanceMethod yX3_hasMember, Cond.selects RX3 yX3_hasMember yX3_hasMember, Cond.code yX3_hasMember cX3_hasMember 2 (some .boolean), Cond.fieldLink RX3 24 "DiagramCode$Rounds" "members" "I", Cond.methodLink RX5 122 yX1_label, Cond.instanceMethod yX1_label, Cond.selects RX1 yX1_label yX1_label, Cond.code yX1_label cX1_label 2 (some .int), Cond.methodLink RX5 123 yX3_roundOf, Cond.instanceMethod yX3_roundOf, Cond.selects RX3 yX3_roundOf yX3_roundOf]
def wsX5_edge_r3 : List Cond := [Cond.code yX3_roundOf cX3_roundOf 2 (some .int), Cond.fieldLink RX3 15 "DiagramCode$Rounds" "roundOf" "[I", Cond.methodLink RX5 126 yX2_least, Cond.instanceMethod yX2_least, Cond.selects RX2 yX2_least yX2_least, Cond.initialized RX2, Cond.code yX2_least cX2_least 2 (some .int), Cond.fieldLink RX2 9 "DiagramCode$Groups" "least" "[I", Cond.methodLink RX2 25 yX2_hasMember, Cond.instanceMethod yX2_hasMember, Cond.selects RX2 yX2_hasMember yX2_hasMember, Cond.code yX2_hasMember cX2_hasMember 2 (some .boolean), Cond.fieldLink RX2 18 "DiagramCode$Groups" "members" "I"]
def wsX5_edge : List Cond := .code yX5_edge cX5_edge 5 (some .int) :: ((wsX5_edge_r1 ++ (wsX5_edge_r2 ++ wsX5_edge_r3)) ++ wsX50 ++ wsX00 ++ wsX10 ++ wsX30 ++ wsX20)
def wsX5_hasComponent : List Cond := .code yX5_hasComponent cX5_hasComponent 2 (some .boolean) :: ([.fieldLink RX5 16 "DiagramCode" "held" "LDiagramCode$Chart;", .fieldLink RX5 61 "DiagramCode$Chart" "components" "LDiagramCode$Rounds;", .fieldLink RX5 19 "DiagramCode" "circles" "I", .methodLink RX5 65 yX3_count, .instanceMethod yX3_count, .selects RX3 yX3_count yX3_count, .initialized RX3, .code yX3_count cX3_count 1 (some .int), .fieldLink RX3 28 "DiagramCode$Rounds" "count" "I"] ++ wsX50 ++ wsX00 ++ wsX30)
def wsX5_tellCircle : List Cond := .code yX5_tellCircle cX5_tellCircle 3 (some .int) :: ([.fieldLink RX5 16 "DiagramCode" "held" "LDiagramCode$Chart;", .fieldLink RX5 68 "DiagramCode$Chart" "pieces" "LDiagramCode$Groups;", .methodLink RX5 72 yX2_count, .instanceMethod yX2_count, .selects RX2 yX2_count yX2_count, .initialized RX2, .code yX2_count cX2_count 1 (some .int), .fieldLink RX2 22 "DiagramCode$Groups" "count" "I"] ++ wsX50 ++ wsX00 ++ wsX20)
def wsX5_component_r1 : List Cond := [Cond.fieldLink RX5 16 "DiagramCode" "held" "LDiagramCode$Chart;", Cond.fieldLink RX5 61 "DiagramCode$Chart" "components" "LDiagramCode$Rounds;", Cond.fieldLink RX5 52 "DiagramCode$Chart" "edges" "LDiagramCode$Edges;", Cond.methodLink RX5 129 yX5_hasComponent, Cond.instanceMethod yX5_hasComponent, Cond.selects RX5 yX5_hasComponent yX5_hasComponent, Cond.initialized RX5, Cond.code yX5_hasComponent cX5_hasComponent 2 (some .boolean), Cond.fieldLink RX5 19 "DiagramCode" "circles" "I", Cond.methodLink RX5 65 yX3_count, Cond.instanceMethod yX3_count, Cond.selects RX3 yX3_count yX3_count, Cond.initialized RX3, Cond.code yX3_count cX3_count 1 (some .int), Cond.fieldLink RX3 28 "DiagramCode$Rounds" "count" "I", Cond.methodLink RX5 132 yX0_linking, Cond.instanceMethod yX0_linking, Cond.selects RX0 yX0_linking yX0_linking, Cond.initialized RX0, Cond.code yX0_linking cX0_linking 3 (some .int), Cond.methodLink RX0 157 yX0_sumOfSignsUnder, Cond.instanceMethod yX0_sumOfSignsUnder, Cond.selects RX0 yX0_sumOfSignsUnder yX0_sumOfSignsUnder, Cond.code yX0_sumOfSignsUnder cX0_sumOfSignsUnder 5 (some .int)]
def wsX5_component_r2 : List Cond := [Cond.fieldLink RX0 12 "DiagramCode$Chart" "row" "LDiagramCode$Row;", Cond.methodLink RX0 79 yX4_crossings, Cond.instanceMethod yX4_crossings, Cond.selects RX4 yX4_crossings yX4_crossings, Cond.initialized RX4, Cond.code yX4_crossings cX4_crossings 1 (some .int), Cond.fieldLink RX4 18 "DiagramCode$Row" "crossings" "I", Cond.methodLink RX0 161 yX0_lowerComponent, Cond.instanceMethod yX0_lowerComponent, Cond.selects RX0 yX0_lowerComponent yX0_lowerComponent, Cond.code yX0_lowerComponent cX0_lowerComponent 2 (some .int), Cond.fieldLink RX0 38 "DiagramCode$Chart" "components" "LDiagramCode$Rounds;", Cond.fieldLink RX0 21 "DiagramCode$Chart" "edges" "LDiagramCode$Edges;", Cond.methodLink RX0 148 yX4_lowerIn, Cond.static yX4_lowerIn, Cond.code yX4_lowerIn cX4_lowerIn 1 (some .int), Cond.methodLink RX0 135 yX1_at, Cond.instanceMethod yX1_at, Cond.selects RX1 yX1_at yX1_at, Cond.initialized RX1, Cond.code yX1_at cX1_at 2 (some .int), Cond.fieldLink RX1 24 "DiagramCode$Edges" "edgeAt" "[I", Cond.methodLink RX0 151 yX3_roundOf, Cond.instanceMethod yX3_roundOf]
def wsX5_component_r3 : List Cond := [Cond.selects RX3 yX3_roundOf yX3_roundOf, Cond.code yX3_roundOf cX3_roundOf 2 (some .int), Cond.fieldLink RX3 15 "DiagramCode$Rounds" "roundOf" "[I", Cond.methodLink RX3 31 yX3_hasMember, Cond.instanceMethod yX3_hasMember, Cond.selects RX3 yX3_hasMember yX3_hasMember, Cond.code yX3_hasMember cX3_hasMember 2 (some .boolean), Cond.fieldLink RX3 24 "DiagramCode$Rounds" "members" "I", Cond.methodLink RX0 164 yX0_upperComponent, Cond.instanceMethod yX0_upperComponent, Cond.selects RX0 yX0_upperComponent yX0_upperComponent, Cond.code yX0_upperComponent cX0_upperComponent 2 (some .int), Cond.methodLink RX0 154 yX4_upperIn, Cond.instanceMethod yX4_upperIn, Cond.selects RX4 yX4_upperIn yX4_upperIn, Cond.code yX4_upperIn cX4_upperIn 2 (some .int), Cond.methodLink RX4 30 yX4_sign, Cond.instanceMethod yX4_sign, Cond.selects RX4 yX4_sign yX4_sign, Cond.code yX4_sign cX4_sign 2 (some .int), Cond.fieldLink RX4 9 "DiagramCode$Row" "signs" "[I", Cond.methodLink RX4 22 yX4_has, Cond.instanceMethod yX4_has, Cond.selects RX4 yX4_has yX4_has]
def wsX5_component_r4 : List Cond := [Cond.code yX4_has cX4_has 2 (some .boolean), Cond.methodLink RX0 167 yX4_sign, Cond.methodLink RX5 136 yX5_tellCircle, Cond.instanceMethod yX5_tellCircle, Cond.selects RX5 yX5_tellCircle yX5_tellCircle, Cond.code yX5_tellCircle cX5_tellCircle 3 (some .int), Cond.fieldLink RX5 68 "DiagramCode$Chart" "pieces" "LDiagramCode$Groups;", Cond.methodLink RX5 72 yX2_count, Cond.instanceMethod yX2_count, Cond.selects RX2 yX2_count yX2_count, Cond.initialized RX2, Cond.code yX2_count cX2_count 1 (some .int), Cond.fieldLink RX2 22 "DiagramCode$Groups" "count" "I", Cond.methodLink RX5 139 yX3_first, Cond.instanceMethod yX3_first, Cond.selects RX3 yX3_first yX3_first, Cond.code yX3_first cX3_first 2 (some .int), Cond.fieldLink RX3 18 "DiagramCode$Rounds" "first" "[I", Cond.methodLink RX3 35 yX3_hasRound, Cond.instanceMethod yX3_hasRound, Cond.selects RX3 yX3_hasRound yX3_hasRound, Cond.code yX3_hasRound cX3_hasRound 2 (some .boolean), Cond.methodLink RX5 122 yX1_label, Cond.instanceMethod yX1_label]
def wsX5_component_r5 : List Cond := [Cond.selects RX1 yX1_label yX1_label, Cond.code yX1_label cX1_label 2 (some .int), Cond.fieldLink RX1 9 "DiagramCode$Edges" "labels" "[I", Cond.methodLink RX1 31 yX1_has, Cond.instanceMethod yX1_has, Cond.selects RX1 yX1_has yX1_has, Cond.code yX1_has cX1_has 2 (some .boolean), Cond.fieldLink RX1 27 "DiagramCode$Edges" "count" "I", Cond.methodLink RX5 142 yX3_size, Cond.instanceMethod yX3_size, Cond.selects RX3 yX3_size yX3_size, Cond.code yX3_size cX3_size 2 (some .int), Cond.fieldLink RX3 21 "DiagramCode$Rounds" "size" "[I", Cond.methodLink RX5 145 yX0_sumOfOwnSigns, Cond.instanceMethod yX0_sumOfOwnSigns, Cond.selects RX0 yX0_sumOfOwnSigns yX0_sumOfOwnSigns, Cond.code yX0_sumOfOwnSigns cX0_sumOfOwnSigns 2 (some .int), Cond.methodLink RX5 148 yX0_pieceOfComponent, Cond.instanceMethod yX0_pieceOfComponent, Cond.selects RX0 yX0_pieceOfComponent yX0_pieceOfComponent, Cond.code yX0_pieceOfComponent cX0_pieceOfComponent 2 (some .int), Cond.methodLink RX0 126 yX3_first, Cond.methodLink RX0 129 yX0_pieceOfEdge, Cond.instanceMethod yX0_pieceOfEdge]
def wsX5_component_r6 : List Cond := [Cond.selects RX0 yX0_pieceOfEdge yX0_pieceOfEdge, Cond.code yX0_pieceOfEdge cX0_pieceOfEdge 2 (some .int), Cond.fieldLink RX0 28 "DiagramCode$Chart" "pieces" "LDiagramCode$Groups;", Cond.methodLink RX0 93 yX1_to, Cond.instanceMethod yX1_to, Cond.selects RX1 yX1_to yX1_to, Cond.code yX1_to cX1_to 2 (some .int), Cond.fieldLink RX1 21 "DiagramCode$Edges" "to" "[I", Cond.methodLink RX0 119 yX2_numberOf, Cond.instanceMethod yX2_numberOf, Cond.selects RX2 yX2_numberOf yX2_numberOf, Cond.code yX2_numberOf cX2_numberOf 2 (some .int), Cond.fieldLink RX2 15 "DiagramCode$Groups" "numberOf" "[I", Cond.methodLink RX2 25 yX2_hasMember, Cond.instanceMethod yX2_hasMember, Cond.selects RX2 yX2_hasMember yX2_hasMember, Cond.code yX2_hasMember cX2_hasMember 2 (some .boolean), Cond.fieldLink RX2 18 "DiagramCode$Groups" "members" "I"]
def wsX5_component : List Cond := .code yX5_component cX5_component 4 (some .int) :: ((wsX5_component_r1 ++ (wsX5_component_r2 ++ (wsX5_component_r3 ++ (wsX5_component_r4 ++ (wsX5_component_r5 ++ wsX5_component_r6))))) ++ wsX50 ++ wsX00 ++ wsX30 ++ wsX40 ++ wsX10 ++ wsX20)
def wsX5_face_r1 : List Cond := [Cond.fieldLink RX5 16 "DiagramCode" "held" "LDiagramCode$Chart;", Cond.fieldLink RX5 78 "DiagramCode$Chart" "faces" "LDiagramCode$Rounds;", Cond.fieldLink RX5 52 "DiagramCode$Chart" "edges" "LDiagramCode$Edges;", Cond.methodLink RX5 142 yX3_size, Cond.instanceMethod yX3_size, Cond.selects RX3 yX3_size yX3_size, Cond.initialized RX3, Cond.code yX3_size cX3_size 2 (some .int), Cond.fieldLink RX3 21 "DiagramCode$Rounds" "size" "[I", Cond.methodLink RX3 35 yX3_hasRound, Cond.instanceMethod yX3_hasRound, Cond.selects RX3 yX3_hasRound yX3_hasRound, Cond.code yX3_hasRound cX3_hasRound 2 (some .boolean), Cond.fieldLink RX3 28 "DiagramCode$Rounds" "count" "I", Cond.methodLink RX5 151 yX3_member, Cond.instanceMethod yX3_member, Cond.selects RX3 yX3_member yX3_member, Cond.code yX3_member cX3_member 5 (some .int), Cond.methodLink RX3 38 yX3_first, Cond.instanceMethod yX3_first, Cond.selects RX3 yX3_first yX3_first, Cond.code yX3_first cX3_first 2 (some .int), Cond.fieldLink RX3 18 "DiagramCode$Rounds" "first" "[I", Cond.methodLink RX3 41 yX3_next]
def wsX5_face_r2 : List Cond := [Cond.instanceMethod yX3_next, Cond.selects RX3 yX3_next yX3_next, Cond.code yX3_next cX3_next 2 (some .int), Cond.fieldLink RX3 9 "DiagramCode$Rounds" "next" "[I", Cond.methodLink RX3 31 yX3_hasMember, Cond.instanceMethod yX3_hasMember, Cond.selects RX3 yX3_hasMember yX3_hasMember, Cond.code yX3_hasMember cX3_hasMember 2 (some .boolean), Cond.fieldLink RX3 24 "DiagramCode$Rounds" "members" "I", Cond.methodLink RX5 122 yX1_label, Cond.instanceMethod yX1_label, Cond.selects RX1 yX1_label yX1_label, Cond.initialized RX1, Cond.code yX1_label cX1_label 2 (some .int), Cond.fieldLink RX1 9 "DiagramCode$Edges" "labels" "[I", Cond.methodLink RX1 31 yX1_has, Cond.instanceMethod yX1_has, Cond.selects RX1 yX1_has yX1_has, Cond.code yX1_has cX1_has 2 (some .boolean), Cond.fieldLink RX1 27 "DiagramCode$Edges" "count" "I"]
def wsX5_face : List Cond := .code yX5_face cX5_face 6 (some .int) :: ((wsX5_face_r1 ++ wsX5_face_r2) ++ wsX50 ++ wsX00 ++ wsX30 ++ wsX10)
def wsX5_mirror_r1 : List Cond := [Cond.fieldLink RX5 16 "DiagramCode" "held" "LDiagramCode$Chart;", Cond.fieldLink RX5 30 "DiagramCode$Chart" "row" "LDiagramCode$Row;", Cond.methodLink RX5 154 yX4_exchangeAllStrands, Cond.instanceMethod yX4_exchangeAllStrands, Cond.selects RX4 yX4_exchangeAllStrands yX4_exchangeAllStrands, Cond.initialized RX4, Cond.code yX4_exchangeAllStrands cX4_exchangeAllStrands 2 none, Cond.fieldLink RX4 18 "DiagramCode$Row" "crossings" "I", Cond.methodLink RX4 54 yX4_exchangeStrands, Cond.instanceMethod yX4_exchangeStrands, Cond.selects RX4 yX4_exchangeStrands yX4_exchangeStrands, Cond.code yX4_exchangeStrands cX4_exchangeStrands 2 none, Cond.methodLink RX4 43 yX4_upperIn, Cond.instanceMethod yX4_upperIn, Cond.selects RX4 yX4_upperIn yX4_upperIn, Cond.code yX4_upperIn cX4_upperIn 2 (some .int), Cond.methodLink RX4 30 yX4_sign, Cond.instanceMethod yX4_sign, Cond.selects RX4 yX4_sign yX4_sign, Cond.code yX4_sign cX4_sign 2 (some .int), Cond.fieldLink RX4 9 "DiagramCode$Row" "signs" "[I", Cond.methodLink RX4 22 yX4_has, Cond.instanceMethod yX4_has, Cond.selects RX4 yX4_has yX4_has]
def wsX5_mirror_r2 : List Cond := [Cond.code yX4_has cX4_has 2 (some .boolean), Cond.methodLink RX4 46 yX4_beginPlacesAt, Cond.instanceMethod yX4_beginPlacesAt, Cond.selects RX4 yX4_beginPlacesAt yX4_beginPlacesAt, Cond.code yX4_beginPlacesAt cX4_beginPlacesAt 6 none, Cond.fieldLink RX4 15 "DiagramCode$Row" "labels" "[I", Cond.methodLink RX4 50 yX4_flipSign, Cond.instanceMethod yX4_flipSign, Cond.selects RX4 yX4_flipSign yX4_flipSign, Cond.code yX4_flipSign cX4_flipSign 2 none, Cond.methodLink RX5 44 yX0_survey, Cond.instanceMethod yX0_survey, Cond.selects RX0 yX0_survey yX0_survey, Cond.initialized RX0, Cond.code yX0_survey cX0_survey 1 (some .int), Cond.fieldLink RX0 21 "DiagramCode$Chart" "edges" "LDiagramCode$Edges;", Cond.fieldLink RX0 12 "DiagramCode$Chart" "row" "LDiagramCode$Row;", Cond.fieldLink RX0 52 "DiagramCode$Chart" "wrong" "I", Cond.methodLink RX0 56 yX1_gatherLabels, Cond.instanceMethod yX1_gatherLabels, Cond.selects RX1 yX1_gatherLabels yX1_gatherLabels, Cond.initialized RX1, Cond.code yX1_gatherLabels cX1_gatherLabels 3 (some .int), Cond.fieldLink RX1 27 "DiagramCode$Edges" "count" "I"]
def wsX5_mirror_r3 : List Cond := [Cond.fieldLink RX1 15 "DiagramCode$Edges" "times" "[I", Cond.fieldLink RX1 9 "DiagramCode$Edges" "labels" "[I", Cond.methodLink RX1 41 yX4_spots, Cond.instanceMethod yX4_spots, Cond.selects RX4 yX4_spots yX4_spots, Cond.code yX4_spots cX4_spots 1 (some .int), Cond.methodLink RX1 47 yX4_label, Cond.instanceMethod yX4_label, Cond.selects RX4 yX4_label yX4_label, Cond.code yX4_label cX4_label 2 (some .int), Cond.methodLink RX4 26 yX4_spots, Cond.methodLink RX1 50 yX1_countLabel, Cond.instanceMethod yX1_countLabel, Cond.selects RX1 yX1_countLabel yX1_countLabel, Cond.code yX1_countLabel cX1_countLabel 4 none, Cond.methodLink RX1 54 yX1_countLess, Cond.instanceMethod yX1_countLess, Cond.selects RX1 yX1_countLess yX1_countLess, Cond.code yX1_countLess cX1_countLess 3 (some .int), Cond.methodLink RX1 31 yX1_has, Cond.instanceMethod yX1_has, Cond.selects RX1 yX1_has yX1_has, Cond.code yX1_has cX1_has 2 (some .boolean), Cond.methodLink RX0 60 yX1_findEnds]
def wsX5_mirror_r4 : List Cond := [Cond.instanceMethod yX1_findEnds, Cond.selects RX1 yX1_findEnds yX1_findEnds, Cond.code yX1_findEnds cX1_findEnds 3 (some .int), Cond.fieldLink RX1 18 "DiagramCode$Edges" "from" "[I", Cond.fieldLink RX1 21 "DiagramCode$Edges" "to" "[I", Cond.methodLink RX1 57 yJ7_fill_53178, Cond.static yJ7_fill_53178, Cond.initialized RJ7, Cond.code yJ7_fill_53178 cJ7_fill_53178 4 none, Cond.methodLink RX1 63 yX1_rank, Cond.instanceMethod yX1_rank, Cond.selects RX1 yX1_rank yX1_rank, Cond.code yX1_rank cX1_rank 3 (some .int), Cond.methodLink RX1 66 yX4_goesOut, Cond.instanceMethod yX4_goesOut, Cond.selects RX4 yX4_goesOut yX4_goesOut, Cond.code yX4_goesOut cX4_goesOut 3 (some .boolean), Cond.methodLink RX4 34 yX4_lowerOut, Cond.static yX4_lowerOut, Cond.code yX4_lowerOut cX4_lowerOut 1 (some .int), Cond.methodLink RX4 37 yX4_upperOut, Cond.instanceMethod yX4_upperOut, Cond.selects RX4 yX4_upperOut yX4_upperOut, Cond.code yX4_upperOut cX4_upperOut 2 (some .int)]
def wsX5_mirror_r5 : List Cond := [Cond.methodLink RX1 69 yX1_noteEnd, Cond.instanceMethod yX1_noteEnd, Cond.selects RX1 yX1_noteEnd yX1_noteEnd, Cond.code yX1_noteEnd cX1_noteEnd 4 none, Cond.fieldLink RX1 24 "DiagramCode$Edges" "edgeAt" "[I", Cond.methodLink RX0 63 yX0_groupPieces, Cond.instanceMethod yX0_groupPieces, Cond.selects RX0 yX0_groupPieces yX0_groupPieces, Cond.code yX0_groupPieces cX0_groupPieces 2 none, Cond.fieldLink RX0 28 "DiagramCode$Chart" "pieces" "LDiagramCode$Groups;", Cond.methodLink RX0 79 yX4_crossings, Cond.instanceMethod yX4_crossings, Cond.selects RX4 yX4_crossings yX4_crossings, Cond.code yX4_crossings cX4_crossings 1 (some .int), Cond.methodLink RX0 82 yX2_begin, Cond.instanceMethod yX2_begin, Cond.selects RX2 yX2_begin yX2_begin, Cond.initialized RX2, Cond.code yX2_begin cX2_begin 3 none, Cond.methodLink RX2 29 Lib.Math.min.name, Cond.static Lib.Math.min.name, Cond.initialized "java/lang/Math", Cond.code Lib.Math.min.name Lib.Math.min.code 2 (some .int), Cond.fieldLink RX2 18 "DiagramCode$Groups" "members" "I"]
def wsX5_mirror_r6 : List Cond := [Cond.fieldLink RX2 9 "DiagramCode$Groups" "least" "[I", Cond.methodLink RX0 86 yX1_count, Cond.instanceMethod yX1_count, Cond.selects RX1 yX1_count yX1_count, Cond.code yX1_count cX1_count 1 (some .int), Cond.methodLink RX0 89 yX1_from, Cond.instanceMethod yX1_from, Cond.selects RX1 yX1_from yX1_from, Cond.code yX1_from cX1_from 2 (some .int), Cond.methodLink RX0 93 yX1_to, Cond.instanceMethod yX1_to, Cond.selects RX1 yX1_to yX1_to, Cond.code yX1_to cX1_to 2 (some .int), Cond.methodLink RX0 96 yX2_join, Cond.instanceMethod yX2_join, Cond.selects RX2 yX2_join yX2_join, Cond.code yX2_join cX2_join 6 none, Cond.methodLink RX2 38 Lib.Math.max.name, Cond.static Lib.Math.max.name, Cond.code Lib.Math.max.name Lib.Math.max.code 2 (some .int), Cond.methodLink RX2 35 yX2_least, Cond.instanceMethod yX2_least, Cond.selects RX2 yX2_least yX2_least, Cond.code yX2_least cX2_least 2 (some .int)]
def wsX5_mirror_r7 : List Cond := [Cond.methodLink RX2 25 yX2_hasMember, Cond.instanceMethod yX2_hasMember, Cond.selects RX2 yX2_hasMember yX2_hasMember, Cond.code yX2_hasMember cX2_hasMember 2 (some .boolean), Cond.methodLink RX0 100 yX2_numberGroups, Cond.instanceMethod yX2_numberGroups, Cond.selects RX2 yX2_numberGroups yX2_numberGroups, Cond.code yX2_numberGroups cX2_numberGroups 2 none, Cond.fieldLink RX2 22 "DiagramCode$Groups" "count" "I", Cond.fieldLink RX2 15 "DiagramCode$Groups" "numberOf" "[I", Cond.methodLink RX2 41 yX2_numberOf, Cond.instanceMethod yX2_numberOf, Cond.selects RX2 yX2_numberOf yX2_numberOf, Cond.code yX2_numberOf cX2_numberOf 2 (some .int), Cond.methodLink RX0 66 yX0_traceFaces, Cond.instanceMethod yX0_traceFaces, Cond.selects RX0 yX0_traceFaces yX0_traceFaces, Cond.code yX0_traceFaces cX0_traceFaces 2 none, Cond.fieldLink RX0 45 "DiagramCode$Chart" "faces" "LDiagramCode$Rounds;", Cond.methodLink RX0 103 yX3_begin, Cond.instanceMethod yX3_begin, Cond.selects RX3 yX3_begin yX3_begin, Cond.initialized RX3, Cond.code yX3_begin cX3_begin 2 none]
def wsX5_mirror_r8 : List Cond := [Cond.methodLink RX3 43 Lib.Math.min.name, Cond.fieldLink RX3 24 "DiagramCode$Rounds" "members" "I", Cond.fieldLink RX3 28 "DiagramCode$Rounds" "count" "I", Cond.methodLink RX0 104 yX4_beside, Cond.static yX4_beside, Cond.code yX4_beside cX4_beside 1 (some .int), Cond.methodLink RX0 107 yX1_dartFrom, Cond.instanceMethod yX1_dartFrom, Cond.selects RX1 yX1_dartFrom yX1_dartFrom, Cond.code yX1_dartFrom cX1_dartFrom 3 (some .int), Cond.methodLink RX1 35 yX1_at, Cond.instanceMethod yX1_at, Cond.selects RX1 yX1_at yX1_at, Cond.code yX1_at cX1_at 2 (some .int), Cond.methodLink RX1 39 yX1_from, Cond.methodLink RX0 110 yX3_link, Cond.instanceMethod yX3_link, Cond.selects RX3 yX3_link yX3_link, Cond.code yX3_link cX3_link 3 none, Cond.fieldLink RX3 9 "DiagramCode$Rounds" "next" "[I", Cond.methodLink RX3 31 yX3_hasMember, Cond.instanceMethod yX3_hasMember, Cond.selects RX3 yX3_hasMember yX3_hasMember, Cond.code yX3_hasMember cX3_hasMember 2 (some .boolean)]
def wsX5_mirror_r9 : List Cond := [Cond.methodLink RX0 113 yX3_trace, Cond.instanceMethod yX3_trace, Cond.selects RX3 yX3_trace yX3_trace, Cond.code yX3_trace cX3_trace 2 none, Cond.fieldLink RX3 15 "DiagramCode$Rounds" "roundOf" "[I", Cond.methodLink RX3 49 yJ7_fill_53178, Cond.methodLink RX3 55 yX3_walk, Cond.instanceMethod yX3_walk, Cond.selects RX3 yX3_walk yX3_walk, Cond.code yX3_walk cX3_walk 4 none, Cond.fieldLink RX3 18 "DiagramCode$Rounds" "first" "[I", Cond.fieldLink RX3 21 "DiagramCode$Rounds" "size" "[I", Cond.methodLink RX0 69 yX0_leastCrossingOnNoSphere, Cond.instanceMethod yX0_leastCrossingOnNoSphere, Cond.selects RX0 yX0_leastCrossingOnNoSphere yX0_leastCrossingOnNoSphere, Cond.code yX0_leastCrossingOnNoSphere cX0_leastCrossingOnNoSphere 2 (some .int), Cond.methodLink RX0 116 yX2_least, Cond.methodLink RX0 119 yX2_numberOf, Cond.methodLink RX0 122 yX0_facesLessCrossings, Cond.instanceMethod yX0_facesLessCrossings, Cond.selects RX0 yX0_facesLessCrossings yX0_facesLessCrossings, Cond.code yX0_facesLessCrossings cX0_facesLessCrossings 4 (some .int), Cond.methodLink RX0 125 yX3_count, Cond.instanceMethod yX3_count]
def wsX5_mirror_r10 : List Cond := [Cond.selects RX3 yX3_count yX3_count, Cond.code yX3_count cX3_count 1 (some .int), Cond.methodLink RX0 126 yX3_first, Cond.instanceMethod yX3_first, Cond.selects RX3 yX3_first yX3_first, Cond.code yX3_first cX3_first 2 (some .int), Cond.methodLink RX3 35 yX3_hasRound, Cond.instanceMethod yX3_hasRound, Cond.selects RX3 yX3_hasRound yX3_hasRound, Cond.code yX3_hasRound cX3_hasRound 2 (some .boolean), Cond.methodLink RX0 129 yX0_pieceOfEdge, Cond.instanceMethod yX0_pieceOfEdge, Cond.selects RX0 yX0_pieceOfEdge yX0_pieceOfEdge, Cond.code yX0_pieceOfEdge cX0_pieceOfEdge 2 (some .int), Cond.methodLink RX0 73 yX0_traceStrands, Cond.instanceMethod yX0_traceStrands, Cond.selects RX0 yX0_traceStrands yX0_traceStrands, Cond.code yX0_traceStrands cX0_traceStrands 2 none, Cond.fieldLink RX0 38 "DiagramCode$Chart" "components" "LDiagramCode$Rounds;", Cond.fieldLink RX0 42 "DiagramCode$Chart" "seifert" "LDiagramCode$Rounds;", Cond.methodLink RX0 132 yX4_across, Cond.static yX4_across, Cond.code yX4_across cX4_across 1 (some .int), Cond.methodLink RX0 135 yX1_at]
def wsX5_mirror_r11 : List Cond := [Cond.methodLink RX0 138 yX4_seifertOut, Cond.instanceMethod yX4_seifertOut, Cond.selects RX4 yX4_seifertOut yX4_seifertOut, Cond.code yX4_seifertOut cX4_seifertOut 3 (some .int), Cond.methodLink RX4 40 yX4_isUpper, Cond.static yX4_isUpper, Cond.code yX4_isUpper cX4_isUpper 1 (some .boolean), Cond.methodLink RX0 76 yX0_groupArcs, Cond.instanceMethod yX0_groupArcs, Cond.selects RX0 yX0_groupArcs yX0_groupArcs, Cond.code yX0_groupArcs cX0_groupArcs 2 none, Cond.fieldLink RX0 32 "DiagramCode$Chart" "arcs" "LDiagramCode$Groups;", Cond.methodLink RX0 141 yX4_isUpper, Cond.methodLink RX0 145 yX3_next, Cond.instanceMethod yX3_next, Cond.selects RX3 yX3_next yX3_next, Cond.code yX3_next cX3_next 2 (some .int)]
def wsX5_mirror : List Cond := .code yX5_mirror cX5_mirror 1 none :: ((wsX5_mirror_r1 ++ (wsX5_mirror_r2 ++ (wsX5_mirror_r3 ++ (wsX5_mirror_r4 ++ (wsX5_mirror_r5 ++ (wsX5_mirror_r6 ++ (wsX5_mirror_r7 ++ (wsX5_mirror_r8 ++ (wsX5_mirror_r9 ++ (wsX5_mirror_r10 ++ wsX5_mirror_r11)))))))))) ++ wsX50 ++ wsX00 ++ wsX40 ++ wsX10 ++ wsX20 ++ wsX30)
def wsX5_reverse_r1 : List Cond := [Cond.fieldLink RX5 16 "DiagramCode" "held" "LDiagramCode$Chart;", Cond.methodLink RX5 129 yX5_hasComponent, Cond.instanceMethod yX5_hasComponent, Cond.selects RX5 yX5_hasComponent yX5_hasComponent, Cond.initialized RX5, Cond.code yX5_hasComponent cX5_hasComponent 2 (some .boolean), Cond.fieldLink RX5 61 "DiagramCode$Chart" "components" "LDiagramCode$Rounds;", Cond.fieldLink RX5 19 "DiagramCode" "circles" "I", Cond.methodLink RX5 65 yX3_count, Cond.instanceMethod yX3_count, Cond.selects RX3 yX3_count yX3_count, Cond.initialized RX3, Cond.code yX3_count cX3_count 1 (some .int), Cond.fieldLink RX3 28 "DiagramCode$Rounds" "count" "I", Cond.methodLink RX5 157 yX0_turnComponent, Cond.instanceMethod yX0_turnComponent, Cond.selects RX0 yX0_turnComponent yX0_turnComponent, Cond.initialized RX0, Cond.code yX0_turnComponent cX0_turnComponent 3 none, Cond.fieldLink RX0 12 "DiagramCode$Chart" "row" "LDiagramCode$Row;", Cond.methodLink RX0 79 yX4_crossings, Cond.instanceMethod yX4_crossings, Cond.selects RX4 yX4_crossings yX4_crossings, Cond.initialized RX4]
def wsX5_reverse_r2 : List Cond := [Cond.code yX4_crossings cX4_crossings 1 (some .int), Cond.fieldLink RX4 18 "DiagramCode$Row" "crossings" "I", Cond.methodLink RX0 161 yX0_lowerComponent, Cond.instanceMethod yX0_lowerComponent, Cond.selects RX0 yX0_lowerComponent yX0_lowerComponent, Cond.code yX0_lowerComponent cX0_lowerComponent 2 (some .int), Cond.fieldLink RX0 38 "DiagramCode$Chart" "components" "LDiagramCode$Rounds;", Cond.fieldLink RX0 21 "DiagramCode$Chart" "edges" "LDiagramCode$Edges;", Cond.methodLink RX0 148 yX4_lowerIn, Cond.static yX4_lowerIn, Cond.code yX4_lowerIn cX4_lowerIn 1 (some .int), Cond.methodLink RX0 135 yX1_at, Cond.instanceMethod yX1_at, Cond.selects RX1 yX1_at yX1_at, Cond.initialized RX1, Cond.code yX1_at cX1_at 2 (some .int), Cond.fieldLink RX1 24 "DiagramCode$Edges" "edgeAt" "[I", Cond.methodLink RX0 151 yX3_roundOf, Cond.instanceMethod yX3_roundOf, Cond.selects RX3 yX3_roundOf yX3_roundOf, Cond.code yX3_roundOf cX3_roundOf 2 (some .int), Cond.fieldLink RX3 15 "DiagramCode$Rounds" "roundOf" "[I", Cond.methodLink RX3 31 yX3_hasMember, Cond.instanceMethod yX3_hasMember]
def wsX5_reverse_r3 : List Cond := [Cond.selects RX3 yX3_hasMember yX3_hasMember, Cond.code yX3_hasMember cX3_hasMember 2 (some .boolean), Cond.fieldLink RX3 24 "DiagramCode$Rounds" "members" "I", Cond.methodLink RX0 164 yX0_upperComponent, Cond.instanceMethod yX0_upperComponent, Cond.selects RX0 yX0_upperComponent yX0_upperComponent, Cond.code yX0_upperComponent cX0_upperComponent 2 (some .int), Cond.methodLink RX0 154 yX4_upperIn, Cond.instanceMethod yX4_upperIn, Cond.selects RX4 yX4_upperIn yX4_upperIn, Cond.code yX4_upperIn cX4_upperIn 2 (some .int), Cond.methodLink RX4 30 yX4_sign, Cond.instanceMethod yX4_sign, Cond.selects RX4 yX4_sign yX4_sign, Cond.code yX4_sign cX4_sign 2 (some .int), Cond.fieldLink RX4 9 "DiagramCode$Row" "signs" "[I", Cond.methodLink RX4 22 yX4_has, Cond.instanceMethod yX4_has, Cond.selects RX4 yX4_has yX4_has, Cond.code yX4_has cX4_has 2 (some .boolean), Cond.methodLink RX0 170 yX4_turnStrands, Cond.instanceMethod yX4_turnStrands, Cond.selects RX4 yX4_turnStrands yX4_turnStrands, Cond.code yX4_turnStrands cX4_turnStrands 4 none]
def wsX5_reverse_r4 : List Cond := [Cond.methodLink RX4 46 yX4_beginPlacesAt, Cond.instanceMethod yX4_beginPlacesAt, Cond.selects RX4 yX4_beginPlacesAt yX4_beginPlacesAt, Cond.code yX4_beginPlacesAt cX4_beginPlacesAt 6 none, Cond.fieldLink RX4 15 "DiagramCode$Row" "labels" "[I", Cond.methodLink RX4 50 yX4_flipSign, Cond.instanceMethod yX4_flipSign, Cond.selects RX4 yX4_flipSign yX4_flipSign, Cond.code yX4_flipSign cX4_flipSign 2 none, Cond.methodLink RX5 44 yX0_survey, Cond.instanceMethod yX0_survey, Cond.selects RX0 yX0_survey yX0_survey, Cond.code yX0_survey cX0_survey 1 (some .int), Cond.fieldLink RX0 52 "DiagramCode$Chart" "wrong" "I", Cond.methodLink RX0 56 yX1_gatherLabels, Cond.instanceMethod yX1_gatherLabels, Cond.selects RX1 yX1_gatherLabels yX1_gatherLabels, Cond.code yX1_gatherLabels cX1_gatherLabels 3 (some .int), Cond.fieldLink RX1 27 "DiagramCode$Edges" "count" "I", Cond.fieldLink RX1 15 "DiagramCode$Edges" "times" "[I", Cond.fieldLink RX1 9 "DiagramCode$Edges" "labels" "[I", Cond.methodLink RX1 41 yX4_spots, Cond.instanceMethod yX4_spots, Cond.selects RX4 yX4_spots yX4_spots]
def wsX5_reverse_r5 : List Cond := [Cond.code yX4_spots cX4_spots 1 (some .int), Cond.methodLink RX1 47 yX4_label, Cond.instanceMethod yX4_label, Cond.selects RX4 yX4_label yX4_label, Cond.code yX4_label cX4_label 2 (some .int), Cond.methodLink RX4 26 yX4_spots, Cond.methodLink RX1 50 yX1_countLabel, Cond.instanceMethod yX1_countLabel, Cond.selects RX1 yX1_countLabel yX1_countLabel, Cond.code yX1_countLabel cX1_countLabel 4 none, Cond.methodLink RX1 54 yX1_countLess, Cond.instanceMethod yX1_countLess, Cond.selects RX1 yX1_countLess yX1_countLess, Cond.code yX1_countLess cX1_countLess 3 (some .int), Cond.methodLink RX1 31 yX1_has, Cond.instanceMethod yX1_has, Cond.selects RX1 yX1_has yX1_has, Cond.code yX1_has cX1_has 2 (some .boolean), Cond.methodLink RX0 60 yX1_findEnds, Cond.instanceMethod yX1_findEnds, Cond.selects RX1 yX1_findEnds yX1_findEnds, Cond.code yX1_findEnds cX1_findEnds 3 (some .int), Cond.fieldLink RX1 18 "DiagramCode$Edges" "from" "[I", Cond.fieldLink RX1 21 "DiagramCode$Edges" "to" "[I"]
def wsX5_reverse_r6 : List Cond := [Cond.methodLink RX1 57 yJ7_fill_53178, Cond.static yJ7_fill_53178, Cond.initialized RJ7, Cond.code yJ7_fill_53178 cJ7_fill_53178 4 none, Cond.methodLink RX1 63 yX1_rank, Cond.instanceMethod yX1_rank, Cond.selects RX1 yX1_rank yX1_rank, Cond.code yX1_rank cX1_rank 3 (some .int), Cond.methodLink RX1 66 yX4_goesOut, Cond.instanceMethod yX4_goesOut, Cond.selects RX4 yX4_goesOut yX4_goesOut, Cond.code yX4_goesOut cX4_goesOut 3 (some .boolean), Cond.methodLink RX4 34 yX4_lowerOut, Cond.static yX4_lowerOut, Cond.code yX4_lowerOut cX4_lowerOut 1 (some .int), Cond.methodLink RX4 37 yX4_upperOut, Cond.instanceMethod yX4_upperOut, Cond.selects RX4 yX4_upperOut yX4_upperOut, Cond.code yX4_upperOut cX4_upperOut 2 (some .int), Cond.methodLink RX1 69 yX1_noteEnd, Cond.instanceMethod yX1_noteEnd, Cond.selects RX1 yX1_noteEnd yX1_noteEnd, Cond.code yX1_noteEnd cX1_noteEnd 4 none, Cond.methodLink RX0 63 yX0_groupPieces]
def wsX5_reverse_r7 : List Cond := [Cond.instanceMethod yX0_groupPieces, Cond.selects RX0 yX0_groupPieces yX0_groupPieces, Cond.code yX0_groupPieces cX0_groupPieces 2 none, Cond.fieldLink RX0 28 "DiagramCode$Chart" "pieces" "LDiagramCode$Groups;", Cond.methodLink RX0 82 yX2_begin, Cond.instanceMethod yX2_begin, Cond.selects RX2 yX2_begin yX2_begin, Cond.initialized RX2, Cond.code yX2_begin cX2_begin 3 none, Cond.methodLink RX2 29 Lib.Math.min.name, Cond.static Lib.Math.min.name, Cond.initialized "java/lang/Math", Cond.code Lib.Math.min.name Lib.Math.min.code 2 (some .int), Cond.fieldLink RX2 18 "DiagramCode$Groups" "members" "I", Cond.fieldLink RX2 9 "DiagramCode$Groups" "least" "[I", Cond.methodLink RX0 86 yX1_count, Cond.instanceMethod yX1_count, Cond.selects RX1 yX1_count yX1_count, Cond.code yX1_count cX1_count 1 (some .int), Cond.methodLink RX0 89 yX1_from, Cond.instanceMethod yX1_from, Cond.selects RX1 yX1_from yX1_from, Cond.code yX1_from cX1_from 2 (some .int), Cond.methodLink RX0 93 yX1_to]
def wsX5_reverse_r8 : List Cond := [Cond.instanceMethod yX1_to, Cond.selects RX1 yX1_to yX1_to, Cond.code yX1_to cX1_to 2 (some .int), Cond.methodLink RX0 96 yX2_join, Cond.instanceMethod yX2_join, Cond.selects RX2 yX2_join yX2_join, Cond.code yX2_join cX2_join 6 none, Cond.methodLink RX2 38 Lib.Math.max.name, Cond.static Lib.Math.max.name, Cond.code Lib.Math.max.name Lib.Math.max.code 2 (some .int), Cond.methodLink RX2 35 yX2_least, Cond.instanceMethod yX2_least, Cond.selects RX2 yX2_least yX2_least, Cond.code yX2_least cX2_least 2 (some .int), Cond.methodLink RX2 25 yX2_hasMember, Cond.instanceMethod yX2_hasMember, Cond.selects RX2 yX2_hasMember yX2_hasMember, Cond.code yX2_hasMember cX2_hasMember 2 (some .boolean), Cond.methodLink RX0 100 yX2_numberGroups, Cond.instanceMethod yX2_numberGroups, Cond.selects RX2 yX2_numberGroups yX2_numberGroups, Cond.code yX2_numberGroups cX2_numberGroups 2 none, Cond.fieldLink RX2 22 "DiagramCode$Groups" "count" "I", Cond.fieldLink RX2 15 "DiagramCode$Groups" "numberOf" "[I"]
def wsX5_reverse_r9 : List Cond := [Cond.methodLink RX2 41 yX2_numberOf, Cond.instanceMethod yX2_numberOf, Cond.selects RX2 yX2_numberOf yX2_numberOf, Cond.code yX2_numberOf cX2_numberOf 2 (some .int), Cond.methodLink RX0 66 yX0_traceFaces, Cond.instanceMethod yX0_traceFaces, Cond.selects RX0 yX0_traceFaces yX0_traceFaces, Cond.code yX0_traceFaces cX0_traceFaces 2 none, Cond.fieldLink RX0 45 "DiagramCode$Chart" "faces" "LDiagramCode$Rounds;", Cond.methodLink RX0 103 yX3_begin, Cond.instanceMethod yX3_begin, Cond.selects RX3 yX3_begin yX3_begin, Cond.code yX3_begin cX3_begin 2 none, Cond.methodLink RX3 43 Lib.Math.min.name, Cond.methodLink RX0 104 yX4_beside, Cond.static yX4_beside, Cond.code yX4_beside cX4_beside 1 (some .int), Cond.methodLink RX0 107 yX1_dartFrom, Cond.instanceMethod yX1_dartFrom, Cond.selects RX1 yX1_dartFrom yX1_dartFrom, Cond.code yX1_dartFrom cX1_dartFrom 3 (some .int), Cond.methodLink RX1 35 yX1_at, Cond.methodLink RX1 39 yX1_from, Cond.methodLink RX0 110 yX3_link]
def wsX5_reverse_r10 : List Cond := [Cond.instanceMethod yX3_link, Cond.selects RX3 yX3_link yX3_link, Cond.code yX3_link cX3_link 3 none, Cond.fieldLink RX3 9 "DiagramCode$Rounds" "next" "[I", Cond.methodLink RX0 113 yX3_trace, Cond.instanceMethod yX3_trace, Cond.selects RX3 yX3_trace yX3_trace, Cond.code yX3_trace cX3_trace 2 none, Cond.methodLink RX3 49 yJ7_fill_53178, Cond.methodLink RX3 55 yX3_walk, Cond.instanceMethod yX3_walk, Cond.selects RX3 yX3_walk yX3_walk, Cond.code yX3_walk cX3_walk 4 none, Cond.fieldLink RX3 18 "DiagramCode$Rounds" "first" "[I", Cond.fieldLink RX3 21 "DiagramCode$Rounds" "size" "[I", Cond.methodLink RX0 69 yX0_leastCrossingOnNoSphere, Cond.instanceMethod yX0_leastCrossingOnNoSphere, Cond.selects RX0 yX0_leastCrossingOnNoSphere yX0_leastCrossingOnNoSphere, Cond.code yX0_leastCrossingOnNoSphere cX0_leastCrossingOnNoSphere 2 (some .int), Cond.methodLink RX0 116 yX2_least, Cond.methodLink RX0 119 yX2_numberOf, Cond.methodLink RX0 122 yX0_facesLessCrossings, Cond.instanceMethod yX0_facesLessCrossings, Cond.selects RX0 yX0_facesLessCrossings yX0_facesLessCrossings]
def wsX5_reverse_r11 : List Cond := [Cond.code yX0_facesLessCrossings cX0_facesLessCrossings 4 (some .int), Cond.methodLink RX0 125 yX3_count, Cond.methodLink RX0 126 yX3_first, Cond.instanceMethod yX3_first, Cond.selects RX3 yX3_first yX3_first, Cond.code yX3_first cX3_first 2 (some .int), Cond.methodLink RX3 35 yX3_hasRound, Cond.instanceMethod yX3_hasRound, Cond.selects RX3 yX3_hasRound yX3_hasRound, Cond.code yX3_hasRound cX3_hasRound 2 (some .boolean), Cond.methodLink RX0 129 yX0_pieceOfEdge, Cond.instanceMethod yX0_pieceOfEdge, Cond.selects RX0 yX0_pieceOfEdge yX0_pieceOfEdge, Cond.code yX0_pieceOfEdge cX0_pieceOfEdge 2 (some .int), Cond.methodLink RX0 73 yX0_traceStrands, Cond.instanceMethod yX0_traceStrands, Cond.selects RX0 yX0_traceStrands yX0_traceStrands, Cond.code yX0_traceStrands cX0_traceStrands 2 none, Cond.fieldLink RX0 42 "DiagramCode$Chart" "seifert" "LDiagramCode$Rounds;", Cond.methodLink RX0 132 yX4_across, Cond.static yX4_across, Cond.code yX4_across cX4_across 1 (some .int), Cond.methodLink RX0 138 yX4_seifertOut, Cond.instanceMethod yX4_seifertOut]
def wsX5_reverse_r12 : List Cond := [Cond.selects RX4 yX4_seifertOut yX4_seifertOut, Cond.code yX4_seifertOut cX4_seifertOut 3 (some .int), Cond.methodLink RX4 40 yX4_isUpper, Cond.static yX4_isUpper, Cond.code yX4_isUpper cX4_isUpper 1 (some .boolean), Cond.methodLink RX0 76 yX0_groupArcs, Cond.instanceMethod yX0_groupArcs, Cond.selects RX0 yX0_groupArcs yX0_groupArcs, Cond.code yX0_groupArcs cX0_groupArcs 2 none, Cond.fieldLink RX0 32 "DiagramCode$Chart" "arcs" "LDiagramCode$Groups;", Cond.methodLink RX0 141 yX4_isUpper, Cond.methodLink RX0 145 yX3_next, Cond.instanceMethod yX3_next, Cond.selects RX3 yX3_next yX3_next, Cond.code yX3_next cX3_next 2 (some .int)]
def wsX5_reverse : List Cond := .code yX5_reverse cX5_reverse 2 (some .boolean) :: ((wsX5_reverse_r1 ++ (wsX5_reverse_r2 ++ (wsX5_reverse_r3 ++ (wsX5_reverse_r4 ++ (wsX5_reverse_r5 ++ (wsX5_reverse_r6 ++ (wsX5_reverse_r7 ++ (wsX5_reverse_r8 ++ (wsX5_reverse_r9 ++ (wsX5_reverse_r10 ++ (wsX5_reverse_r11 ++ wsX5_reverse_r12))))))))))) ++ wsX50 ++ wsX00 ++ wsX30 ++ wsX40 ++ wsX10 ++ wsX20)
def wsX5_number_r1 : List Cond := [Cond.fieldLink RX5 16 "DiagramCode" "held" "LDiagramCode$Chart;", Cond.methodLink RX5 161 yX0_labelAnew, Cond.instanceMethod yX0_labelAnew, Cond.selects RX0 yX0_labelAnew yX0_labelAnew, Cond.initialized RX0, Cond.code yX0_labelAnew cX0_labelAnew 3 none, Cond.fieldLink RX0 12 "DiagramCode$Chart" "row" "LDiagramCode$Row;", Cond.fieldLink RX0 21 "DiagramCode$Chart" "edges" "LDiagramCode$Edges;", Cond.fieldLink RX0 48 "DiagramCode$Chart" "newLabels" "[I", Cond.methodLink RX0 174 yX0_chooseNewLabels, Cond.instanceMethod yX0_chooseNewLabels, Cond.selects RX0 yX0_chooseNewLabels yX0_chooseNewLabels, Cond.code yX0_chooseNewLabels cX0_chooseNewLabels 5 none, Cond.fieldLink RX0 38 "DiagramCode$Chart" "components" "LDiagramCode$Rounds;", Cond.methodLink RX0 125 yX3_count, Cond.instanceMethod yX3_count, Cond.selects RX3 yX3_count yX3_count, Cond.initialized RX3, Cond.code yX3_count cX3_count 1 (some .int), Cond.fieldLink RX3 28 "DiagramCode$Rounds" "count" "I", Cond.methodLink RX0 126 yX3_first, Cond.instanceMethod yX3_first, Cond.selects RX3 yX3_first yX3_first, Cond.code yX3_first cX3_first 2 (some .int)]
def wsX5_number_r2 : List Cond := [Cond.fieldLink RX3 18 "DiagramCode$Rounds" "first" "[I", Cond.methodLink RX3 35 yX3_hasRound, Cond.instanceMethod yX3_hasRound, Cond.selects RX3 yX3_hasRound yX3_hasRound, Cond.code yX3_hasRound cX3_hasRound 2 (some .boolean), Cond.methodLink RX0 183 yX3_size, Cond.instanceMethod yX3_size, Cond.selects RX3 yX3_size yX3_size, Cond.code yX3_size cX3_size 2 (some .int), Cond.fieldLink RX3 21 "DiagramCode$Rounds" "size" "[I", Cond.methodLink RX0 145 yX3_next, Cond.instanceMethod yX3_next, Cond.selects RX3 yX3_next yX3_next, Cond.code yX3_next cX3_next 2 (some .int), Cond.fieldLink RX3 9 "DiagramCode$Rounds" "next" "[I", Cond.methodLink RX3 31 yX3_hasMember, Cond.instanceMethod yX3_hasMember, Cond.selects RX3 yX3_hasMember yX3_hasMember, Cond.code yX3_hasMember cX3_hasMember 2 (some .boolean), Cond.fieldLink RX3 24 "DiagramCode$Rounds" "members" "I", Cond.methodLink RX0 177 yX4_spots, Cond.instanceMethod yX4_spots, Cond.selects RX4 yX4_spots yX4_spots, Cond.initialized RX4]
def wsX5_number_r3 : List Cond := [Cond.code yX4_spots cX4_spots 1 (some .int), Cond.fieldLink RX4 18 "DiagramCode$Row" "crossings" "I", Cond.methodLink RX0 135 yX1_at, Cond.instanceMethod yX1_at, Cond.selects RX1 yX1_at yX1_at, Cond.initialized RX1, Cond.code yX1_at cX1_at 2 (some .int), Cond.fieldLink RX1 24 "DiagramCode$Edges" "edgeAt" "[I", Cond.methodLink RX0 180 yX4_setLabel, Cond.instanceMethod yX4_setLabel, Cond.selects RX4 yX4_setLabel yX4_setLabel, Cond.code yX4_setLabel cX4_setLabel 3 none, Cond.fieldLink RX4 15 "DiagramCode$Row" "labels" "[I", Cond.methodLink RX4 26 yX4_spots, Cond.methodLink RX5 44 yX0_survey, Cond.instanceMethod yX0_survey, Cond.selects RX0 yX0_survey yX0_survey, Cond.code yX0_survey cX0_survey 1 (some .int), Cond.fieldLink RX0 52 "DiagramCode$Chart" "wrong" "I", Cond.methodLink RX0 56 yX1_gatherLabels, Cond.instanceMethod yX1_gatherLabels, Cond.selects RX1 yX1_gatherLabels yX1_gatherLabels, Cond.code yX1_gatherLabels cX1_gatherLabels 3 (some .int), Cond.fieldLink RX1 27 "DiagramCode$Edges" "count" "I"]
def wsX5_number_r4 : List Cond := [Cond.fieldLink RX1 15 "DiagramCode$Edges" "times" "[I", Cond.fieldLink RX1 9 "DiagramCode$Edges" "labels" "[I", Cond.methodLink RX1 41 yX4_spots, Cond.methodLink RX1 47 yX4_label, Cond.instanceMethod yX4_label, Cond.selects RX4 yX4_label yX4_label, Cond.code yX4_label cX4_label 2 (some .int), Cond.methodLink RX1 50 yX1_countLabel, Cond.instanceMethod yX1_countLabel, Cond.selects RX1 yX1_countLabel yX1_countLabel, Cond.code yX1_countLabel cX1_countLabel 4 none, Cond.methodLink RX1 54 yX1_countLess, Cond.instanceMethod yX1_countLess, Cond.selects RX1 yX1_countLess yX1_countLess, Cond.code yX1_countLess cX1_countLess 3 (some .int), Cond.methodLink RX1 31 yX1_has, Cond.instanceMethod yX1_has, Cond.selects RX1 yX1_has yX1_has, Cond.code yX1_has cX1_has 2 (some .boolean), Cond.methodLink RX0 60 yX1_findEnds, Cond.instanceMethod yX1_findEnds, Cond.selects RX1 yX1_findEnds yX1_findEnds, Cond.code yX1_findEnds cX1_findEnds 3 (some .int), Cond.fieldLink RX1 18 "DiagramCode$Edges" "from" "[I"]
def wsX5_number_r5 : List Cond := [Cond.fieldLink RX1 21 "DiagramCode$Edges" "to" "[I", Cond.methodLink RX1 57 yJ7_fill_53178, Cond.static yJ7_fill_53178, Cond.initialized RJ7, Cond.code yJ7_fill_53178 cJ7_fill_53178 4 none, Cond.methodLink RX1 63 yX1_rank, Cond.instanceMethod yX1_rank, Cond.selects RX1 yX1_rank yX1_rank, Cond.code yX1_rank cX1_rank 3 (some .int), Cond.methodLink RX1 66 yX4_goesOut, Cond.instanceMethod yX4_goesOut, Cond.selects RX4 yX4_goesOut yX4_goesOut, Cond.code yX4_goesOut cX4_goesOut 3 (some .boolean), Cond.methodLink RX4 34 yX4_lowerOut, Cond.static yX4_lowerOut, Cond.code yX4_lowerOut cX4_lowerOut 1 (some .int), Cond.methodLink RX4 37 yX4_upperOut, Cond.instanceMethod yX4_upperOut, Cond.selects RX4 yX4_upperOut yX4_upperOut, Cond.code yX4_upperOut cX4_upperOut 2 (some .int), Cond.methodLink RX4 30 yX4_sign, Cond.instanceMethod yX4_sign, Cond.selects RX4 yX4_sign yX4_sign, Cond.code yX4_sign cX4_sign 2 (some .int)]
def wsX5_number_r6 : List Cond := [Cond.fieldLink RX4 9 "DiagramCode$Row" "signs" "[I", Cond.methodLink RX4 22 yX4_has, Cond.instanceMethod yX4_has, Cond.selects RX4 yX4_has yX4_has, Cond.code yX4_has cX4_has 2 (some .boolean), Cond.methodLink RX1 69 yX1_noteEnd, Cond.instanceMethod yX1_noteEnd, Cond.selects RX1 yX1_noteEnd yX1_noteEnd, Cond.code yX1_noteEnd cX1_noteEnd 4 none, Cond.methodLink RX0 63 yX0_groupPieces, Cond.instanceMethod yX0_groupPieces, Cond.selects RX0 yX0_groupPieces yX0_groupPieces, Cond.code yX0_groupPieces cX0_groupPieces 2 none, Cond.fieldLink RX0 28 "DiagramCode$Chart" "pieces" "LDiagramCode$Groups;", Cond.methodLink RX0 79 yX4_crossings, Cond.instanceMethod yX4_crossings, Cond.selects RX4 yX4_crossings yX4_crossings, Cond.code yX4_crossings cX4_crossings 1 (some .int), Cond.methodLink RX0 82 yX2_begin, Cond.instanceMethod yX2_begin, Cond.selects RX2 yX2_begin yX2_begin, Cond.initialized RX2, Cond.code yX2_begin cX2_begin 3 none, Cond.methodLink RX2 29 Lib.Math.min.name]
def wsX5_number_r7 : List Cond := [Cond.static Lib.Math.min.name, Cond.initialized "java/lang/Math", Cond.code Lib.Math.min.name Lib.Math.min.code 2 (some .int), Cond.fieldLink RX2 18 "DiagramCode$Groups" "members" "I", Cond.fieldLink RX2 9 "DiagramCode$Groups" "least" "[I", Cond.methodLink RX0 86 yX1_count, Cond.instanceMethod yX1_count, Cond.selects RX1 yX1_count yX1_count, Cond.code yX1_count cX1_count 1 (some .int), Cond.methodLink RX0 89 yX1_from, Cond.instanceMethod yX1_from, Cond.selects RX1 yX1_from yX1_from, Cond.code yX1_from cX1_from 2 (some .int), Cond.methodLink RX0 93 yX1_to, Cond.instanceMethod yX1_to, Cond.selects RX1 yX1_to yX1_to, Cond.code yX1_to cX1_to 2 (some .int), Cond.methodLink RX0 96 yX2_join, Cond.instanceMethod yX2_join, Cond.selects RX2 yX2_join yX2_join, Cond.code yX2_join cX2_join 6 none, Cond.methodLink RX2 38 Lib.Math.max.name, Cond.static Lib.Math.max.name, Cond.code Lib.Math.max.name Lib.Math.max.code 2 (some .int)]
def wsX5_number_r8 : List Cond := [Cond.methodLink RX2 35 yX2_least, Cond.instanceMethod yX2_least, Cond.selects RX2 yX2_least yX2_least, Cond.code yX2_least cX2_least 2 (some .int), Cond.methodLink RX2 25 yX2_hasMember, Cond.instanceMethod yX2_hasMember, Cond.selects RX2 yX2_hasMember yX2_hasMember, Cond.code yX2_hasMember cX2_hasMember 2 (some .boolean), Cond.methodLink RX0 100 yX2_numberGroups, Cond.instanceMethod yX2_numberGroups, Cond.selects RX2 yX2_numberGroups yX2_numberGroups, Cond.code yX2_numberGroups cX2_numberGroups 2 none, Cond.fieldLink RX2 22 "DiagramCode$Groups" "count" "I", Cond.fieldLink RX2 15 "DiagramCode$Groups" "numberOf" "[I", Cond.methodLink RX2 41 yX2_numberOf, Cond.instanceMethod yX2_numberOf, Cond.selects RX2 yX2_numberOf yX2_numberOf, Cond.code yX2_numberOf cX2_numberOf 2 (some .int), Cond.methodLink RX0 66 yX0_traceFaces, Cond.instanceMethod yX0_traceFaces, Cond.selects RX0 yX0_traceFaces yX0_traceFaces, Cond.code yX0_traceFaces cX0_traceFaces 2 none, Cond.fieldLink RX0 45 "DiagramCode$Chart" "faces" "LDiagramCode$Rounds;", Cond.methodLink RX0 103 yX3_begin]
def wsX5_number_r9 : List Cond := [Cond.instanceMethod yX3_begin, Cond.selects RX3 yX3_begin yX3_begin, Cond.code yX3_begin cX3_begin 2 none, Cond.methodLink RX3 43 Lib.Math.min.name, Cond.methodLink RX0 104 yX4_beside, Cond.static yX4_beside, Cond.code yX4_beside cX4_beside 1 (some .int), Cond.methodLink RX0 107 yX1_dartFrom, Cond.instanceMethod yX1_dartFrom, Cond.selects RX1 yX1_dartFrom yX1_dartFrom, Cond.code yX1_dartFrom cX1_dartFrom 3 (some .int), Cond.methodLink RX1 35 yX1_at, Cond.methodLink RX1 39 yX1_from, Cond.methodLink RX0 110 yX3_link, Cond.instanceMethod yX3_link, Cond.selects RX3 yX3_link yX3_link, Cond.code yX3_link cX3_link 3 none, Cond.methodLink RX0 113 yX3_trace, Cond.instanceMethod yX3_trace, Cond.selects RX3 yX3_trace yX3_trace, Cond.code yX3_trace cX3_trace 2 none, Cond.fieldLink RX3 15 "DiagramCode$Rounds" "roundOf" "[I", Cond.methodLink RX3 49 yJ7_fill_53178, Cond.methodLink RX3 55 yX3_walk]
def wsX5_number_r10 : List Cond := [Cond.instanceMethod yX3_walk, Cond.selects RX3 yX3_walk yX3_walk, Cond.code yX3_walk cX3_walk 4 none, Cond.methodLink RX0 69 yX0_leastCrossingOnNoSphere, Cond.instanceMethod yX0_leastCrossingOnNoSphere, Cond.selects RX0 yX0_leastCrossingOnNoSphere yX0_leastCrossingOnNoSphere, Cond.code yX0_leastCrossingOnNoSphere cX0_leastCrossingOnNoSphere 2 (some .int), Cond.methodLink RX0 116 yX2_least, Cond.methodLink RX0 119 yX2_numberOf, Cond.methodLink RX0 122 yX0_facesLessCrossings, Cond.instanceMethod yX0_facesLessCrossings, Cond.selects RX0 yX0_facesLessCrossings yX0_facesLessCrossings, Cond.code yX0_facesLessCrossings cX0_facesLessCrossings 4 (some .int), Cond.methodLink RX0 129 yX0_pieceOfEdge, Cond.instanceMethod yX0_pieceOfEdge, Cond.selects RX0 yX0_pieceOfEdge yX0_pieceOfEdge, Cond.code yX0_pieceOfEdge cX0_pieceOfEdge 2 (some .int), Cond.methodLink RX0 73 yX0_traceStrands, Cond.instanceMethod yX0_traceStrands, Cond.selects RX0 yX0_traceStrands yX0_traceStrands, Cond.code yX0_traceStrands cX0_traceStrands 2 none, Cond.fieldLink RX0 42 "DiagramCode$Chart" "seifert" "LDiagramCode$Rounds;", Cond.methodLink RX0 132 yX4_across, Cond.static yX4_across]
def wsX5_number_r11 : List Cond := [Cond.code yX4_across cX4_across 1 (some .int), Cond.methodLink RX0 138 yX4_seifertOut, Cond.instanceMethod yX4_seifertOut, Cond.selects RX4 yX4_seifertOut yX4_seifertOut, Cond.code yX4_seifertOut cX4_seifertOut 3 (some .int), Cond.methodLink RX4 40 yX4_isUpper, Cond.static yX4_isUpper, Cond.code yX4_isUpper cX4_isUpper 1 (some .boolean), Cond.methodLink RX0 76 yX0_groupArcs, Cond.instanceMethod yX0_groupArcs, Cond.selects RX0 yX0_groupArcs yX0_groupArcs, Cond.code yX0_groupArcs cX0_groupArcs 2 none, Cond.fieldLink RX0 32 "DiagramCode$Chart" "arcs" "LDiagramCode$Groups;", Cond.methodLink RX0 141 yX4_isUpper]
def wsX5_number : List Cond := .code yX5_number cX5_number 1 none :: ((wsX5_number_r1 ++ (wsX5_number_r2 ++ (wsX5_number_r3 ++ (wsX5_number_r4 ++ (wsX5_number_r5 ++ (wsX5_number_r6 ++ (wsX5_number_r7 ++ (wsX5_number_r8 ++ (wsX5_number_r9 ++ (wsX5_number_r10 ++ wsX5_number_r11)))))))))) ++ wsX50 ++ wsX00 ++ wsX30 ++ wsX40 ++ wsX10 ++ wsX20)
def wsX5_change_r1 : List Cond := [Cond.fieldLink RX5 16 "DiagramCode" "held" "LDiagramCode$Chart;", Cond.fieldLink RX5 30 "DiagramCode$Chart" "row" "LDiagramCode$Row;", Cond.methodLink RX5 91 yX4_has, Cond.instanceMethod yX4_has, Cond.selects RX4 yX4_has yX4_has, Cond.initialized RX4, Cond.code yX4_has cX4_has 2 (some .boolean), Cond.fieldLink RX4 18 "DiagramCode$Row" "crossings" "I", Cond.methodLink RX5 164 yX4_exchangeStrands, Cond.instanceMethod yX4_exchangeStrands, Cond.selects RX4 yX4_exchangeStrands yX4_exchangeStrands, Cond.code yX4_exchangeStrands cX4_exchangeStrands 2 none, Cond.methodLink RX4 43 yX4_upperIn, Cond.instanceMethod yX4_upperIn, Cond.selects RX4 yX4_upperIn yX4_upperIn, Cond.code yX4_upperIn cX4_upperIn 2 (some .int), Cond.methodLink RX4 30 yX4_sign, Cond.instanceMethod yX4_sign, Cond.selects RX4 yX4_sign yX4_sign, Cond.code yX4_sign cX4_sign 2 (some .int), Cond.fieldLink RX4 9 "DiagramCode$Row" "signs" "[I", Cond.methodLink RX4 22 yX4_has, Cond.methodLink RX4 46 yX4_beginPlacesAt, Cond.instanceMethod yX4_beginPlacesAt]
def wsX5_change_r2 : List Cond := [Cond.selects RX4 yX4_beginPlacesAt yX4_beginPlacesAt, Cond.code yX4_beginPlacesAt cX4_beginPlacesAt 6 none, Cond.fieldLink RX4 15 "DiagramCode$Row" "labels" "[I", Cond.methodLink RX4 50 yX4_flipSign, Cond.instanceMethod yX4_flipSign, Cond.selects RX4 yX4_flipSign yX4_flipSign, Cond.code yX4_flipSign cX4_flipSign 2 none, Cond.methodLink RX5 44 yX0_survey, Cond.instanceMethod yX0_survey, Cond.selects RX0 yX0_survey yX0_survey, Cond.initialized RX0, Cond.code yX0_survey cX0_survey 1 (some .int), Cond.fieldLink RX0 21 "DiagramCode$Chart" "edges" "LDiagramCode$Edges;", Cond.fieldLink RX0 12 "DiagramCode$Chart" "row" "LDiagramCode$Row;", Cond.fieldLink RX0 52 "DiagramCode$Chart" "wrong" "I", Cond.methodLink RX0 56 yX1_gatherLabels, Cond.instanceMethod yX1_gatherLabels, Cond.selects RX1 yX1_gatherLabels yX1_gatherLabels, Cond.initialized RX1, Cond.code yX1_gatherLabels cX1_gatherLabels 3 (some .int), Cond.fieldLink RX1 27 "DiagramCode$Edges" "count" "I", Cond.fieldLink RX1 15 "DiagramCode$Edges" "times" "[I", Cond.fieldLink RX1 9 "DiagramCode$Edges" "labels" "[I", Cond.methodLink RX1 41 yX4_spots]
def wsX5_change_r3 : List Cond := [Cond.instanceMethod yX4_spots, Cond.selects RX4 yX4_spots yX4_spots, Cond.code yX4_spots cX4_spots 1 (some .int), Cond.methodLink RX1 47 yX4_label, Cond.instanceMethod yX4_label, Cond.selects RX4 yX4_label yX4_label, Cond.code yX4_label cX4_label 2 (some .int), Cond.methodLink RX4 26 yX4_spots, Cond.methodLink RX1 50 yX1_countLabel, Cond.instanceMethod yX1_countLabel, Cond.selects RX1 yX1_countLabel yX1_countLabel, Cond.code yX1_countLabel cX1_countLabel 4 none, Cond.methodLink RX1 54 yX1_countLess, Cond.instanceMethod yX1_countLess, Cond.selects RX1 yX1_countLess yX1_countLess, Cond.code yX1_countLess cX1_countLess 3 (some .int), Cond.methodLink RX1 31 yX1_has, Cond.instanceMethod yX1_has, Cond.selects RX1 yX1_has yX1_has, Cond.code yX1_has cX1_has 2 (some .boolean), Cond.methodLink RX0 60 yX1_findEnds, Cond.instanceMethod yX1_findEnds, Cond.selects RX1 yX1_findEnds yX1_findEnds, Cond.code yX1_findEnds cX1_findEnds 3 (some .int)]
def wsX5_change_r4 : List Cond := [Cond.fieldLink RX1 18 "DiagramCode$Edges" "from" "[I", Cond.fieldLink RX1 21 "DiagramCode$Edges" "to" "[I", Cond.methodLink RX1 57 yJ7_fill_53178, Cond.static yJ7_fill_53178, Cond.initialized RJ7, Cond.code yJ7_fill_53178 cJ7_fill_53178 4 none, Cond.methodLink RX1 63 yX1_rank, Cond.instanceMethod yX1_rank, Cond.selects RX1 yX1_rank yX1_rank, Cond.code yX1_rank cX1_rank 3 (some .int), Cond.methodLink RX1 66 yX4_goesOut, Cond.instanceMethod yX4_goesOut, Cond.selects RX4 yX4_goesOut yX4_goesOut, Cond.code yX4_goesOut cX4_goesOut 3 (some .boolean), Cond.methodLink RX4 34 yX4_lowerOut, Cond.static yX4_lowerOut, Cond.code yX4_lowerOut cX4_lowerOut 1 (some .int), Cond.methodLink RX4 37 yX4_upperOut, Cond.instanceMethod yX4_upperOut, Cond.selects RX4 yX4_upperOut yX4_upperOut, Cond.code yX4_upperOut cX4_upperOut 2 (some .int), Cond.methodLink RX1 69 yX1_noteEnd, Cond.instanceMethod yX1_noteEnd, Cond.selects RX1 yX1_noteEnd yX1_noteEnd]
def wsX5_change_r5 : List Cond := [Cond.code yX1_noteEnd cX1_noteEnd 4 none, Cond.fieldLink RX1 24 "DiagramCode$Edges" "edgeAt" "[I", Cond.methodLink RX0 63 yX0_groupPieces, Cond.instanceMethod yX0_groupPieces, Cond.selects RX0 yX0_groupPieces yX0_groupPieces, Cond.code yX0_groupPieces cX0_groupPieces 2 none, Cond.fieldLink RX0 28 "DiagramCode$Chart" "pieces" "LDiagramCode$Groups;", Cond.methodLink RX0 79 yX4_crossings, Cond.instanceMethod yX4_crossings, Cond.selects RX4 yX4_crossings yX4_crossings, Cond.code yX4_crossings cX4_crossings 1 (some .int), Cond.methodLink RX0 82 yX2_begin, Cond.instanceMethod yX2_begin, Cond.selects RX2 yX2_begin yX2_begin, Cond.initialized RX2, Cond.code yX2_begin cX2_begin 3 none, Cond.methodLink RX2 29 Lib.Math.min.name, Cond.static Lib.Math.min.name, Cond.initialized "java/lang/Math", Cond.code Lib.Math.min.name Lib.Math.min.code 2 (some .int), Cond.fieldLink RX2 18 "DiagramCode$Groups" "members" "I", Cond.fieldLink RX2 9 "DiagramCode$Groups" "least" "[I", Cond.methodLink RX0 86 yX1_count, Cond.instanceMethod yX1_count]
def wsX5_change_r6 : List Cond := [Cond.selects RX1 yX1_count yX1_count, Cond.code yX1_count cX1_count 1 (some .int), Cond.methodLink RX0 89 yX1_from, Cond.instanceMethod yX1_from, Cond.selects RX1 yX1_from yX1_from, Cond.code yX1_from cX1_from 2 (some .int), Cond.methodLink RX0 93 yX1_to, Cond.instanceMethod yX1_to, Cond.selects RX1 yX1_to yX1_to, Cond.code yX1_to cX1_to 2 (some .int), Cond.methodLink RX0 96 yX2_join, Cond.instanceMethod yX2_join, Cond.selects RX2 yX2_join yX2_join, Cond.code yX2_join cX2_join 6 none, Cond.methodLink RX2 38 Lib.Math.max.name, Cond.static Lib.Math.max.name, Cond.code Lib.Math.max.name Lib.Math.max.code 2 (some .int), Cond.methodLink RX2 35 yX2_least, Cond.instanceMethod yX2_least, Cond.selects RX2 yX2_least yX2_least, Cond.code yX2_least cX2_least 2 (some .int), Cond.methodLink RX2 25 yX2_hasMember, Cond.instanceMethod yX2_hasMember, Cond.selects RX2 yX2_hasMember yX2_hasMember]
def wsX5_change_r7 : List Cond := [Cond.code yX2_hasMember cX2_hasMember 2 (some .boolean), Cond.methodLink RX0 100 yX2_numberGroups, Cond.instanceMethod yX2_numberGroups, Cond.selects RX2 yX2_numberGroups yX2_numberGroups, Cond.code yX2_numberGroups cX2_numberGroups 2 none, Cond.fieldLink RX2 22 "DiagramCode$Groups" "count" "I", Cond.fieldLink RX2 15 "DiagramCode$Groups" "numberOf" "[I", Cond.methodLink RX2 41 yX2_numberOf, Cond.instanceMethod yX2_numberOf, Cond.selects RX2 yX2_numberOf yX2_numberOf, Cond.code yX2_numberOf cX2_numberOf 2 (some .int), Cond.methodLink RX0 66 yX0_traceFaces, Cond.instanceMethod yX0_traceFaces, Cond.selects RX0 yX0_traceFaces yX0_traceFaces, Cond.code yX0_traceFaces cX0_traceFaces 2 none, Cond.fieldLink RX0 45 "DiagramCode$Chart" "faces" "LDiagramCode$Rounds;", Cond.methodLink RX0 103 yX3_begin, Cond.instanceMethod yX3_begin, Cond.selects RX3 yX3_begin yX3_begin, Cond.initialized RX3, Cond.code yX3_begin cX3_begin 2 none, Cond.methodLink RX3 43 Lib.Math.min.name, Cond.fieldLink RX3 24 "DiagramCode$Rounds" "members" "I", Cond.fieldLink RX3 28 "DiagramCode$Rounds" "count" "I"]
def wsX5_change_r8 : List Cond := [Cond.methodLink RX0 104 yX4_beside, Cond.static yX4_beside, Cond.code yX4_beside cX4_beside 1 (some .int), Cond.methodLink RX0 107 yX1_dartFrom, Cond.instanceMethod yX1_dartFrom, Cond.selects RX1 yX1_dartFrom yX1_dartFrom, Cond.code yX1_dartFrom cX1_dartFrom 3 (some .int), Cond.methodLink RX1 35 yX1_at, Cond.instanceMethod yX1_at, Cond.selects RX1 yX1_at yX1_at, Cond.code yX1_at cX1_at 2 (some .int), Cond.methodLink RX1 39 yX1_from, Cond.methodLink RX0 110 yX3_link, Cond.instanceMethod yX3_link, Cond.selects RX3 yX3_link yX3_link, Cond.code yX3_link cX3_link 3 none, Cond.fieldLink RX3 9 "DiagramCode$Rounds" "next" "[I", Cond.methodLink RX3 31 yX3_hasMember, Cond.instanceMethod yX3_hasMember, Cond.selects RX3 yX3_hasMember yX3_hasMember, Cond.code yX3_hasMember cX3_hasMember 2 (some .boolean), Cond.methodLink RX0 113 yX3_trace, Cond.instanceMethod yX3_trace, Cond.selects RX3 yX3_trace yX3_trace]
def wsX5_change_r9 : List Cond := [Cond.code yX3_trace cX3_trace 2 none, Cond.fieldLink RX3 15 "DiagramCode$Rounds" "roundOf" "[I", Cond.methodLink RX3 49 yJ7_fill_53178, Cond.methodLink RX3 55 yX3_walk, Cond.instanceMethod yX3_walk, Cond.selects RX3 yX3_walk yX3_walk, Cond.code yX3_walk cX3_walk 4 none, Cond.fieldLink RX3 18 "DiagramCode$Rounds" "first" "[I", Cond.fieldLink RX3 21 "DiagramCode$Rounds" "size" "[I", Cond.methodLink RX0 69 yX0_leastCrossingOnNoSphere, Cond.instanceMethod yX0_leastCrossingOnNoSphere, Cond.selects RX0 yX0_leastCrossingOnNoSphere yX0_leastCrossingOnNoSphere, Cond.code yX0_leastCrossingOnNoSphere cX0_leastCrossingOnNoSphere 2 (some .int), Cond.methodLink RX0 116 yX2_least, Cond.methodLink RX0 119 yX2_numberOf, Cond.methodLink RX0 122 yX0_facesLessCrossings, Cond.instanceMethod yX0_facesLessCrossings, Cond.selects RX0 yX0_facesLessCrossings yX0_facesLessCrossings, Cond.code yX0_facesLessCrossings cX0_facesLessCrossings 4 (some .int), Cond.methodLink RX0 125 yX3_count, Cond.instanceMethod yX3_count, Cond.selects RX3 yX3_count yX3_count, Cond.code yX3_count cX3_count 1 (some .int), Cond.methodLink RX0 126 yX3_first]
def wsX5_change_r10 : List Cond := [Cond.instanceMethod yX3_first, Cond.selects RX3 yX3_first yX3_first, Cond.code yX3_first cX3_first 2 (some .int), Cond.methodLink RX3 35 yX3_hasRound, Cond.instanceMethod yX3_hasRound, Cond.selects RX3 yX3_hasRound yX3_hasRound, Cond.code yX3_hasRound cX3_hasRound 2 (some .boolean), Cond.methodLink RX0 129 yX0_pieceOfEdge, Cond.instanceMethod yX0_pieceOfEdge, Cond.selects RX0 yX0_pieceOfEdge yX0_pieceOfEdge, Cond.code yX0_pieceOfEdge cX0_pieceOfEdge 2 (some .int), Cond.methodLink RX0 73 yX0_traceStrands, Cond.instanceMethod yX0_traceStrands, Cond.selects RX0 yX0_traceStrands yX0_traceStrands, Cond.code yX0_traceStrands cX0_traceStrands 2 none, Cond.fieldLink RX0 38 "DiagramCode$Chart" "components" "LDiagramCode$Rounds;", Cond.fieldLink RX0 42 "DiagramCode$Chart" "seifert" "LDiagramCode$Rounds;", Cond.methodLink RX0 132 yX4_across, Cond.static yX4_across, Cond.code yX4_across cX4_across 1 (some .int), Cond.methodLink RX0 135 yX1_at, Cond.methodLink RX0 138 yX4_seifertOut, Cond.instanceMethod yX4_seifertOut, Cond.selects RX4 yX4_seifertOut yX4_seifertOut]
def wsX5_change_r11 : List Cond := [Cond.code yX4_seifertOut cX4_seifertOut 3 (some .int), Cond.methodLink RX4 40 yX4_isUpper, Cond.static yX4_isUpper, Cond.code yX4_isUpper cX4_isUpper 1 (some .boolean), Cond.methodLink RX0 76 yX0_groupArcs, Cond.instanceMethod yX0_groupArcs, Cond.selects RX0 yX0_groupArcs yX0_groupArcs, Cond.code yX0_groupArcs cX0_groupArcs 2 none, Cond.fieldLink RX0 32 "DiagramCode$Chart" "arcs" "LDiagramCode$Groups;", Cond.methodLink RX0 141 yX4_isUpper, Cond.methodLink RX0 145 yX3_next, Cond.instanceMethod yX3_next, Cond.selects RX3 yX3_next yX3_next, Cond.code yX3_next cX3_next 2 (some .int)]
def wsX5_change : List Cond := .code yX5_change cX5_change 2 (some .boolean) :: ((wsX5_change_r1 ++ (wsX5_change_r2 ++ (wsX5_change_r3 ++ (wsX5_change_r4 ++ (wsX5_change_r5 ++ (wsX5_change_r6 ++ (wsX5_change_r7 ++ (wsX5_change_r8 ++ (wsX5_change_r9 ++ (wsX5_change_r10 ++ wsX5_change_r11)))))))))) ++ wsX50 ++ wsX00 ++ wsX40 ++ wsX10 ++ wsX20 ++ wsX30)
def wsX5_smooth_r1 : List Cond := [Cond.fieldLink RX5 16 "DiagramCode" "held" "LDiagramCode$Chart;", Cond.fieldLink RX5 30 "DiagramCode$Chart" "row" "LDiagramCode$Row;", Cond.fieldLink RX5 19 "DiagramCode" "circles" "I", Cond.methodLink RX5 91 yX4_has, Cond.instanceMethod yX4_has, Cond.selects RX4 yX4_has yX4_has, Cond.initialized RX4, Cond.code yX4_has cX4_has 2 (some .boolean), Cond.fieldLink RX4 18 "DiagramCode$Row" "crossings" "I", Cond.methodLink RX5 167 yX4_smoothAway, Cond.instanceMethod yX4_smoothAway, Cond.selects RX4 yX4_smoothAway yX4_smoothAway, Cond.code yX4_smoothAway cX4_smoothAway 3 (some .int), Cond.methodLink RX4 22 yX4_has, Cond.methodLink RX4 57 yX4_lowerIn, Cond.static yX4_lowerIn, Cond.code yX4_lowerIn cX4_lowerIn 1 (some .int), Cond.methodLink RX4 60 yX4_label, Cond.instanceMethod yX4_label, Cond.selects RX4 yX4_label yX4_label, Cond.code yX4_label cX4_label 2 (some .int), Cond.fieldLink RX4 15 "DiagramCode$Row" "labels" "[I", Cond.methodLink RX4 26 yX4_spots, Cond.instanceMethod yX4_spots]
def wsX5_smooth_r2 : List Cond := [Cond.selects RX4 yX4_spots yX4_spots, Cond.code yX4_spots cX4_spots 1 (some .int), Cond.methodLink RX4 37 yX4_upperOut, Cond.instanceMethod yX4_upperOut, Cond.selects RX4 yX4_upperOut yX4_upperOut, Cond.code yX4_upperOut cX4_upperOut 2 (some .int), Cond.methodLink RX4 30 yX4_sign, Cond.instanceMethod yX4_sign, Cond.selects RX4 yX4_sign yX4_sign, Cond.code yX4_sign cX4_sign 2 (some .int), Cond.fieldLink RX4 9 "DiagramCode$Row" "signs" "[I", Cond.methodLink RX4 63 yX4_joinEdges, Cond.instanceMethod yX4_joinEdges, Cond.selects RX4 yX4_joinEdges yX4_joinEdges, Cond.code yX4_joinEdges cX4_joinEdges 6 (some .int), Cond.methodLink RX4 70 Lib.Math.min.name, Cond.static Lib.Math.min.name, Cond.initialized "java/lang/Math", Cond.code Lib.Math.min.name Lib.Math.min.code 2 (some .int), Cond.methodLink RX4 75 Lib.Math.max.name, Cond.static Lib.Math.max.name, Cond.code Lib.Math.max.name Lib.Math.max.code 2 (some .int), Cond.methodLink RX4 43 yX4_upperIn, Cond.instanceMethod yX4_upperIn]
def wsX5_smooth_r3 : List Cond := [Cond.selects RX4 yX4_upperIn yX4_upperIn, Cond.code yX4_upperIn cX4_upperIn 2 (some .int), Cond.methodLink RX4 34 yX4_lowerOut, Cond.static yX4_lowerOut, Cond.code yX4_lowerOut cX4_lowerOut 1 (some .int), Cond.methodLink RX4 67 yX4_dropCrossing, Cond.instanceMethod yX4_dropCrossing, Cond.selects RX4 yX4_dropCrossing yX4_dropCrossing, Cond.code yX4_dropCrossing cX4_dropCrossing 3 none, Cond.methodLink RX5 44 yX0_survey, Cond.instanceMethod yX0_survey, Cond.selects RX0 yX0_survey yX0_survey, Cond.initialized RX0, Cond.code yX0_survey cX0_survey 1 (some .int), Cond.fieldLink RX0 21 "DiagramCode$Chart" "edges" "LDiagramCode$Edges;", Cond.fieldLink RX0 12 "DiagramCode$Chart" "row" "LDiagramCode$Row;", Cond.fieldLink RX0 52 "DiagramCode$Chart" "wrong" "I", Cond.methodLink RX0 56 yX1_gatherLabels, Cond.instanceMethod yX1_gatherLabels, Cond.selects RX1 yX1_gatherLabels yX1_gatherLabels, Cond.initialized RX1, Cond.code yX1_gatherLabels cX1_gatherLabels 3 (some .int), Cond.fieldLink RX1 27 "DiagramCode$Edges" "count" "I", Cond.fieldLink RX1 15 "DiagramCode$Edges" "times" "[I"]
def wsX5_smooth_r4 : List Cond := [Cond.fieldLink RX1 9 "DiagramCode$Edges" "labels" "[I", Cond.methodLink RX1 41 yX4_spots, Cond.methodLink RX1 47 yX4_label, Cond.methodLink RX1 50 yX1_countLabel, Cond.instanceMethod yX1_countLabel, Cond.selects RX1 yX1_countLabel yX1_countLabel, Cond.code yX1_countLabel cX1_countLabel 4 none, Cond.methodLink RX1 54 yX1_countLess, Cond.instanceMethod yX1_countLess, Cond.selects RX1 yX1_countLess yX1_countLess, Cond.code yX1_countLess cX1_countLess 3 (some .int), Cond.methodLink RX1 31 yX1_has, Cond.instanceMethod yX1_has, Cond.selects RX1 yX1_has yX1_has, Cond.code yX1_has cX1_has 2 (some .boolean), Cond.methodLink RX0 60 yX1_findEnds, Cond.instanceMethod yX1_findEnds, Cond.selects RX1 yX1_findEnds yX1_findEnds, Cond.code yX1_findEnds cX1_findEnds 3 (some .int), Cond.fieldLink RX1 18 "DiagramCode$Edges" "from" "[I", Cond.fieldLink RX1 21 "DiagramCode$Edges" "to" "[I", Cond.methodLink RX1 57 yJ7_fill_53178, Cond.static yJ7_fill_53178, Cond.initialized RJ7]
def wsX5_smooth_r5 : List Cond := [Cond.code yJ7_fill_53178 cJ7_fill_53178 4 none, Cond.methodLink RX1 63 yX1_rank, Cond.instanceMethod yX1_rank, Cond.selects RX1 yX1_rank yX1_rank, Cond.code yX1_rank cX1_rank 3 (some .int), Cond.methodLink RX1 66 yX4_goesOut, Cond.instanceMethod yX4_goesOut, Cond.selects RX4 yX4_goesOut yX4_goesOut, Cond.code yX4_goesOut cX4_goesOut 3 (some .boolean), Cond.methodLink RX1 69 yX1_noteEnd, Cond.instanceMethod yX1_noteEnd, Cond.selects RX1 yX1_noteEnd yX1_noteEnd, Cond.code yX1_noteEnd cX1_noteEnd 4 none, Cond.fieldLink RX1 24 "DiagramCode$Edges" "edgeAt" "[I", Cond.methodLink RX0 63 yX0_groupPieces, Cond.instanceMethod yX0_groupPieces, Cond.selects RX0 yX0_groupPieces yX0_groupPieces, Cond.code yX0_groupPieces cX0_groupPieces 2 none, Cond.fieldLink RX0 28 "DiagramCode$Chart" "pieces" "LDiagramCode$Groups;", Cond.methodLink RX0 79 yX4_crossings, Cond.instanceMethod yX4_crossings, Cond.selects RX4 yX4_crossings yX4_crossings, Cond.code yX4_crossings cX4_crossings 1 (some .int), Cond.methodLink RX0 82 yX2_begin]
def wsX5_smooth_r6 : List Cond := [Cond.instanceMethod yX2_begin, Cond.selects RX2 yX2_begin yX2_begin, Cond.initialized RX2, Cond.code yX2_begin cX2_begin 3 none, Cond.methodLink RX2 29 Lib.Math.min.name, Cond.fieldLink RX2 18 "DiagramCode$Groups" "members" "I", Cond.fieldLink RX2 9 "DiagramCode$Groups" "least" "[I", Cond.methodLink RX0 86 yX1_count, Cond.instanceMethod yX1_count, Cond.selects RX1 yX1_count yX1_count, Cond.code yX1_count cX1_count 1 (some .int), Cond.methodLink RX0 89 yX1_from, Cond.instanceMethod yX1_from, Cond.selects RX1 yX1_from yX1_from, Cond.code yX1_from cX1_from 2 (some .int), Cond.methodLink RX0 93 yX1_to, Cond.instanceMethod yX1_to, Cond.selects RX1 yX1_to yX1_to, Cond.code yX1_to cX1_to 2 (some .int), Cond.methodLink RX0 96 yX2_join, Cond.instanceMethod yX2_join, Cond.selects RX2 yX2_join yX2_join, Cond.code yX2_join cX2_join 6 none, Cond.methodLink RX2 38 Lib.Math.max.name]
def wsX5_smooth_r7 : List Cond := [Cond.methodLink RX2 35 yX2_least, Cond.instanceMethod yX2_least, Cond.selects RX2 yX2_least yX2_least, Cond.code yX2_least cX2_least 2 (some .int), Cond.methodLink RX2 25 yX2_hasMember, Cond.instanceMethod yX2_hasMember, Cond.selects RX2 yX2_hasMember yX2_hasMember, Cond.code yX2_hasMember cX2_hasMember 2 (some .boolean), Cond.methodLink RX0 100 yX2_numberGroups, Cond.instanceMethod yX2_numberGroups, Cond.selects RX2 yX2_numberGroups yX2_numberGroups, Cond.code yX2_numberGroups cX2_numberGroups 2 none, Cond.fieldLink RX2 22 "DiagramCode$Groups" "count" "I", Cond.fieldLink RX2 15 "DiagramCode$Groups" "numberOf" "[I", Cond.methodLink RX2 41 yX2_numberOf, Cond.instanceMethod yX2_numberOf, Cond.selects RX2 yX2_numberOf yX2_numberOf, Cond.code yX2_numberOf cX2_numberOf 2 (some .int), Cond.methodLink RX0 66 yX0_traceFaces, Cond.instanceMethod yX0_traceFaces, Cond.selects RX0 yX0_traceFaces yX0_traceFaces, Cond.code yX0_traceFaces cX0_traceFaces 2 none, Cond.fieldLink RX0 45 "DiagramCode$Chart" "faces" "LDiagramCode$Rounds;", Cond.methodLink RX0 103 yX3_begin]
def wsX5_smooth_r8 : List Cond := [Cond.instanceMethod yX3_begin, Cond.selects RX3 yX3_begin yX3_begin, Cond.initialized RX3, Cond.code yX3_begin cX3_begin 2 none, Cond.methodLink RX3 43 Lib.Math.min.name, Cond.fieldLink RX3 24 "DiagramCode$Rounds" "members" "I", Cond.fieldLink RX3 28 "DiagramCode$Rounds" "count" "I", Cond.methodLink RX0 104 yX4_beside, Cond.static yX4_beside, Cond.code yX4_beside cX4_beside 1 (some .int), Cond.methodLink RX0 107 yX1_dartFrom, Cond.instanceMethod yX1_dartFrom, Cond.selects RX1 yX1_dartFrom yX1_dartFrom, Cond.code yX1_dartFrom cX1_dartFrom 3 (some .int), Cond.methodLink RX1 35 yX1_at, Cond.instanceMethod yX1_at, Cond.selects RX1 yX1_at yX1_at, Cond.code yX1_at cX1_at 2 (some .int), Cond.methodLink RX1 39 yX1_from, Cond.methodLink RX0 110 yX3_link, Cond.instanceMethod yX3_link, Cond.selects RX3 yX3_link yX3_link, Cond.code yX3_link cX3_link 3 none, Cond.fieldLink RX3 9 "DiagramCode$Rounds" "next" "[I"]
def wsX5_smooth_r9 : List Cond := [Cond.methodLink RX3 31 yX3_hasMember, Cond.instanceMethod yX3_hasMember, Cond.selects RX3 yX3_hasMember yX3_hasMember, Cond.code yX3_hasMember cX3_hasMember 2 (some .boolean), Cond.methodLink RX0 113 yX3_trace, Cond.instanceMethod yX3_trace, Cond.selects RX3 yX3_trace yX3_trace, Cond.code yX3_trace cX3_trace 2 none, Cond.fieldLink RX3 15 "DiagramCode$Rounds" "roundOf" "[I", Cond.methodLink RX3 49 yJ7_fill_53178, Cond.methodLink RX3 55 yX3_walk, Cond.instanceMethod yX3_walk, Cond.selects RX3 yX3_walk yX3_walk, Cond.code yX3_walk cX3_walk 4 none, Cond.fieldLink RX3 18 "DiagramCode$Rounds" "first" "[I", Cond.fieldLink RX3 21 "DiagramCode$Rounds" "size" "[I", Cond.methodLink RX0 69 yX0_leastCrossingOnNoSphere, Cond.instanceMethod yX0_leastCrossingOnNoSphere, Cond.selects RX0 yX0_leastCrossingOnNoSphere yX0_leastCrossingOnNoSphere, Cond.code yX0_leastCrossingOnNoSphere cX0_leastCrossingOnNoSphere 2 (some .int), Cond.methodLink RX0 116 yX2_least, Cond.methodLink RX0 119 yX2_numberOf, Cond.methodLink RX0 122 yX0_facesLessCrossings, Cond.instanceMethod yX0_facesLessCrossings]
def wsX5_smooth_r10 : List Cond := [Cond.selects RX0 yX0_facesLessCrossings yX0_facesLessCrossings, Cond.code yX0_facesLessCrossings cX0_facesLessCrossings 4 (some .int), Cond.methodLink RX0 125 yX3_count, Cond.instanceMethod yX3_count, Cond.selects RX3 yX3_count yX3_count, Cond.code yX3_count cX3_count 1 (some .int), Cond.methodLink RX0 126 yX3_first, Cond.instanceMethod yX3_first, Cond.selects RX3 yX3_first yX3_first, Cond.code yX3_first cX3_first 2 (some .int), Cond.methodLink RX3 35 yX3_hasRound, Cond.instanceMethod yX3_hasRound, Cond.selects RX3 yX3_hasRound yX3_hasRound, Cond.code yX3_hasRound cX3_hasRound 2 (some .boolean), Cond.methodLink RX0 129 yX0_pieceOfEdge, Cond.instanceMethod yX0_pieceOfEdge, Cond.selects RX0 yX0_pieceOfEdge yX0_pieceOfEdge, Cond.code yX0_pieceOfEdge cX0_pieceOfEdge 2 (some .int), Cond.methodLink RX0 73 yX0_traceStrands, Cond.instanceMethod yX0_traceStrands, Cond.selects RX0 yX0_traceStrands yX0_traceStrands, Cond.code yX0_traceStrands cX0_traceStrands 2 none, Cond.fieldLink RX0 38 "DiagramCode$Chart" "components" "LDiagramCode$Rounds;", Cond.fieldLink RX0 42 "DiagramCode$Chart" "seifert" "LDiagramCode$Rounds;"]
def wsX5_smooth_r11 : List Cond := [Cond.methodLink RX0 132 yX4_across, Cond.static yX4_across, Cond.code yX4_across cX4_across 1 (some .int), Cond.methodLink RX0 135 yX1_at, Cond.methodLink RX0 138 yX4_seifertOut, Cond.instanceMethod yX4_seifertOut, Cond.selects RX4 yX4_seifertOut yX4_seifertOut, Cond.code yX4_seifertOut cX4_seifertOut 3 (some .int), Cond.methodLink RX4 40 yX4_isUpper, Cond.static yX4_isUpper, Cond.code yX4_isUpper cX4_isUpper 1 (some .boolean), Cond.methodLink RX0 76 yX0_groupArcs, Cond.instanceMethod yX0_groupArcs, Cond.selects RX0 yX0_groupArcs yX0_groupArcs, Cond.code yX0_groupArcs cX0_groupArcs 2 none, Cond.fieldLink RX0 32 "DiagramCode$Chart" "arcs" "LDiagramCode$Groups;", Cond.methodLink RX0 141 yX4_isUpper, Cond.methodLink RX0 145 yX3_next, Cond.instanceMethod yX3_next, Cond.selects RX3 yX3_next yX3_next, Cond.code yX3_next cX3_next 2 (some .int)]
def wsX5_smooth : List Cond := .code yX5_smooth cX5_smooth 2 (some .boolean) :: ((wsX5_smooth_r1 ++ (wsX5_smooth_r2 ++ (wsX5_smooth_r3 ++ (wsX5_smooth_r4 ++ (wsX5_smooth_r5 ++ (wsX5_smooth_r6 ++ (wsX5_smooth_r7 ++ (wsX5_smooth_r8 ++ (wsX5_smooth_r9 ++ (wsX5_smooth_r10 ++ wsX5_smooth_r11)))))))))) ++ wsX50 ++ wsX00 ++ wsX40 ++ wsX10 ++ wsX20 ++ wsX30)
def wsX6_init : List Cond := .code yX6_init cX6_init 1 none :: ([.methodLink RX6 1 objectInit, .instanceMethod objectInit, .code objectInit ⟨#[0xb1]⟩ 1 none, .fieldLink RX6 7 "DiagramCodeModel" "wrong" "I", .arrayClass .int, .fieldLink RX6 13 "DiagramCodeModel" "putSign" "[I", .fieldLink RX6 17 "DiagramCodeModel" "putLabel" "[I", .fieldLink RX6 20 "DiagramCodeModel" "sign" "[I", .fieldLink RX6 23 "DiagramCodeModel" "label" "[I", .fieldLink RX6 26 "DiagramCodeModel" "oldSign" "[I", .fieldLink RX6 29 "DiagramCodeModel" "oldLabel" "[I", .fieldLink RX6 32 "DiagramCodeModel" "row" "[I", .fieldLink RX6 35 "DiagramCodeModel" "fresh" "[I", .arrayClass .boolean, .fieldLink RX6 38 "DiagramCodeModel" "lower" "[Z", .fieldLink RX6 42 "DiagramCodeModel" "upper" "[Z", .fieldLink RX6 45 "DiagramCodeModel" "piece" "[I", .fieldLink RX6 48 "DiagramCodeModel" "component" "[I", .fieldLink RX6 51 "DiagramCodeModel" "faceOf" "[I"] ++ wsX60)
def wsX6_isOut : List Cond := .code yX6_isOut cX6_isOut 3 (some .boolean) :: ([.fieldLink RX6 20 "DiagramCodeModel" "sign" "[I"] ++ wsX60)
def wsX6_isUpper : List Cond := .code yX6_isUpper cX6_isUpper 1 (some .boolean) :: ([])
def wsX6_placeOf : List Cond := .code yX6_placeOf cX6_placeOf 5 (some .int) :: ([.fieldLink RX6 57 "DiagramCodeModel" "n" "I", .fieldLink RX6 23 "DiagramCodeModel" "label" "[I", .methodLink RX6 60 yX6_isOut, .instanceMethod yX6_isOut, .selects RX6 yX6_isOut yX6_isOut, .initialized RX6, .code yX6_isOut cX6_isOut 3 (some .boolean), .fieldLink RX6 20 "DiagramCodeModel" "sign" "[I"] ++ wsX60)
def wsX6_across : List Cond := .code yX6_across cX6_across 1 (some .int) :: ([])
def wsX6_next : List Cond := .code yX6_next cX6_next 2 (some .int) :: ([.fieldLink RX6 23 "DiagramCodeModel" "label" "[I", .methodLink RX6 64 yX6_placeOf, .instanceMethod yX6_placeOf, .selects RX6 yX6_placeOf yX6_placeOf, .initialized RX6, .code yX6_placeOf cX6_placeOf 5 (some .int), .fieldLink RX6 57 "DiagramCodeModel" "n" "I", .methodLink RX6 60 yX6_isOut, .instanceMethod yX6_isOut, .selects RX6 yX6_isOut yX6_isOut, .code yX6_isOut cX6_isOut 3 (some .boolean), .fieldLink RX6 20 "DiagramCodeModel" "sign" "[I", .methodLink RX6 68 yX6_across, .static yX6_across, .code yX6_across cX6_across 1 (some .int)] ++ wsX60)
def wsX6_upperIn : List Cond := .code yX6_upperIn cX6_upperIn 2 (some .int) :: ([.fieldLink RX6 20 "DiagramCodeModel" "sign" "[I"] ++ wsX60)
def wsX6_sort : List Cond := .code yX6_sort cX6_sort 4 none :: ([.fieldLink RX6 72 "DiagramCodeModel" "labels" "I", .fieldLink RX6 57 "DiagramCodeModel" "n" "I", .fieldLink RX6 32 "DiagramCodeModel" "row" "[I", .fieldLink RX6 23 "DiagramCodeModel" "label" "[I"] ++ wsX60)
def wsX6_components_r1 : List Cond := [Cond.fieldLink RX6 48 "DiagramCodeModel" "component" "[I", Cond.fieldLink RX6 75 "DiagramCodeModel" "closed" "I", Cond.fieldLink RX6 72 "DiagramCodeModel" "labels" "I", Cond.fieldLink RX6 32 "DiagramCodeModel" "row" "[I", Cond.methodLink RX6 78 yX6_sort, Cond.instanceMethod yX6_sort, Cond.selects RX6 yX6_sort yX6_sort, Cond.initialized RX6, Cond.code yX6_sort cX6_sort 4 none, Cond.fieldLink RX6 57 "DiagramCodeModel" "n" "I", Cond.fieldLink RX6 23 "DiagramCodeModel" "label" "[I", Cond.methodLink RX6 64 yX6_placeOf, Cond.instanceMethod yX6_placeOf, Cond.selects RX6 yX6_placeOf yX6_placeOf, Cond.code yX6_placeOf cX6_placeOf 5 (some .int), Cond.methodLink RX6 60 yX6_isOut, Cond.instanceMethod yX6_isOut, Cond.selects RX6 yX6_isOut yX6_isOut, Cond.code yX6_isOut cX6_isOut 3 (some .boolean), Cond.fieldLink RX6 20 "DiagramCodeModel" "sign" "[I", Cond.methodLink RX6 81 yX6_next, Cond.instanceMethod yX6_next, Cond.selects RX6 yX6_next yX6_next, Cond.code yX6_next cX6_next 2 (some .int)]
def wsX6_components_r2 : List Cond := [Cond.methodLink RX6 68 yX6_across, Cond.static yX6_across, Cond.code yX6_across cX6_across 1 (some .int)]
def wsX6_components : List Cond := .code yX6_components cX6_components 4 none :: ((wsX6_components_r1 ++ wsX6_components_r2) ++ wsX60)
def wsX6_componentOf_r1 : List Cond := [Cond.fieldLink RX6 48 "DiagramCodeModel" "component" "[I", Cond.methodLink RX6 84 yX6_components, Cond.instanceMethod yX6_components, Cond.selects RX6 yX6_components yX6_components, Cond.initialized RX6, Cond.code yX6_components cX6_components 4 none, Cond.fieldLink RX6 75 "DiagramCodeModel" "closed" "I", Cond.fieldLink RX6 72 "DiagramCodeModel" "labels" "I", Cond.fieldLink RX6 32 "DiagramCodeModel" "row" "[I", Cond.methodLink RX6 78 yX6_sort, Cond.instanceMethod yX6_sort, Cond.selects RX6 yX6_sort yX6_sort, Cond.code yX6_sort cX6_sort 4 none, Cond.fieldLink RX6 57 "DiagramCodeModel" "n" "I", Cond.fieldLink RX6 23 "DiagramCodeModel" "label" "[I", Cond.methodLink RX6 64 yX6_placeOf, Cond.instanceMethod yX6_placeOf, Cond.selects RX6 yX6_placeOf yX6_placeOf, Cond.code yX6_placeOf cX6_placeOf 5 (some .int), Cond.methodLink RX6 60 yX6_isOut, Cond.instanceMethod yX6_isOut, Cond.selects RX6 yX6_isOut yX6_isOut, Cond.code yX6_isOut cX6_isOut 3 (some .boolean), Cond.fieldLink RX6 20 "DiagramCodeModel" "sign" "[I"]
def wsX6_componentOf_r2 : List Cond := [Cond.methodLink RX6 81 yX6_next, Cond.instanceMethod yX6_next, Cond.selects RX6 yX6_next yX6_next, Cond.code yX6_next cX6_next 2 (some .int), Cond.methodLink RX6 68 yX6_across, Cond.static yX6_across, Cond.code yX6_across cX6_across 1 (some .int)]
def wsX6_componentOf : List Cond := .code yX6_componentOf cX6_componentOf 2 (some .int) :: ((wsX6_componentOf_r1 ++ wsX6_componentOf_r2) ++ wsX60)
def wsX6_beginning_r1 : List Cond := [Cond.fieldLink RX6 72 "DiagramCodeModel" "labels" "I", Cond.fieldLink RX6 48 "DiagramCodeModel" "component" "[I", Cond.fieldLink RX6 32 "DiagramCodeModel" "row" "[I", Cond.methodLink RX6 84 yX6_components, Cond.instanceMethod yX6_components, Cond.selects RX6 yX6_components yX6_components, Cond.initialized RX6, Cond.code yX6_components cX6_components 4 none, Cond.fieldLink RX6 75 "DiagramCodeModel" "closed" "I", Cond.methodLink RX6 78 yX6_sort, Cond.instanceMethod yX6_sort, Cond.selects RX6 yX6_sort yX6_sort, Cond.code yX6_sort cX6_sort 4 none, Cond.fieldLink RX6 57 "DiagramCodeModel" "n" "I", Cond.fieldLink RX6 23 "DiagramCodeModel" "label" "[I", Cond.methodLink RX6 64 yX6_placeOf, Cond.instanceMethod yX6_placeOf, Cond.selects RX6 yX6_placeOf yX6_placeOf, Cond.code yX6_placeOf cX6_placeOf 5 (some .int), Cond.methodLink RX6 60 yX6_isOut, Cond.instanceMethod yX6_isOut, Cond.selects RX6 yX6_isOut yX6_isOut, Cond.code yX6_isOut cX6_isOut 3 (some .boolean), Cond.fieldLink RX6 20 "DiagramCodeModel" "sign" "[I"]
def wsX6_beginning_r2 : List Cond := [Cond.methodLink RX6 81 yX6_next, Cond.instanceMethod yX6_next, Cond.selects RX6 yX6_next yX6_next, Cond.code yX6_next cX6_next 2 (some .int), Cond.methodLink RX6 68 yX6_across, Cond.static yX6_across, Cond.code yX6_across cX6_across 1 (some .int)]
def wsX6_beginning : List Cond := .code yX6_beginning cX6_beginning 4 (some .int) :: ((wsX6_beginning_r1 ++ wsX6_beginning_r2) ++ wsX60)
def wsX6_hang : List Cond := .code yX6_hang cX6_hang 4 none :: ([.fieldLink RX6 57 "DiagramCodeModel" "n" "I", .fieldLink RX6 45 "DiagramCodeModel" "piece" "[I", .fieldLink RX6 23 "DiagramCodeModel" "label" "[I"] ++ wsX60)
def wsX6_pieceOf : List Cond := .code yX6_pieceOf cX6_pieceOf 4 (some .int) :: ([.fieldLink RX6 45 "DiagramCodeModel" "piece" "[I", .methodLink RX6 87 yX6_hang, .instanceMethod yX6_hang, .selects RX6 yX6_hang yX6_hang, .initialized RX6, .code yX6_hang cX6_hang 4 none, .fieldLink RX6 57 "DiagramCodeModel" "n" "I", .fieldLink RX6 23 "DiagramCodeModel" "label" "[I"] ++ wsX60)
def wsX6_pieces : List Cond := .code yX6_pieces cX6_pieces 3 (some .int) :: ([.fieldLink RX6 57 "DiagramCodeModel" "n" "I", .fieldLink RX6 45 "DiagramCodeModel" "piece" "[I", .methodLink RX6 87 yX6_hang, .instanceMethod yX6_hang, .selects RX6 yX6_hang yX6_hang, .initialized RX6, .code yX6_hang cX6_hang 4 none, .fieldLink RX6 23 "DiagramCodeModel" "label" "[I"] ++ wsX60)
def wsX6_turn : List Cond := .code yX6_turn cX6_turn 4 (some .int) :: ([.fieldLink RX6 23 "DiagramCodeModel" "label" "[I", .methodLink RX6 64 yX6_placeOf, .instanceMethod yX6_placeOf, .selects RX6 yX6_placeOf yX6_placeOf, .initialized RX6, .code yX6_placeOf cX6_placeOf 5 (some .int), .fieldLink RX6 57 "DiagramCodeModel" "n" "I", .methodLink RX6 60 yX6_isOut, .instanceMethod yX6_isOut, .selects RX6 yX6_isOut yX6_isOut, .code yX6_isOut cX6_isOut 3 (some .boolean), .fieldLink RX6 20 "DiagramCodeModel" "sign" "[I"] ++ wsX60)
def wsX6_rowOf : List Cond := .code yX6_rowOf cX6_rowOf 3 (some .int) :: ([.fieldLink RX6 32 "DiagramCodeModel" "row" "[I"] ++ wsX60)
def wsX6_findFaces_r1 : List Cond := [Cond.fieldLink RX6 51 "DiagramCodeModel" "faceOf" "[I", Cond.fieldLink RX6 90 "DiagramCodeModel" "faces" "I", Cond.fieldLink RX6 72 "DiagramCodeModel" "labels" "I", Cond.fieldLink RX6 32 "DiagramCodeModel" "row" "[I", Cond.methodLink RX6 78 yX6_sort, Cond.instanceMethod yX6_sort, Cond.selects RX6 yX6_sort yX6_sort, Cond.initialized RX6, Cond.code yX6_sort cX6_sort 4 none, Cond.fieldLink RX6 57 "DiagramCodeModel" "n" "I", Cond.fieldLink RX6 23 "DiagramCodeModel" "label" "[I", Cond.methodLink RX6 93 yX6_rowOf, Cond.instanceMethod yX6_rowOf, Cond.selects RX6 yX6_rowOf yX6_rowOf, Cond.code yX6_rowOf cX6_rowOf 3 (some .int), Cond.methodLink RX6 96 yX6_turn, Cond.instanceMethod yX6_turn, Cond.selects RX6 yX6_turn yX6_turn, Cond.code yX6_turn cX6_turn 4 (some .int), Cond.methodLink RX6 64 yX6_placeOf, Cond.instanceMethod yX6_placeOf, Cond.selects RX6 yX6_placeOf yX6_placeOf, Cond.code yX6_placeOf cX6_placeOf 5 (some .int), Cond.methodLink RX6 60 yX6_isOut]
def wsX6_findFaces_r2 : List Cond := [Cond.instanceMethod yX6_isOut, Cond.selects RX6 yX6_isOut yX6_isOut, Cond.code yX6_isOut cX6_isOut 3 (some .boolean), Cond.fieldLink RX6 20 "DiagramCodeModel" "sign" "[I"]
def wsX6_findFaces : List Cond := .code yX6_findFaces cX6_findFaces 4 none :: ((wsX6_findFaces_r1 ++ wsX6_findFaces_r2) ++ wsX60)
def wsX6_facesAt : List Cond := .code yX6_facesAt cX6_facesAt 6 (some .int) :: ([.fieldLink RX6 72 "DiagramCodeModel" "labels" "I", .fieldLink RX6 51 "DiagramCodeModel" "faceOf" "[I", .fieldLink RX6 45 "DiagramCodeModel" "piece" "[I", .fieldLink RX6 32 "DiagramCodeModel" "row" "[I", .methodLink RX6 64 yX6_placeOf, .instanceMethod yX6_placeOf, .selects RX6 yX6_placeOf yX6_placeOf, .initialized RX6, .code yX6_placeOf cX6_placeOf 5 (some .int), .fieldLink RX6 57 "DiagramCodeModel" "n" "I", .fieldLink RX6 23 "DiagramCodeModel" "label" "[I", .methodLink RX6 60 yX6_isOut, .instanceMethod yX6_isOut, .selects RX6 yX6_isOut yX6_isOut, .code yX6_isOut cX6_isOut 3 (some .boolean), .fieldLink RX6 20 "DiagramCodeModel" "sign" "[I"] ++ wsX60)
def wsX6_crossing : List Cond := .code yX6_crossing cX6_crossing 7 (some .int) :: ([.fieldLink RX6 99 "DiagramCodeModel" "put" "I", .fieldLink RX6 13 "DiagramCodeModel" "putSign" "[I", .fieldLink RX6 17 "DiagramCodeModel" "putLabel" "[I"] ++ wsX60)
def wsX6_take : List Cond := .code yX6_take cX6_take 2 none :: ([.fieldLink RX6 57 "DiagramCodeModel" "n" "I", .fieldLink RX6 102 "DiagramCodeModel" "oldN" "I", .fieldLink RX6 105 "DiagramCodeModel" "circles" "I", .fieldLink RX6 108 "DiagramCodeModel" "oldCircles" "I", .fieldLink RX6 26 "DiagramCodeModel" "oldSign" "[I", .fieldLink RX6 20 "DiagramCodeModel" "sign" "[I", .fieldLink RX6 29 "DiagramCodeModel" "oldLabel" "[I", .fieldLink RX6 23 "DiagramCodeModel" "label" "[I", .fieldLink RX6 99 "DiagramCodeModel" "put" "I", .fieldLink RX6 13 "DiagramCodeModel" "putSign" "[I", .fieldLink RX6 17 "DiagramCodeModel" "putLabel" "[I"] ++ wsX60)
def wsX6_back : List Cond := .code yX6_back cX6_back 2 none :: ([.fieldLink RX6 102 "DiagramCodeModel" "oldN" "I", .fieldLink RX6 57 "DiagramCodeModel" "n" "I", .fieldLink RX6 108 "DiagramCodeModel" "oldCircles" "I", .fieldLink RX6 105 "DiagramCodeModel" "circles" "I", .fieldLink RX6 20 "DiagramCodeModel" "sign" "[I", .fieldLink RX6 26 "DiagramCodeModel" "oldSign" "[I", .fieldLink RX6 23 "DiagramCodeModel" "label" "[I", .fieldLink RX6 29 "DiagramCodeModel" "oldLabel" "[I"] ++ wsX60)
def wsX6_badLabel : List Cond := .code yX6_badLabel cX6_badLabel 5 (some .int) :: ([.fieldLink RX6 72 "DiagramCodeModel" "labels" "I", .fieldLink RX6 57 "DiagramCodeModel" "n" "I", .fieldLink RX6 23 "DiagramCodeModel" "label" "[I", .fieldLink RX6 32 "DiagramCodeModel" "row" "[I", .methodLink RX6 78 yX6_sort, .instanceMethod yX6_sort, .selects RX6 yX6_sort yX6_sort, .initialized RX6, .code yX6_sort cX6_sort 4 none, .methodLink RX6 64 yX6_placeOf, .instanceMethod yX6_placeOf, .selects RX6 yX6_placeOf yX6_placeOf, .code yX6_placeOf cX6_placeOf 5 (some .int), .methodLink RX6 60 yX6_isOut, .instanceMethod yX6_isOut, .selects RX6 yX6_isOut yX6_isOut, .code yX6_isOut cX6_isOut 3 (some .boolean), .fieldLink RX6 20 "DiagramCodeModel" "sign" "[I"] ++ wsX60)
def wsX6_badPiece_r1 : List Cond := [Cond.fieldLink RX6 57 "DiagramCodeModel" "n" "I", Cond.fieldLink RX6 45 "DiagramCodeModel" "piece" "[I", Cond.methodLink RX6 87 yX6_hang, Cond.instanceMethod yX6_hang, Cond.selects RX6 yX6_hang yX6_hang, Cond.initialized RX6, Cond.code yX6_hang cX6_hang 4 none, Cond.fieldLink RX6 23 "DiagramCodeModel" "label" "[I", Cond.methodLink RX6 111 yX6_findFaces, Cond.instanceMethod yX6_findFaces, Cond.selects RX6 yX6_findFaces yX6_findFaces, Cond.code yX6_findFaces cX6_findFaces 4 none, Cond.fieldLink RX6 51 "DiagramCodeModel" "faceOf" "[I", Cond.fieldLink RX6 90 "DiagramCodeModel" "faces" "I", Cond.fieldLink RX6 72 "DiagramCodeModel" "labels" "I", Cond.fieldLink RX6 32 "DiagramCodeModel" "row" "[I", Cond.methodLink RX6 78 yX6_sort, Cond.instanceMethod yX6_sort, Cond.selects RX6 yX6_sort yX6_sort, Cond.code yX6_sort cX6_sort 4 none, Cond.methodLink RX6 93 yX6_rowOf, Cond.instanceMethod yX6_rowOf, Cond.selects RX6 yX6_rowOf yX6_rowOf, Cond.code yX6_rowOf cX6_rowOf 3 (some .int)]
def wsX6_badPiece_r2 : List Cond := [Cond.methodLink RX6 96 yX6_turn, Cond.instanceMethod yX6_turn, Cond.selects RX6 yX6_turn yX6_turn, Cond.code yX6_turn cX6_turn 4 (some .int), Cond.methodLink RX6 64 yX6_placeOf, Cond.instanceMethod yX6_placeOf, Cond.selects RX6 yX6_placeOf yX6_placeOf, Cond.code yX6_placeOf cX6_placeOf 5 (some .int), Cond.methodLink RX6 60 yX6_isOut, Cond.instanceMethod yX6_isOut, Cond.selects RX6 yX6_isOut yX6_isOut, Cond.code yX6_isOut cX6_isOut 3 (some .boolean), Cond.fieldLink RX6 20 "DiagramCodeModel" "sign" "[I", Cond.methodLink RX6 114 yX6_facesAt, Cond.instanceMethod yX6_facesAt, Cond.selects RX6 yX6_facesAt yX6_facesAt, Cond.code yX6_facesAt cX6_facesAt 6 (some .int)]
def wsX6_badPiece : List Cond := .code yX6_badPiece cX6_badPiece 5 (some .int) :: ((wsX6_badPiece_r1 ++ wsX6_badPiece_r2) ++ wsX60)
def wsX6_fault_r1 : List Cond := [Cond.fieldLink RX6 7 "DiagramCodeModel" "wrong" "I", Cond.methodLink RX6 117 yX6_badLabel, Cond.instanceMethod yX6_badLabel, Cond.selects RX6 yX6_badLabel yX6_badLabel, Cond.initialized RX6, Cond.code yX6_badLabel cX6_badLabel 5 (some .int), Cond.fieldLink RX6 72 "DiagramCodeModel" "labels" "I", Cond.fieldLink RX6 57 "DiagramCodeModel" "n" "I", Cond.fieldLink RX6 23 "DiagramCodeModel" "label" "[I", Cond.fieldLink RX6 32 "DiagramCodeModel" "row" "[I", Cond.methodLink RX6 78 yX6_sort, Cond.instanceMethod yX6_sort, Cond.selects RX6 yX6_sort yX6_sort, Cond.code yX6_sort cX6_sort 4 none, Cond.methodLink RX6 64 yX6_placeOf, Cond.instanceMethod yX6_placeOf, Cond.selects RX6 yX6_placeOf yX6_placeOf, Cond.code yX6_placeOf cX6_placeOf 5 (some .int), Cond.methodLink RX6 60 yX6_isOut, Cond.instanceMethod yX6_isOut, Cond.selects RX6 yX6_isOut yX6_isOut, Cond.code yX6_isOut cX6_isOut 3 (some .boolean), Cond.fieldLink RX6 20 "DiagramCodeModel" "sign" "[I", Cond.methodLink RX6 121 yX6_badPiece]
def wsX6_fault_r2 : List Cond := [Cond.instanceMethod yX6_badPiece, Cond.selects RX6 yX6_badPiece yX6_badPiece, Cond.code yX6_badPiece cX6_badPiece 5 (some .int), Cond.fieldLink RX6 45 "DiagramCodeModel" "piece" "[I", Cond.methodLink RX6 87 yX6_hang, Cond.instanceMethod yX6_hang, Cond.selects RX6 yX6_hang yX6_hang, Cond.code yX6_hang cX6_hang 4 none, Cond.methodLink RX6 111 yX6_findFaces, Cond.instanceMethod yX6_findFaces, Cond.selects RX6 yX6_findFaces yX6_findFaces, Cond.code yX6_findFaces cX6_findFaces 4 none, Cond.fieldLink RX6 51 "DiagramCodeModel" "faceOf" "[I", Cond.fieldLink RX6 90 "DiagramCodeModel" "faces" "I", Cond.methodLink RX6 93 yX6_rowOf, Cond.instanceMethod yX6_rowOf, Cond.selects RX6 yX6_rowOf yX6_rowOf, Cond.code yX6_rowOf cX6_rowOf 3 (some .int), Cond.methodLink RX6 96 yX6_turn, Cond.instanceMethod yX6_turn, Cond.selects RX6 yX6_turn yX6_turn, Cond.code yX6_turn cX6_turn 4 (some .int), Cond.methodLink RX6 114 yX6_facesAt, Cond.instanceMethod yX6_facesAt]
def wsX6_fault_r3 : List Cond := [Cond.selects RX6 yX6_facesAt yX6_facesAt, Cond.code yX6_facesAt cX6_facesAt 6 (some .int)]
def wsX6_fault : List Cond := .code yX6_fault cX6_fault 1 (some .int) :: ((wsX6_fault_r1 ++ (wsX6_fault_r2 ++ wsX6_fault_r3)) ++ wsX60)
def wsX6_check_r1 : List Cond := [Cond.fieldLink RX6 105 "DiagramCodeModel" "circles" "I", Cond.methodLink RX6 125 yX6_take, Cond.instanceMethod yX6_take, Cond.selects RX6 yX6_take yX6_take, Cond.initialized RX6, Cond.code yX6_take cX6_take 2 none, Cond.fieldLink RX6 57 "DiagramCodeModel" "n" "I", Cond.fieldLink RX6 102 "DiagramCodeModel" "oldN" "I", Cond.fieldLink RX6 108 "DiagramCodeModel" "oldCircles" "I", Cond.fieldLink RX6 26 "DiagramCodeModel" "oldSign" "[I", Cond.fieldLink RX6 20 "DiagramCodeModel" "sign" "[I", Cond.fieldLink RX6 29 "DiagramCodeModel" "oldLabel" "[I", Cond.fieldLink RX6 23 "DiagramCodeModel" "label" "[I", Cond.fieldLink RX6 99 "DiagramCodeModel" "put" "I", Cond.fieldLink RX6 13 "DiagramCodeModel" "putSign" "[I", Cond.fieldLink RX6 17 "DiagramCodeModel" "putLabel" "[I", Cond.methodLink RX6 128 yX6_fault, Cond.instanceMethod yX6_fault, Cond.selects RX6 yX6_fault yX6_fault, Cond.code yX6_fault cX6_fault 1 (some .int), Cond.fieldLink RX6 7 "DiagramCodeModel" "wrong" "I", Cond.methodLink RX6 117 yX6_badLabel, Cond.instanceMethod yX6_badLabel, Cond.selects RX6 yX6_badLabel yX6_badLabel]
def wsX6_check_r2 : List Cond := [Cond.code yX6_badLabel cX6_badLabel 5 (some .int), Cond.fieldLink RX6 72 "DiagramCodeModel" "labels" "I", Cond.fieldLink RX6 32 "DiagramCodeModel" "row" "[I", Cond.methodLink RX6 78 yX6_sort, Cond.instanceMethod yX6_sort, Cond.selects RX6 yX6_sort yX6_sort, Cond.code yX6_sort cX6_sort 4 none, Cond.methodLink RX6 64 yX6_placeOf, Cond.instanceMethod yX6_placeOf, Cond.selects RX6 yX6_placeOf yX6_placeOf, Cond.code yX6_placeOf cX6_placeOf 5 (some .int), Cond.methodLink RX6 60 yX6_isOut, Cond.instanceMethod yX6_isOut, Cond.selects RX6 yX6_isOut yX6_isOut, Cond.code yX6_isOut cX6_isOut 3 (some .boolean), Cond.methodLink RX6 121 yX6_badPiece, Cond.instanceMethod yX6_badPiece, Cond.selects RX6 yX6_badPiece yX6_badPiece, Cond.code yX6_badPiece cX6_badPiece 5 (some .int), Cond.fieldLink RX6 45 "DiagramCodeModel" "piece" "[I", Cond.methodLink RX6 87 yX6_hang, Cond.instanceMethod yX6_hang, Cond.selects RX6 yX6_hang yX6_hang, Cond.code yX6_hang cX6_hang 4 none]
def wsX6_check_r3 : List Cond := [Cond.methodLink RX6 111 yX6_findFaces, Cond.instanceMethod yX6_findFaces, Cond.selects RX6 yX6_findFaces yX6_findFaces, Cond.code yX6_findFaces cX6_findFaces 4 none, Cond.fieldLink RX6 51 "DiagramCodeModel" "faceOf" "[I", Cond.fieldLink RX6 90 "DiagramCodeModel" "faces" "I", Cond.methodLink RX6 93 yX6_rowOf, Cond.instanceMethod yX6_rowOf, Cond.selects RX6 yX6_rowOf yX6_rowOf, Cond.code yX6_rowOf cX6_rowOf 3 (some .int), Cond.methodLink RX6 96 yX6_turn, Cond.instanceMethod yX6_turn, Cond.selects RX6 yX6_turn yX6_turn, Cond.code yX6_turn cX6_turn 4 (some .int), Cond.methodLink RX6 114 yX6_facesAt, Cond.instanceMethod yX6_facesAt, Cond.selects RX6 yX6_facesAt yX6_facesAt, Cond.code yX6_facesAt cX6_facesAt 6 (some .int), Cond.methodLink RX6 131 yX6_back, Cond.instanceMethod yX6_back, Cond.selects RX6 yX6_back yX6_back, Cond.code yX6_back cX6_back 2 none]
def wsX6_check : List Cond := .code yX6_check cX6_check 3 (some .int) :: ((wsX6_check_r1 ++ (wsX6_check_r2 ++ wsX6_check_r3)) ++ wsX60)
def wsX6_which : List Cond := .code yX6_which cX6_which 1 (some .int) :: ([.fieldLink RX6 7 "DiagramCodeModel" "wrong" "I"] ++ wsX60)
def wsX6_signs : List Cond := .code yX6_signs cX6_signs 3 (some .int) :: ([.fieldLink RX6 57 "DiagramCodeModel" "n" "I", .fieldLink RX6 20 "DiagramCodeModel" "sign" "[I"] ++ wsX60)
def wsX6_arcOf : List Cond := .code yX6_arcOf cX6_arcOf 6 (some .int) :: ([.fieldLink RX6 23 "DiagramCodeModel" "label" "[I", .methodLink RX6 64 yX6_placeOf, .instanceMethod yX6_placeOf, .selects RX6 yX6_placeOf yX6_placeOf, .initialized RX6, .code yX6_placeOf cX6_placeOf 5 (some .int), .fieldLink RX6 57 "DiagramCodeModel" "n" "I", .methodLink RX6 60 yX6_isOut, .instanceMethod yX6_isOut, .selects RX6 yX6_isOut yX6_isOut, .code yX6_isOut cX6_isOut 3 (some .boolean), .fieldLink RX6 20 "DiagramCodeModel" "sign" "[I", .methodLink RX6 134 yX6_isUpper, .static yX6_isUpper, .code yX6_isUpper cX6_isUpper 1 (some .boolean), .methodLink RX6 68 yX6_across, .static yX6_across, .code yX6_across cX6_across 1 (some .int), .methodLink RX6 81 yX6_next, .instanceMethod yX6_next, .selects RX6 yX6_next yX6_next, .code yX6_next cX6_next 2 (some .int)] ++ wsX60)
def wsX6_arcs_r1 : List Cond := [Cond.fieldLink RX6 105 "DiagramCodeModel" "circles" "I", Cond.fieldLink RX6 72 "DiagramCodeModel" "labels" "I", Cond.fieldLink RX6 32 "DiagramCodeModel" "row" "[I", Cond.methodLink RX6 78 yX6_sort, Cond.instanceMethod yX6_sort, Cond.selects RX6 yX6_sort yX6_sort, Cond.initialized RX6, Cond.code yX6_sort cX6_sort 4 none, Cond.fieldLink RX6 57 "DiagramCodeModel" "n" "I", Cond.fieldLink RX6 23 "DiagramCodeModel" "label" "[I", Cond.methodLink RX6 137 yX6_arcOf, Cond.instanceMethod yX6_arcOf, Cond.selects RX6 yX6_arcOf yX6_arcOf, Cond.code yX6_arcOf cX6_arcOf 6 (some .int), Cond.methodLink RX6 64 yX6_placeOf, Cond.instanceMethod yX6_placeOf, Cond.selects RX6 yX6_placeOf yX6_placeOf, Cond.code yX6_placeOf cX6_placeOf 5 (some .int), Cond.methodLink RX6 60 yX6_isOut, Cond.instanceMethod yX6_isOut, Cond.selects RX6 yX6_isOut yX6_isOut, Cond.code yX6_isOut cX6_isOut 3 (some .boolean), Cond.fieldLink RX6 20 "DiagramCodeModel" "sign" "[I", Cond.methodLink RX6 134 yX6_isUpper]
def wsX6_arcs_r2 : List Cond := [Cond.static yX6_isUpper, Cond.code yX6_isUpper cX6_isUpper 1 (some .boolean), Cond.methodLink RX6 68 yX6_across, Cond.static yX6_across, Cond.code yX6_across cX6_across 1 (some .int), Cond.methodLink RX6 81 yX6_next, Cond.instanceMethod yX6_next, Cond.selects RX6 yX6_next yX6_next, Cond.code yX6_next cX6_next 2 (some .int)]
def wsX6_arcs : List Cond := .code yX6_arcs cX6_arcs 3 (some .int) :: ((wsX6_arcs_r1 ++ wsX6_arcs_r2) ++ wsX60)
def wsX6_seifertNext : List Cond := .code yX6_seifertNext cX6_seifertNext 4 (some .int) :: ([.fieldLink RX6 23 "DiagramCodeModel" "label" "[I", .methodLink RX6 64 yX6_placeOf, .instanceMethod yX6_placeOf, .selects RX6 yX6_placeOf yX6_placeOf, .initialized RX6, .code yX6_placeOf cX6_placeOf 5 (some .int), .fieldLink RX6 57 "DiagramCodeModel" "n" "I", .methodLink RX6 60 yX6_isOut, .instanceMethod yX6_isOut, .selects RX6 yX6_isOut yX6_isOut, .code yX6_isOut cX6_isOut 3 (some .boolean), .fieldLink RX6 20 "DiagramCodeModel" "sign" "[I", .methodLink RX6 134 yX6_isUpper, .static yX6_isUpper, .code yX6_isUpper cX6_isUpper 1 (some .boolean), .methodLink RX6 140 yX6_upperIn, .instanceMethod yX6_upperIn, .selects RX6 yX6_upperIn yX6_upperIn, .code yX6_upperIn cX6_upperIn 2 (some .int)] ++ wsX60)
def wsX6_seifert_r1 : List Cond := [Cond.fieldLink RX6 105 "DiagramCodeModel" "circles" "I", Cond.fieldLink RX6 72 "DiagramCodeModel" "labels" "I", Cond.fieldLink RX6 32 "DiagramCodeModel" "row" "[I", Cond.methodLink RX6 78 yX6_sort, Cond.instanceMethod yX6_sort, Cond.selects RX6 yX6_sort yX6_sort, Cond.initialized RX6, Cond.code yX6_sort cX6_sort 4 none, Cond.fieldLink RX6 57 "DiagramCodeModel" "n" "I", Cond.fieldLink RX6 23 "DiagramCodeModel" "label" "[I", Cond.methodLink RX6 143 yX6_seifertNext, Cond.instanceMethod yX6_seifertNext, Cond.selects RX6 yX6_seifertNext yX6_seifertNext, Cond.code yX6_seifertNext cX6_seifertNext 4 (some .int), Cond.methodLink RX6 64 yX6_placeOf, Cond.instanceMethod yX6_placeOf, Cond.selects RX6 yX6_placeOf yX6_placeOf, Cond.code yX6_placeOf cX6_placeOf 5 (some .int), Cond.methodLink RX6 60 yX6_isOut, Cond.instanceMethod yX6_isOut, Cond.selects RX6 yX6_isOut yX6_isOut, Cond.code yX6_isOut cX6_isOut 3 (some .boolean), Cond.fieldLink RX6 20 "DiagramCodeModel" "sign" "[I", Cond.methodLink RX6 134 yX6_isUpper]
def wsX6_seifert_r2 : List Cond := [Cond.static yX6_isUpper, Cond.code yX6_isUpper cX6_isUpper 1 (some .boolean), Cond.methodLink RX6 140 yX6_upperIn, Cond.instanceMethod yX6_upperIn, Cond.selects RX6 yX6_upperIn yX6_upperIn, Cond.code yX6_upperIn cX6_upperIn 2 (some .int)]
def wsX6_seifert : List Cond := .code yX6_seifert cX6_seifert 5 (some .int) :: ((wsX6_seifert_r1 ++ wsX6_seifert_r2) ++ wsX60)
def wsX6_isAlternating : List Cond := .code yX6_isAlternating cX6_isAlternating 3 (some .boolean) :: ([.fieldLink RX6 57 "DiagramCodeModel" "n" "I", .fieldLink RX6 23 "DiagramCodeModel" "label" "[I", .methodLink RX6 60 yX6_isOut, .instanceMethod yX6_isOut, .selects RX6 yX6_isOut yX6_isOut, .initialized RX6, .code yX6_isOut cX6_isOut 3 (some .boolean), .fieldLink RX6 20 "DiagramCodeModel" "sign" "[I", .methodLink RX6 134 yX6_isUpper, .static yX6_isUpper, .code yX6_isUpper cX6_isUpper 1 (some .boolean), .methodLink RX6 64 yX6_placeOf, .instanceMethod yX6_placeOf, .selects RX6 yX6_placeOf yX6_placeOf, .code yX6_placeOf cX6_placeOf 5 (some .int)] ++ wsX60)
def wsX6_allComponents_r1 : List Cond := [Cond.fieldLink RX6 75 "DiagramCodeModel" "closed" "I", Cond.fieldLink RX6 105 "DiagramCodeModel" "circles" "I", Cond.methodLink RX6 84 yX6_components, Cond.instanceMethod yX6_components, Cond.selects RX6 yX6_components yX6_components, Cond.initialized RX6, Cond.code yX6_components cX6_components 4 none, Cond.fieldLink RX6 48 "DiagramCodeModel" "component" "[I", Cond.fieldLink RX6 72 "DiagramCodeModel" "labels" "I", Cond.fieldLink RX6 32 "DiagramCodeModel" "row" "[I", Cond.methodLink RX6 78 yX6_sort, Cond.instanceMethod yX6_sort, Cond.selects RX6 yX6_sort yX6_sort, Cond.code yX6_sort cX6_sort 4 none, Cond.fieldLink RX6 57 "DiagramCodeModel" "n" "I", Cond.fieldLink RX6 23 "DiagramCodeModel" "label" "[I", Cond.methodLink RX6 64 yX6_placeOf, Cond.instanceMethod yX6_placeOf, Cond.selects RX6 yX6_placeOf yX6_placeOf, Cond.code yX6_placeOf cX6_placeOf 5 (some .int), Cond.methodLink RX6 60 yX6_isOut, Cond.instanceMethod yX6_isOut, Cond.selects RX6 yX6_isOut yX6_isOut, Cond.code yX6_isOut cX6_isOut 3 (some .boolean)]
def wsX6_allComponents_r2 : List Cond := [Cond.fieldLink RX6 20 "DiagramCodeModel" "sign" "[I", Cond.methodLink RX6 81 yX6_next, Cond.instanceMethod yX6_next, Cond.selects RX6 yX6_next yX6_next, Cond.code yX6_next cX6_next 2 (some .int), Cond.methodLink RX6 68 yX6_across, Cond.static yX6_across, Cond.code yX6_across cX6_across 1 (some .int)]
def wsX6_allComponents : List Cond := .code yX6_allComponents cX6_allComponents 1 (some .int) :: ((wsX6_allComponents_r1 ++ wsX6_allComponents_r2) ++ wsX60)
def wsX6_allFaces_r1 : List Cond := [Cond.fieldLink RX6 90 "DiagramCodeModel" "faces" "I", Cond.methodLink RX6 111 yX6_findFaces, Cond.instanceMethod yX6_findFaces, Cond.selects RX6 yX6_findFaces yX6_findFaces, Cond.initialized RX6, Cond.code yX6_findFaces cX6_findFaces 4 none, Cond.fieldLink RX6 51 "DiagramCodeModel" "faceOf" "[I", Cond.fieldLink RX6 72 "DiagramCodeModel" "labels" "I", Cond.fieldLink RX6 32 "DiagramCodeModel" "row" "[I", Cond.methodLink RX6 78 yX6_sort, Cond.instanceMethod yX6_sort, Cond.selects RX6 yX6_sort yX6_sort, Cond.code yX6_sort cX6_sort 4 none, Cond.fieldLink RX6 57 "DiagramCodeModel" "n" "I", Cond.fieldLink RX6 23 "DiagramCodeModel" "label" "[I", Cond.methodLink RX6 93 yX6_rowOf, Cond.instanceMethod yX6_rowOf, Cond.selects RX6 yX6_rowOf yX6_rowOf, Cond.code yX6_rowOf cX6_rowOf 3 (some .int), Cond.methodLink RX6 96 yX6_turn, Cond.instanceMethod yX6_turn, Cond.selects RX6 yX6_turn yX6_turn, Cond.code yX6_turn cX6_turn 4 (some .int), Cond.methodLink RX6 64 yX6_placeOf]
def wsX6_allFaces_r2 : List Cond := [Cond.instanceMethod yX6_placeOf, Cond.selects RX6 yX6_placeOf yX6_placeOf, Cond.code yX6_placeOf cX6_placeOf 5 (some .int), Cond.methodLink RX6 60 yX6_isOut, Cond.instanceMethod yX6_isOut, Cond.selects RX6 yX6_isOut yX6_isOut, Cond.code yX6_isOut cX6_isOut 3 (some .boolean), Cond.fieldLink RX6 20 "DiagramCodeModel" "sign" "[I"]
def wsX6_allFaces : List Cond := .code yX6_allFaces cX6_allFaces 1 (some .int) :: ((wsX6_allFaces_r1 ++ wsX6_allFaces_r2) ++ wsX60)
def wsX6_many_r1 : List Cond := [Cond.fieldLink RX6 57 "DiagramCodeModel" "n" "I", Cond.fieldLink RX6 105 "DiagramCodeModel" "circles" "I", Cond.fieldLink RX6 99 "DiagramCodeModel" "put" "I", Cond.methodLink RX6 146 yX6_allComponents, Cond.instanceMethod yX6_allComponents, Cond.selects RX6 yX6_allComponents yX6_allComponents, Cond.initialized RX6, Cond.code yX6_allComponents cX6_allComponents 1 (some .int), Cond.fieldLink RX6 75 "DiagramCodeModel" "closed" "I", Cond.methodLink RX6 84 yX6_components, Cond.instanceMethod yX6_components, Cond.selects RX6 yX6_components yX6_components, Cond.code yX6_components cX6_components 4 none, Cond.fieldLink RX6 48 "DiagramCodeModel" "component" "[I", Cond.fieldLink RX6 72 "DiagramCodeModel" "labels" "I", Cond.fieldLink RX6 32 "DiagramCodeModel" "row" "[I", Cond.methodLink RX6 78 yX6_sort, Cond.instanceMethod yX6_sort, Cond.selects RX6 yX6_sort yX6_sort, Cond.code yX6_sort cX6_sort 4 none, Cond.fieldLink RX6 23 "DiagramCodeModel" "label" "[I", Cond.methodLink RX6 64 yX6_placeOf, Cond.instanceMethod yX6_placeOf, Cond.selects RX6 yX6_placeOf yX6_placeOf]
def wsX6_many_r2 : List Cond := [Cond.code yX6_placeOf cX6_placeOf 5 (some .int), Cond.methodLink RX6 60 yX6_isOut, Cond.instanceMethod yX6_isOut, Cond.selects RX6 yX6_isOut yX6_isOut, Cond.code yX6_isOut cX6_isOut 3 (some .boolean), Cond.fieldLink RX6 20 "DiagramCodeModel" "sign" "[I", Cond.methodLink RX6 81 yX6_next, Cond.instanceMethod yX6_next, Cond.selects RX6 yX6_next yX6_next, Cond.code yX6_next cX6_next 2 (some .int), Cond.methodLink RX6 68 yX6_across, Cond.static yX6_across, Cond.code yX6_across cX6_across 1 (some .int), Cond.methodLink RX6 149 yX6_pieces, Cond.instanceMethod yX6_pieces, Cond.selects RX6 yX6_pieces yX6_pieces, Cond.code yX6_pieces cX6_pieces 3 (some .int), Cond.fieldLink RX6 45 "DiagramCodeModel" "piece" "[I", Cond.methodLink RX6 87 yX6_hang, Cond.instanceMethod yX6_hang, Cond.selects RX6 yX6_hang yX6_hang, Cond.code yX6_hang cX6_hang 4 none, Cond.methodLink RX6 152 yX6_signs, Cond.instanceMethod yX6_signs]
def wsX6_many_r3 : List Cond := [Cond.selects RX6 yX6_signs yX6_signs, Cond.code yX6_signs cX6_signs 3 (some .int), Cond.methodLink RX6 155 yX6_allFaces, Cond.instanceMethod yX6_allFaces, Cond.selects RX6 yX6_allFaces yX6_allFaces, Cond.code yX6_allFaces cX6_allFaces 1 (some .int), Cond.fieldLink RX6 90 "DiagramCodeModel" "faces" "I", Cond.methodLink RX6 111 yX6_findFaces, Cond.instanceMethod yX6_findFaces, Cond.selects RX6 yX6_findFaces yX6_findFaces, Cond.code yX6_findFaces cX6_findFaces 4 none, Cond.fieldLink RX6 51 "DiagramCodeModel" "faceOf" "[I", Cond.methodLink RX6 93 yX6_rowOf, Cond.instanceMethod yX6_rowOf, Cond.selects RX6 yX6_rowOf yX6_rowOf, Cond.code yX6_rowOf cX6_rowOf 3 (some .int), Cond.methodLink RX6 96 yX6_turn, Cond.instanceMethod yX6_turn, Cond.selects RX6 yX6_turn yX6_turn, Cond.code yX6_turn cX6_turn 4 (some .int), Cond.methodLink RX6 158 yX6_arcs, Cond.instanceMethod yX6_arcs, Cond.selects RX6 yX6_arcs yX6_arcs, Cond.code yX6_arcs cX6_arcs 3 (some .int)]
def wsX6_many_r4 : List Cond := [Cond.methodLink RX6 137 yX6_arcOf, Cond.instanceMethod yX6_arcOf, Cond.selects RX6 yX6_arcOf yX6_arcOf, Cond.code yX6_arcOf cX6_arcOf 6 (some .int), Cond.methodLink RX6 134 yX6_isUpper, Cond.static yX6_isUpper, Cond.code yX6_isUpper cX6_isUpper 1 (some .boolean), Cond.methodLink RX6 161 yX6_seifert, Cond.instanceMethod yX6_seifert, Cond.selects RX6 yX6_seifert yX6_seifert, Cond.code yX6_seifert cX6_seifert 5 (some .int), Cond.methodLink RX6 143 yX6_seifertNext, Cond.instanceMethod yX6_seifertNext, Cond.selects RX6 yX6_seifertNext yX6_seifertNext, Cond.code yX6_seifertNext cX6_seifertNext 4 (some .int), Cond.methodLink RX6 140 yX6_upperIn, Cond.instanceMethod yX6_upperIn, Cond.selects RX6 yX6_upperIn yX6_upperIn, Cond.code yX6_upperIn cX6_upperIn 2 (some .int), Cond.methodLink RX6 164 yX6_isAlternating, Cond.instanceMethod yX6_isAlternating, Cond.selects RX6 yX6_isAlternating yX6_isAlternating, Cond.code yX6_isAlternating cX6_isAlternating 3 (some .boolean)]
def wsX6_many : List Cond := .code yX6_many cX6_many 2 (some .int) :: ((wsX6_many_r1 ++ (wsX6_many_r2 ++ (wsX6_many_r3 ++ wsX6_many_r4))) ++ wsX60)
def wsX6_look_r1 : List Cond := [Cond.fieldLink RX6 57 "DiagramCodeModel" "n" "I", Cond.fieldLink RX6 23 "DiagramCodeModel" "label" "[I", Cond.fieldLink RX6 20 "DiagramCodeModel" "sign" "[I", Cond.methodLink RX6 168 yX6_pieceOf, Cond.instanceMethod yX6_pieceOf, Cond.selects RX6 yX6_pieceOf yX6_pieceOf, Cond.initialized RX6, Cond.code yX6_pieceOf cX6_pieceOf 4 (some .int), Cond.fieldLink RX6 45 "DiagramCodeModel" "piece" "[I", Cond.methodLink RX6 87 yX6_hang, Cond.instanceMethod yX6_hang, Cond.selects RX6 yX6_hang yX6_hang, Cond.code yX6_hang cX6_hang 4 none, Cond.methodLink RX6 171 yX6_componentOf, Cond.instanceMethod yX6_componentOf, Cond.selects RX6 yX6_componentOf yX6_componentOf, Cond.code yX6_componentOf cX6_componentOf 2 (some .int), Cond.fieldLink RX6 48 "DiagramCodeModel" "component" "[I", Cond.methodLink RX6 84 yX6_components, Cond.instanceMethod yX6_components, Cond.selects RX6 yX6_components yX6_components, Cond.code yX6_components cX6_components 4 none, Cond.fieldLink RX6 75 "DiagramCodeModel" "closed" "I", Cond.fieldLink RX6 72 "DiagramCodeModel" "labels" "I"]
def wsX6_look_r2 : List Cond := [Cond.fieldLink RX6 32 "DiagramCodeModel" "row" "[I", Cond.methodLink RX6 78 yX6_sort, Cond.instanceMethod yX6_sort, Cond.selects RX6 yX6_sort yX6_sort, Cond.code yX6_sort cX6_sort 4 none, Cond.methodLink RX6 64 yX6_placeOf, Cond.instanceMethod yX6_placeOf, Cond.selects RX6 yX6_placeOf yX6_placeOf, Cond.code yX6_placeOf cX6_placeOf 5 (some .int), Cond.methodLink RX6 60 yX6_isOut, Cond.instanceMethod yX6_isOut, Cond.selects RX6 yX6_isOut yX6_isOut, Cond.code yX6_isOut cX6_isOut 3 (some .boolean), Cond.methodLink RX6 81 yX6_next, Cond.instanceMethod yX6_next, Cond.selects RX6 yX6_next yX6_next, Cond.code yX6_next cX6_next 2 (some .int), Cond.methodLink RX6 68 yX6_across, Cond.static yX6_across, Cond.code yX6_across cX6_across 1 (some .int)]
def wsX6_look : List Cond := .code yX6_look cX6_look 3 (some .int) :: ((wsX6_look_r1 ++ wsX6_look_r2) ++ wsX60)
def wsX6_faceAt_r1 : List Cond := [Cond.fieldLink RX6 51 "DiagramCodeModel" "faceOf" "[I", Cond.methodLink RX6 111 yX6_findFaces, Cond.instanceMethod yX6_findFaces, Cond.selects RX6 yX6_findFaces yX6_findFaces, Cond.initialized RX6, Cond.code yX6_findFaces cX6_findFaces 4 none, Cond.fieldLink RX6 90 "DiagramCodeModel" "faces" "I", Cond.fieldLink RX6 72 "DiagramCodeModel" "labels" "I", Cond.fieldLink RX6 32 "DiagramCodeModel" "row" "[I", Cond.methodLink RX6 78 yX6_sort, Cond.instanceMethod yX6_sort, Cond.selects RX6 yX6_sort yX6_sort, Cond.code yX6_sort cX6_sort 4 none, Cond.fieldLink RX6 57 "DiagramCodeModel" "n" "I", Cond.fieldLink RX6 23 "DiagramCodeModel" "label" "[I", Cond.methodLink RX6 93 yX6_rowOf, Cond.instanceMethod yX6_rowOf, Cond.selects RX6 yX6_rowOf yX6_rowOf, Cond.code yX6_rowOf cX6_rowOf 3 (some .int), Cond.methodLink RX6 96 yX6_turn, Cond.instanceMethod yX6_turn, Cond.selects RX6 yX6_turn yX6_turn, Cond.code yX6_turn cX6_turn 4 (some .int), Cond.methodLink RX6 64 yX6_placeOf]
def wsX6_faceAt_r2 : List Cond := [Cond.instanceMethod yX6_placeOf, Cond.selects RX6 yX6_placeOf yX6_placeOf, Cond.code yX6_placeOf cX6_placeOf 5 (some .int), Cond.methodLink RX6 60 yX6_isOut, Cond.instanceMethod yX6_isOut, Cond.selects RX6 yX6_isOut yX6_isOut, Cond.code yX6_isOut cX6_isOut 3 (some .boolean), Cond.fieldLink RX6 20 "DiagramCodeModel" "sign" "[I"]
def wsX6_faceAt : List Cond := .code yX6_faceAt cX6_faceAt 3 (some .int) :: ((wsX6_faceAt_r1 ++ wsX6_faceAt_r2) ++ wsX60)
def wsX6_edge_r1 : List Cond := [Cond.methodLink RX6 64 yX6_placeOf, Cond.instanceMethod yX6_placeOf, Cond.selects RX6 yX6_placeOf yX6_placeOf, Cond.initialized RX6, Cond.code yX6_placeOf cX6_placeOf 5 (some .int), Cond.fieldLink RX6 57 "DiagramCodeModel" "n" "I", Cond.fieldLink RX6 23 "DiagramCodeModel" "label" "[I", Cond.methodLink RX6 60 yX6_isOut, Cond.instanceMethod yX6_isOut, Cond.selects RX6 yX6_isOut yX6_isOut, Cond.code yX6_isOut cX6_isOut 3 (some .boolean), Cond.fieldLink RX6 20 "DiagramCodeModel" "sign" "[I", Cond.methodLink RX6 81 yX6_next, Cond.instanceMethod yX6_next, Cond.selects RX6 yX6_next yX6_next, Cond.code yX6_next cX6_next 2 (some .int), Cond.methodLink RX6 68 yX6_across, Cond.static yX6_across, Cond.code yX6_across cX6_across 1 (some .int), Cond.methodLink RX6 171 yX6_componentOf, Cond.instanceMethod yX6_componentOf, Cond.selects RX6 yX6_componentOf yX6_componentOf, Cond.code yX6_componentOf cX6_componentOf 2 (some .int), Cond.fieldLink RX6 48 "DiagramCodeModel" "component" "[I"]
def wsX6_edge_r2 : List Cond := [Cond.methodLink RX6 84 yX6_components, Cond.instanceMethod yX6_components, Cond.selects RX6 yX6_components yX6_components, Cond.code yX6_components cX6_components 4 none, Cond.fieldLink RX6 75 "DiagramCodeModel" "closed" "I", Cond.fieldLink RX6 72 "DiagramCodeModel" "labels" "I", Cond.fieldLink RX6 32 "DiagramCodeModel" "row" "[I", Cond.methodLink RX6 78 yX6_sort, Cond.instanceMethod yX6_sort, Cond.selects RX6 yX6_sort yX6_sort, Cond.code yX6_sort cX6_sort 4 none, Cond.methodLink RX6 174 yX6_faceAt, Cond.instanceMethod yX6_faceAt, Cond.selects RX6 yX6_faceAt yX6_faceAt, Cond.code yX6_faceAt cX6_faceAt 3 (some .int), Cond.fieldLink RX6 51 "DiagramCodeModel" "faceOf" "[I", Cond.methodLink RX6 111 yX6_findFaces, Cond.instanceMethod yX6_findFaces, Cond.selects RX6 yX6_findFaces yX6_findFaces, Cond.code yX6_findFaces cX6_findFaces 4 none, Cond.fieldLink RX6 90 "DiagramCodeModel" "faces" "I", Cond.methodLink RX6 93 yX6_rowOf, Cond.instanceMethod yX6_rowOf, Cond.selects RX6 yX6_rowOf yX6_rowOf]
def wsX6_edge_r3 : List Cond := [Cond.code yX6_rowOf cX6_rowOf 3 (some .int), Cond.methodLink RX6 96 yX6_turn, Cond.instanceMethod yX6_turn, Cond.selects RX6 yX6_turn yX6_turn, Cond.code yX6_turn cX6_turn 4 (some .int), Cond.methodLink RX6 137 yX6_arcOf, Cond.instanceMethod yX6_arcOf, Cond.selects RX6 yX6_arcOf yX6_arcOf, Cond.code yX6_arcOf cX6_arcOf 6 (some .int), Cond.methodLink RX6 134 yX6_isUpper, Cond.static yX6_isUpper, Cond.code yX6_isUpper cX6_isUpper 1 (some .boolean)]
def wsX6_edge : List Cond := .code yX6_edge cX6_edge 5 (some .int) :: ((wsX6_edge_r1 ++ (wsX6_edge_r2 ++ wsX6_edge_r3)) ++ wsX60)
def wsX6_together : List Cond := .code yX6_together cX6_together 7 (some .int) :: ([.fieldLink RX6 57 "DiagramCodeModel" "n" "I", .fieldLink RX6 48 "DiagramCodeModel" "component" "[I", .fieldLink RX6 20 "DiagramCodeModel" "sign" "[I"] ++ wsX60)
def wsX6_edgesOf : List Cond := .code yX6_edgesOf cX6_edgesOf 4 (some .int) :: ([.methodLink RX6 81 yX6_next, .instanceMethod yX6_next, .selects RX6 yX6_next yX6_next, .initialized RX6, .code yX6_next cX6_next 2 (some .int), .fieldLink RX6 23 "DiagramCodeModel" "label" "[I", .methodLink RX6 64 yX6_placeOf, .instanceMethod yX6_placeOf, .selects RX6 yX6_placeOf yX6_placeOf, .code yX6_placeOf cX6_placeOf 5 (some .int), .fieldLink RX6 57 "DiagramCodeModel" "n" "I", .methodLink RX6 60 yX6_isOut, .instanceMethod yX6_isOut, .selects RX6 yX6_isOut yX6_isOut, .code yX6_isOut cX6_isOut 3 (some .boolean), .fieldLink RX6 20 "DiagramCodeModel" "sign" "[I", .methodLink RX6 68 yX6_across, .static yX6_across, .code yX6_across cX6_across 1 (some .int)] ++ wsX60)
def wsX6_component_r1 : List Cond := [Cond.fieldLink RX6 75 "DiagramCodeModel" "closed" "I", Cond.fieldLink RX6 105 "DiagramCodeModel" "circles" "I", Cond.methodLink RX6 84 yX6_components, Cond.instanceMethod yX6_components, Cond.selects RX6 yX6_components yX6_components, Cond.initialized RX6, Cond.code yX6_components cX6_components 4 none, Cond.fieldLink RX6 48 "DiagramCodeModel" "component" "[I", Cond.fieldLink RX6 72 "DiagramCodeModel" "labels" "I", Cond.fieldLink RX6 32 "DiagramCodeModel" "row" "[I", Cond.methodLink RX6 78 yX6_sort, Cond.instanceMethod yX6_sort, Cond.selects RX6 yX6_sort yX6_sort, Cond.code yX6_sort cX6_sort 4 none, Cond.fieldLink RX6 57 "DiagramCodeModel" "n" "I", Cond.fieldLink RX6 23 "DiagramCodeModel" "label" "[I", Cond.methodLink RX6 64 yX6_placeOf, Cond.instanceMethod yX6_placeOf, Cond.selects RX6 yX6_placeOf yX6_placeOf, Cond.code yX6_placeOf cX6_placeOf 5 (some .int), Cond.methodLink RX6 60 yX6_isOut, Cond.instanceMethod yX6_isOut, Cond.selects RX6 yX6_isOut yX6_isOut, Cond.code yX6_isOut cX6_isOut 3 (some .boolean)]
def wsX6_component_r2 : List Cond := [Cond.fieldLink RX6 20 "DiagramCodeModel" "sign" "[I", Cond.methodLink RX6 81 yX6_next, Cond.instanceMethod yX6_next, Cond.selects RX6 yX6_next yX6_next, Cond.code yX6_next cX6_next 2 (some .int), Cond.methodLink RX6 68 yX6_across, Cond.static yX6_across, Cond.code yX6_across cX6_across 1 (some .int), Cond.methodLink RX6 178 yX6_together, Cond.instanceMethod yX6_together, Cond.selects RX6 yX6_together yX6_together, Cond.code yX6_together cX6_together 7 (some .int), Cond.methodLink RX6 181 yX6_beginning, Cond.instanceMethod yX6_beginning, Cond.selects RX6 yX6_beginning yX6_beginning, Cond.code yX6_beginning cX6_beginning 4 (some .int), Cond.methodLink RX6 184 yX6_edgesOf, Cond.instanceMethod yX6_edgesOf, Cond.selects RX6 yX6_edgesOf yX6_edgesOf, Cond.code yX6_edgesOf cX6_edgesOf 4 (some .int), Cond.methodLink RX6 149 yX6_pieces, Cond.instanceMethod yX6_pieces, Cond.selects RX6 yX6_pieces yX6_pieces, Cond.code yX6_pieces cX6_pieces 3 (some .int)]
def wsX6_component_r3 : List Cond := [Cond.fieldLink RX6 45 "DiagramCodeModel" "piece" "[I", Cond.methodLink RX6 87 yX6_hang, Cond.instanceMethod yX6_hang, Cond.selects RX6 yX6_hang yX6_hang, Cond.code yX6_hang cX6_hang 4 none, Cond.methodLink RX6 168 yX6_pieceOf, Cond.instanceMethod yX6_pieceOf, Cond.selects RX6 yX6_pieceOf yX6_pieceOf, Cond.code yX6_pieceOf cX6_pieceOf 4 (some .int)]
def wsX6_component : List Cond := .code yX6_component cX6_component 6 (some .int) :: ((wsX6_component_r1 ++ (wsX6_component_r2 ++ wsX6_component_r3)) ++ wsX60)
def wsX6_face_r1 : List Cond := [Cond.fieldLink RX6 90 "DiagramCodeModel" "faces" "I", Cond.fieldLink RX6 51 "DiagramCodeModel" "faceOf" "[I", Cond.fieldLink RX6 32 "DiagramCodeModel" "row" "[I", Cond.methodLink RX6 111 yX6_findFaces, Cond.instanceMethod yX6_findFaces, Cond.selects RX6 yX6_findFaces yX6_findFaces, Cond.initialized RX6, Cond.code yX6_findFaces cX6_findFaces 4 none, Cond.fieldLink RX6 72 "DiagramCodeModel" "labels" "I", Cond.methodLink RX6 78 yX6_sort, Cond.instanceMethod yX6_sort, Cond.selects RX6 yX6_sort yX6_sort, Cond.code yX6_sort cX6_sort 4 none, Cond.fieldLink RX6 57 "DiagramCodeModel" "n" "I", Cond.fieldLink RX6 23 "DiagramCodeModel" "label" "[I", Cond.methodLink RX6 93 yX6_rowOf, Cond.instanceMethod yX6_rowOf, Cond.selects RX6 yX6_rowOf yX6_rowOf, Cond.code yX6_rowOf cX6_rowOf 3 (some .int), Cond.methodLink RX6 96 yX6_turn, Cond.instanceMethod yX6_turn, Cond.selects RX6 yX6_turn yX6_turn, Cond.code yX6_turn cX6_turn 4 (some .int), Cond.methodLink RX6 64 yX6_placeOf]
def wsX6_face_r2 : List Cond := [Cond.instanceMethod yX6_placeOf, Cond.selects RX6 yX6_placeOf yX6_placeOf, Cond.code yX6_placeOf cX6_placeOf 5 (some .int), Cond.methodLink RX6 60 yX6_isOut, Cond.instanceMethod yX6_isOut, Cond.selects RX6 yX6_isOut yX6_isOut, Cond.code yX6_isOut cX6_isOut 3 (some .boolean), Cond.fieldLink RX6 20 "DiagramCodeModel" "sign" "[I"]
def wsX6_face : List Cond := .code yX6_face cX6_face 8 (some .int) :: ((wsX6_face_r1 ++ wsX6_face_r2) ++ wsX60)
def wsX6_change : List Cond := .code yX6_change cX6_change 4 (some .boolean) :: ([.fieldLink RX6 57 "DiagramCodeModel" "n" "I", .fieldLink RX6 35 "DiagramCodeModel" "fresh" "[I", .fieldLink RX6 23 "DiagramCodeModel" "label" "[I", .fieldLink RX6 20 "DiagramCodeModel" "sign" "[I", .methodLink RX6 140 yX6_upperIn, .instanceMethod yX6_upperIn, .selects RX6 yX6_upperIn yX6_upperIn, .initialized RX6, .code yX6_upperIn cX6_upperIn 2 (some .int)] ++ wsX60)
def wsX6_mirror : List Cond := .code yX6_mirror cX6_mirror 2 none :: ([.fieldLink RX6 57 "DiagramCodeModel" "n" "I", .methodLink RX6 187 yX6_change, .instanceMethod yX6_change, .selects RX6 yX6_change yX6_change, .initialized RX6, .code yX6_change cX6_change 4 (some .boolean), .fieldLink RX6 35 "DiagramCodeModel" "fresh" "[I", .fieldLink RX6 23 "DiagramCodeModel" "label" "[I", .fieldLink RX6 20 "DiagramCodeModel" "sign" "[I", .methodLink RX6 140 yX6_upperIn, .instanceMethod yX6_upperIn, .selects RX6 yX6_upperIn yX6_upperIn, .code yX6_upperIn cX6_upperIn 2 (some .int)] ++ wsX60)
def wsX6_reverse_r1 : List Cond := [Cond.fieldLink RX6 75 "DiagramCodeModel" "closed" "I", Cond.fieldLink RX6 105 "DiagramCodeModel" "circles" "I", Cond.fieldLink RX6 57 "DiagramCodeModel" "n" "I", Cond.fieldLink RX6 38 "DiagramCodeModel" "lower" "[Z", Cond.fieldLink RX6 48 "DiagramCodeModel" "component" "[I", Cond.fieldLink RX6 42 "DiagramCodeModel" "upper" "[Z", Cond.fieldLink RX6 35 "DiagramCodeModel" "fresh" "[I", Cond.fieldLink RX6 23 "DiagramCodeModel" "label" "[I", Cond.fieldLink RX6 20 "DiagramCodeModel" "sign" "[I", Cond.methodLink RX6 84 yX6_components, Cond.instanceMethod yX6_components, Cond.selects RX6 yX6_components yX6_components, Cond.initialized RX6, Cond.code yX6_components cX6_components 4 none, Cond.fieldLink RX6 72 "DiagramCodeModel" "labels" "I", Cond.fieldLink RX6 32 "DiagramCodeModel" "row" "[I", Cond.methodLink RX6 78 yX6_sort, Cond.instanceMethod yX6_sort, Cond.selects RX6 yX6_sort yX6_sort, Cond.code yX6_sort cX6_sort 4 none, Cond.methodLink RX6 64 yX6_placeOf, Cond.instanceMethod yX6_placeOf, Cond.selects RX6 yX6_placeOf yX6_placeOf, Cond.code yX6_placeOf cX6_placeOf 5 (some .int)]
def wsX6_reverse_r2 : List Cond := [Cond.methodLink RX6 60 yX6_isOut, Cond.instanceMethod yX6_isOut, Cond.selects RX6 yX6_isOut yX6_isOut, Cond.code yX6_isOut cX6_isOut 3 (some .boolean), Cond.methodLink RX6 81 yX6_next, Cond.instanceMethod yX6_next, Cond.selects RX6 yX6_next yX6_next, Cond.code yX6_next cX6_next 2 (some .int), Cond.methodLink RX6 68 yX6_across, Cond.static yX6_across, Cond.code yX6_across cX6_across 1 (some .int)]
def wsX6_reverse : List Cond := .code yX6_reverse cX6_reverse 4 (some .boolean) :: ((wsX6_reverse_r1 ++ wsX6_reverse_r2) ++ wsX60)
def wsX6_number_r1 : List Cond := [Cond.fieldLink RX6 75 "DiagramCodeModel" "closed" "I", Cond.fieldLink RX6 35 "DiagramCodeModel" "fresh" "[I", Cond.fieldLink RX6 57 "DiagramCodeModel" "n" "I", Cond.fieldLink RX6 23 "DiagramCodeModel" "label" "[I", Cond.methodLink RX6 84 yX6_components, Cond.instanceMethod yX6_components, Cond.selects RX6 yX6_components yX6_components, Cond.initialized RX6, Cond.code yX6_components cX6_components 4 none, Cond.fieldLink RX6 48 "DiagramCodeModel" "component" "[I", Cond.fieldLink RX6 72 "DiagramCodeModel" "labels" "I", Cond.fieldLink RX6 32 "DiagramCodeModel" "row" "[I", Cond.methodLink RX6 78 yX6_sort, Cond.instanceMethod yX6_sort, Cond.selects RX6 yX6_sort yX6_sort, Cond.code yX6_sort cX6_sort 4 none, Cond.methodLink RX6 64 yX6_placeOf, Cond.instanceMethod yX6_placeOf, Cond.selects RX6 yX6_placeOf yX6_placeOf, Cond.code yX6_placeOf cX6_placeOf 5 (some .int), Cond.methodLink RX6 60 yX6_isOut, Cond.instanceMethod yX6_isOut, Cond.selects RX6 yX6_isOut yX6_isOut, Cond.code yX6_isOut cX6_isOut 3 (some .boolean)]
def wsX6_number_r2 : List Cond := [Cond.fieldLink RX6 20 "DiagramCodeModel" "sign" "[I", Cond.methodLink RX6 81 yX6_next, Cond.instanceMethod yX6_next, Cond.selects RX6 yX6_next yX6_next, Cond.code yX6_next cX6_next 2 (some .int), Cond.methodLink RX6 68 yX6_across, Cond.static yX6_across, Cond.code yX6_across cX6_across 1 (some .int), Cond.methodLink RX6 181 yX6_beginning, Cond.instanceMethod yX6_beginning, Cond.selects RX6 yX6_beginning yX6_beginning, Cond.code yX6_beginning cX6_beginning 4 (some .int), Cond.methodLink RX6 184 yX6_edgesOf, Cond.instanceMethod yX6_edgesOf, Cond.selects RX6 yX6_edgesOf yX6_edgesOf, Cond.code yX6_edgesOf cX6_edgesOf 4 (some .int)]
def wsX6_number : List Cond := .code yX6_number cX6_number 7 none :: ((wsX6_number_r1 ++ wsX6_number_r2) ++ wsX60)
def wsX6_rename : List Cond := .code yX6_rename cX6_rename 4 none :: ([.fieldLink RX6 57 "DiagramCodeModel" "n" "I", .fieldLink RX6 23 "DiagramCodeModel" "label" "[I", .fieldLink RX6 35 "DiagramCodeModel" "fresh" "[I"] ++ wsX60)
def wsX6_join : List Cond := .code yX6_join cX6_join 3 none :: ([.fieldLink RX6 105 "DiagramCodeModel" "circles" "I", .methodLink RX6 190 yX6_rename, .instanceMethod yX6_rename, .selects RX6 yX6_rename yX6_rename, .initialized RX6, .code yX6_rename cX6_rename 4 none, .fieldLink RX6 57 "DiagramCodeModel" "n" "I", .fieldLink RX6 23 "DiagramCodeModel" "label" "[I", .fieldLink RX6 35 "DiagramCodeModel" "fresh" "[I"] ++ wsX60)
def wsX6_smooth : List Cond := .code yX6_smooth cX6_smooth 5 (some .boolean) :: ([.fieldLink RX6 57 "DiagramCodeModel" "n" "I", .fieldLink RX6 35 "DiagramCodeModel" "fresh" "[I", .fieldLink RX6 23 "DiagramCodeModel" "label" "[I", .fieldLink RX6 20 "DiagramCodeModel" "sign" "[I", .methodLink RX6 140 yX6_upperIn, .instanceMethod yX6_upperIn, .selects RX6 yX6_upperIn yX6_upperIn, .initialized RX6, .code yX6_upperIn cX6_upperIn 2 (some .int), .methodLink RX6 194 yX6_join, .instanceMethod yX6_join, .selects RX6 yX6_join yX6_join, .code yX6_join cX6_join 3 none, .fieldLink RX6 105 "DiagramCodeModel" "circles" "I", .methodLink RX6 190 yX6_rename, .instanceMethod yX6_rename, .selects RX6 yX6_rename yX6_rename, .code yX6_rename cX6_rename 4 none] ++ wsX60)
def wsJ9_max_7cf53 : List Cond := .code yJ9_max_7cf53 cJ9_max_7cf53 2 (some .int) :: ([])
def wsJ9_min_7cf53 : List Cond := .code yJ9_min_7cf53 cJ9_min_7cf53 2 (some .int) :: ([])
def wsL_law_r1 : List Cond := [Cond.classLink RL 7 RX5, Cond.instantiable RX5 4, Cond.initialized RX5, Cond.classLink RL 10 RX6, Cond.instantiable RX6 23, Cond.initialized RX6, Cond.methodLink RL 9 yX5_init, Cond.instanceMethod yX5_init, Cond.code yX5_init cX5_init 1 none, Cond.methodLink RX5 3 objectInit, Cond.instanceMethod objectInit, Cond.code objectInit ⟨#[0xb1]⟩ 1 none, Cond.classLink RX5 9 RX0, Cond.instantiable RX0 9, Cond.initialized RX0, Cond.fieldLink RX5 12 "DiagramCode" "put" "LDiagramCode$Chart;", Cond.fieldLink RX5 16 "DiagramCode" "held" "LDiagramCode$Chart;", Cond.fieldLink RX5 19 "DiagramCode" "circles" "I", Cond.fieldLink RX5 23 "DiagramCode" "wrong" "I", Cond.instanceMethod yX0_init, Cond.code yX0_init cX0_init 1 none, Cond.methodLink RX0 3 objectInit, Cond.classLink RX0 9 RX4, Cond.instantiable RX4 3]
def wsL_law_r2 : List Cond := [Cond.initialized RX4, Cond.fieldLink RX0 12 "DiagramCode$Chart" "row" "LDiagramCode$Row;", Cond.classLink RX0 18 RX1, Cond.instantiable RX1 6, Cond.initialized RX1, Cond.fieldLink RX0 21 "DiagramCode$Chart" "edges" "LDiagramCode$Edges;", Cond.classLink RX0 25 RX2, Cond.instantiable RX2 4, Cond.initialized RX2, Cond.fieldLink RX0 28 "DiagramCode$Chart" "pieces" "LDiagramCode$Groups;", Cond.fieldLink RX0 32 "DiagramCode$Chart" "arcs" "LDiagramCode$Groups;", Cond.classLink RX0 35 RX3, Cond.instantiable RX3 6, Cond.initialized RX3, Cond.fieldLink RX0 38 "DiagramCode$Chart" "components" "LDiagramCode$Rounds;", Cond.fieldLink RX0 42 "DiagramCode$Chart" "seifert" "LDiagramCode$Rounds;", Cond.fieldLink RX0 45 "DiagramCode$Chart" "faces" "LDiagramCode$Rounds;", Cond.arrayClass .int, Cond.fieldLink RX0 48 "DiagramCode$Chart" "newLabels" "[I", Cond.fieldLink RX0 52 "DiagramCode$Chart" "wrong" "I", Cond.instanceMethod yX4_init, Cond.code yX4_init cX4_init 1 none, Cond.methodLink RX4 3 objectInit, Cond.fieldLink RX4 9 "DiagramCode$Row" "signs" "[I"]
def wsL_law_r3 : List Cond := [Cond.fieldLink RX4 15 "DiagramCode$Row" "labels" "[I", Cond.fieldLink RX4 18 "DiagramCode$Row" "crossings" "I", Cond.instanceMethod yX1_init, Cond.code yX1_init cX1_init 1 none, Cond.methodLink RX1 3 objectInit, Cond.fieldLink RX1 9 "DiagramCode$Edges" "labels" "[I", Cond.fieldLink RX1 15 "DiagramCode$Edges" "times" "[I", Cond.fieldLink RX1 18 "DiagramCode$Edges" "from" "[I", Cond.fieldLink RX1 21 "DiagramCode$Edges" "to" "[I", Cond.fieldLink RX1 24 "DiagramCode$Edges" "edgeAt" "[I", Cond.fieldLink RX1 27 "DiagramCode$Edges" "count" "I", Cond.instanceMethod yX2_init, Cond.code yX2_init cX2_init 1 none, Cond.methodLink RX2 3 objectInit, Cond.fieldLink RX2 9 "DiagramCode$Groups" "least" "[I", Cond.fieldLink RX2 15 "DiagramCode$Groups" "numberOf" "[I", Cond.fieldLink RX2 18 "DiagramCode$Groups" "members" "I", Cond.fieldLink RX2 22 "DiagramCode$Groups" "count" "I", Cond.instanceMethod yX3_init, Cond.code yX3_init cX3_init 1 none, Cond.methodLink RX3 3 objectInit, Cond.fieldLink RX3 9 "DiagramCode$Rounds" "next" "[I", Cond.fieldLink RX3 15 "DiagramCode$Rounds" "roundOf" "[I", Cond.fieldLink RX3 18 "DiagramCode$Rounds" "first" "[I"]
def wsL_law_r4 : List Cond := [Cond.fieldLink RX3 21 "DiagramCode$Rounds" "size" "[I", Cond.fieldLink RX3 24 "DiagramCode$Rounds" "members" "I", Cond.fieldLink RX3 28 "DiagramCode$Rounds" "count" "I", Cond.methodLink RL 12 yX6_init, Cond.instanceMethod yX6_init, Cond.code yX6_init cX6_init 1 none, Cond.methodLink RX6 1 objectInit, Cond.fieldLink RX6 7 "DiagramCodeModel" "wrong" "I", Cond.fieldLink RX6 13 "DiagramCodeModel" "putSign" "[I", Cond.fieldLink RX6 17 "DiagramCodeModel" "putLabel" "[I", Cond.fieldLink RX6 20 "DiagramCodeModel" "sign" "[I", Cond.fieldLink RX6 23 "DiagramCodeModel" "label" "[I", Cond.fieldLink RX6 26 "DiagramCodeModel" "oldSign" "[I", Cond.fieldLink RX6 29 "DiagramCodeModel" "oldLabel" "[I", Cond.fieldLink RX6 32 "DiagramCodeModel" "row" "[I", Cond.fieldLink RX6 35 "DiagramCodeModel" "fresh" "[I", Cond.arrayClass .boolean, Cond.fieldLink RX6 38 "DiagramCodeModel" "lower" "[Z", Cond.fieldLink RX6 42 "DiagramCodeModel" "upper" "[Z", Cond.fieldLink RX6 45 "DiagramCodeModel" "piece" "[I", Cond.fieldLink RX6 48 "DiagramCodeModel" "component" "[I", Cond.fieldLink RX6 51 "DiagramCodeModel" "faceOf" "[I", Cond.methodLink RL 13 yX5_crossing, Cond.instanceMethod yX5_crossing]
def wsL_law_r5 : List Cond := [Cond.selects RX5 yX5_crossing yX5_crossing, Cond.code yX5_crossing cX5_crossing 6 (some .int), Cond.fieldLink RX5 30 "DiagramCode$Chart" "row" "LDiagramCode$Row;", Cond.methodLink RX5 26 yX5_isLabel, Cond.static yX5_isLabel, Cond.code yX5_isLabel cX5_isLabel 1 (some .boolean), Cond.methodLink RX5 34 yX4_append, Cond.instanceMethod yX4_append, Cond.selects RX4 yX4_append yX4_append, Cond.code yX4_append cX4_append 7 (some .boolean), Cond.methodLink RX5 40 yX4_crossings, Cond.instanceMethod yX4_crossings, Cond.selects RX4 yX4_crossings yX4_crossings, Cond.code yX4_crossings cX4_crossings 1 (some .int), Cond.methodLink RL 17 yX6_crossing, Cond.instanceMethod yX6_crossing, Cond.selects RX6 yX6_crossing yX6_crossing, Cond.code yX6_crossing cX6_crossing 7 (some .int), Cond.fieldLink RX6 99 "DiagramCodeModel" "put" "I", Cond.methodLink RL 18 yX5_check, Cond.instanceMethod yX5_check, Cond.selects RX5 yX5_check yX5_check, Cond.code yX5_check cX5_check 4 (some .int), Cond.methodLink RX5 44 yX0_survey]
def wsL_law_r6 : List Cond := [Cond.instanceMethod yX0_survey, Cond.selects RX0 yX0_survey yX0_survey, Cond.code yX0_survey cX0_survey 1 (some .int), Cond.methodLink RX0 56 yX1_gatherLabels, Cond.instanceMethod yX1_gatherLabels, Cond.selects RX1 yX1_gatherLabels yX1_gatherLabels, Cond.code yX1_gatherLabels cX1_gatherLabels 3 (some .int), Cond.methodLink RX1 41 yX4_spots, Cond.instanceMethod yX4_spots, Cond.selects RX4 yX4_spots yX4_spots, Cond.code yX4_spots cX4_spots 1 (some .int), Cond.methodLink RX1 47 yX4_label, Cond.instanceMethod yX4_label, Cond.selects RX4 yX4_label yX4_label, Cond.code yX4_label cX4_label 2 (some .int), Cond.methodLink RX4 26 yX4_spots, Cond.methodLink RX1 50 yX1_countLabel, Cond.instanceMethod yX1_countLabel, Cond.selects RX1 yX1_countLabel yX1_countLabel, Cond.code yX1_countLabel cX1_countLabel 4 none, Cond.methodLink RX1 54 yX1_countLess, Cond.instanceMethod yX1_countLess, Cond.selects RX1 yX1_countLess yX1_countLess, Cond.code yX1_countLess cX1_countLess 3 (some .int)]
def wsL_law_r7 : List Cond := [Cond.methodLink RX1 31 yX1_has, Cond.instanceMethod yX1_has, Cond.selects RX1 yX1_has yX1_has, Cond.code yX1_has cX1_has 2 (some .boolean), Cond.methodLink RX0 60 yX1_findEnds, Cond.instanceMethod yX1_findEnds, Cond.selects RX1 yX1_findEnds yX1_findEnds, Cond.code yX1_findEnds cX1_findEnds 3 (some .int), Cond.methodLink RX1 57 yJ7_fill_53178, Cond.static yJ7_fill_53178, Cond.initialized RJ7, Cond.code yJ7_fill_53178 cJ7_fill_53178 4 none, Cond.methodLink RX1 63 yX1_rank, Cond.instanceMethod yX1_rank, Cond.selects RX1 yX1_rank yX1_rank, Cond.code yX1_rank cX1_rank 3 (some .int), Cond.methodLink RX1 66 yX4_goesOut, Cond.instanceMethod yX4_goesOut, Cond.selects RX4 yX4_goesOut yX4_goesOut, Cond.code yX4_goesOut cX4_goesOut 3 (some .boolean), Cond.methodLink RX4 34 yX4_lowerOut, Cond.static yX4_lowerOut, Cond.code yX4_lowerOut cX4_lowerOut 1 (some .int), Cond.methodLink RX4 37 yX4_upperOut]
def wsL_law_r8 : List Cond := [Cond.instanceMethod yX4_upperOut, Cond.selects RX4 yX4_upperOut yX4_upperOut, Cond.code yX4_upperOut cX4_upperOut 2 (some .int), Cond.methodLink RX4 30 yX4_sign, Cond.instanceMethod yX4_sign, Cond.selects RX4 yX4_sign yX4_sign, Cond.code yX4_sign cX4_sign 2 (some .int), Cond.methodLink RX4 22 yX4_has, Cond.instanceMethod yX4_has, Cond.selects RX4 yX4_has yX4_has, Cond.code yX4_has cX4_has 2 (some .boolean), Cond.methodLink RX1 69 yX1_noteEnd, Cond.instanceMethod yX1_noteEnd, Cond.selects RX1 yX1_noteEnd yX1_noteEnd, Cond.code yX1_noteEnd cX1_noteEnd 4 none, Cond.methodLink RX0 63 yX0_groupPieces, Cond.instanceMethod yX0_groupPieces, Cond.selects RX0 yX0_groupPieces yX0_groupPieces, Cond.code yX0_groupPieces cX0_groupPieces 2 none, Cond.methodLink RX0 79 yX4_crossings, Cond.methodLink RX0 82 yX2_begin, Cond.instanceMethod yX2_begin, Cond.selects RX2 yX2_begin yX2_begin, Cond.code yX2_begin cX2_begin 3 none]
def wsL_law_r9 : List Cond := [Cond.methodLink RX2 29 Lib.Math.min.name, Cond.static Lib.Math.min.name, Cond.initialized "java/lang/Math", Cond.code Lib.Math.min.name Lib.Math.min.code 2 (some .int), Cond.methodLink RX0 86 yX1_count, Cond.instanceMethod yX1_count, Cond.selects RX1 yX1_count yX1_count, Cond.code yX1_count cX1_count 1 (some .int), Cond.methodLink RX0 89 yX1_from, Cond.instanceMethod yX1_from, Cond.selects RX1 yX1_from yX1_from, Cond.code yX1_from cX1_from 2 (some .int), Cond.methodLink RX0 93 yX1_to, Cond.instanceMethod yX1_to, Cond.selects RX1 yX1_to yX1_to, Cond.code yX1_to cX1_to 2 (some .int), Cond.methodLink RX0 96 yX2_join, Cond.instanceMethod yX2_join, Cond.selects RX2 yX2_join yX2_join, Cond.code yX2_join cX2_join 6 none, Cond.methodLink RX2 38 Lib.Math.max.name, Cond.static Lib.Math.max.name, Cond.code Lib.Math.max.name Lib.Math.max.code 2 (some .int), Cond.methodLink RX2 35 yX2_least]
def wsL_law_r10 : List Cond := [Cond.instanceMethod yX2_least, Cond.selects RX2 yX2_least yX2_least, Cond.code yX2_least cX2_least 2 (some .int), Cond.methodLink RX2 25 yX2_hasMember, Cond.instanceMethod yX2_hasMember, Cond.selects RX2 yX2_hasMember yX2_hasMember, Cond.code yX2_hasMember cX2_hasMember 2 (some .boolean), Cond.methodLink RX0 100 yX2_numberGroups, Cond.instanceMethod yX2_numberGroups, Cond.selects RX2 yX2_numberGroups yX2_numberGroups, Cond.code yX2_numberGroups cX2_numberGroups 2 none, Cond.methodLink RX2 41 yX2_numberOf, Cond.instanceMethod yX2_numberOf, Cond.selects RX2 yX2_numberOf yX2_numberOf, Cond.code yX2_numberOf cX2_numberOf 2 (some .int), Cond.methodLink RX0 66 yX0_traceFaces, Cond.instanceMethod yX0_traceFaces, Cond.selects RX0 yX0_traceFaces yX0_traceFaces, Cond.code yX0_traceFaces cX0_traceFaces 2 none, Cond.methodLink RX0 103 yX3_begin, Cond.instanceMethod yX3_begin, Cond.selects RX3 yX3_begin yX3_begin, Cond.code yX3_begin cX3_begin 2 none, Cond.methodLink RX3 43 Lib.Math.min.name]
def wsL_law_r11 : List Cond := [Cond.methodLink RX0 104 yX4_beside, Cond.static yX4_beside, Cond.code yX4_beside cX4_beside 1 (some .int), Cond.methodLink RX0 107 yX1_dartFrom, Cond.instanceMethod yX1_dartFrom, Cond.selects RX1 yX1_dartFrom yX1_dartFrom, Cond.code yX1_dartFrom cX1_dartFrom 3 (some .int), Cond.methodLink RX1 35 yX1_at, Cond.instanceMethod yX1_at, Cond.selects RX1 yX1_at yX1_at, Cond.code yX1_at cX1_at 2 (some .int), Cond.methodLink RX1 39 yX1_from, Cond.methodLink RX0 110 yX3_link, Cond.instanceMethod yX3_link, Cond.selects RX3 yX3_link yX3_link, Cond.code yX3_link cX3_link 3 none, Cond.methodLink RX3 31 yX3_hasMember, Cond.instanceMethod yX3_hasMember, Cond.selects RX3 yX3_hasMember yX3_hasMember, Cond.code yX3_hasMember cX3_hasMember 2 (some .boolean), Cond.methodLink RX0 113 yX3_trace, Cond.instanceMethod yX3_trace, Cond.selects RX3 yX3_trace yX3_trace, Cond.code yX3_trace cX3_trace 2 none]
def wsL_law_r12 : List Cond := [Cond.methodLink RX3 49 yJ7_fill_53178, Cond.methodLink RX3 55 yX3_walk, Cond.instanceMethod yX3_walk, Cond.selects RX3 yX3_walk yX3_walk, Cond.code yX3_walk cX3_walk 4 none, Cond.methodLink RX0 69 yX0_leastCrossingOnNoSphere, Cond.instanceMethod yX0_leastCrossingOnNoSphere, Cond.selects RX0 yX0_leastCrossingOnNoSphere yX0_leastCrossingOnNoSphere, Cond.code yX0_leastCrossingOnNoSphere cX0_leastCrossingOnNoSphere 2 (some .int), Cond.methodLink RX0 116 yX2_least, Cond.methodLink RX0 119 yX2_numberOf, Cond.methodLink RX0 122 yX0_facesLessCrossings, Cond.instanceMethod yX0_facesLessCrossings, Cond.selects RX0 yX0_facesLessCrossings yX0_facesLessCrossings, Cond.code yX0_facesLessCrossings cX0_facesLessCrossings 4 (some .int), Cond.methodLink RX0 125 yX3_count, Cond.instanceMethod yX3_count, Cond.selects RX3 yX3_count yX3_count, Cond.code yX3_count cX3_count 1 (some .int), Cond.methodLink RX0 126 yX3_first, Cond.instanceMethod yX3_first, Cond.selects RX3 yX3_first yX3_first, Cond.code yX3_first cX3_first 2 (some .int), Cond.methodLink RX3 35 yX3_hasRound]
def wsL_law_r13 : List Cond := [Cond.instanceMethod yX3_hasRound, Cond.selects RX3 yX3_hasRound yX3_hasRound, Cond.code yX3_hasRound cX3_hasRound 2 (some .boolean), Cond.methodLink RX0 129 yX0_pieceOfEdge, Cond.instanceMethod yX0_pieceOfEdge, Cond.selects RX0 yX0_pieceOfEdge yX0_pieceOfEdge, Cond.code yX0_pieceOfEdge cX0_pieceOfEdge 2 (some .int), Cond.methodLink RX0 73 yX0_traceStrands, Cond.instanceMethod yX0_traceStrands, Cond.selects RX0 yX0_traceStrands yX0_traceStrands, Cond.code yX0_traceStrands cX0_traceStrands 2 none, Cond.methodLink RX0 132 yX4_across, Cond.static yX4_across, Cond.code yX4_across cX4_across 1 (some .int), Cond.methodLink RX0 135 yX1_at, Cond.methodLink RX0 138 yX4_seifertOut, Cond.instanceMethod yX4_seifertOut, Cond.selects RX4 yX4_seifertOut yX4_seifertOut, Cond.code yX4_seifertOut cX4_seifertOut 3 (some .int), Cond.methodLink RX4 40 yX4_isUpper, Cond.static yX4_isUpper, Cond.code yX4_isUpper cX4_isUpper 1 (some .boolean), Cond.methodLink RX0 76 yX0_groupArcs, Cond.instanceMethod yX0_groupArcs]
def wsL_law_r14 : List Cond := [Cond.selects RX0 yX0_groupArcs yX0_groupArcs, Cond.code yX0_groupArcs cX0_groupArcs 2 none, Cond.methodLink RX0 141 yX4_isUpper, Cond.methodLink RX0 145 yX3_next, Cond.instanceMethod yX3_next, Cond.selects RX3 yX3_next yX3_next, Cond.code yX3_next cX3_next 2 (some .int), Cond.methodLink RX5 47 yX0_wrong, Cond.instanceMethod yX0_wrong, Cond.selects RX0 yX0_wrong yX0_wrong, Cond.code yX0_wrong cX0_wrong 1 (some .int), Cond.methodLink RX5 49 yX4_clear, Cond.instanceMethod yX4_clear, Cond.selects RX4 yX4_clear yX4_clear, Cond.code yX4_clear cX4_clear 1 none, Cond.methodLink RL 22 yX6_check, Cond.instanceMethod yX6_check, Cond.selects RX6 yX6_check yX6_check, Cond.code yX6_check cX6_check 3 (some .int), Cond.fieldLink RX6 105 "DiagramCodeModel" "circles" "I", Cond.methodLink RX6 125 yX6_take, Cond.instanceMethod yX6_take, Cond.selects RX6 yX6_take yX6_take, Cond.code yX6_take cX6_take 2 none]
def wsL_law_r15 : List Cond := [Cond.fieldLink RX6 57 "DiagramCodeModel" "n" "I", Cond.fieldLink RX6 102 "DiagramCodeModel" "oldN" "I", Cond.fieldLink RX6 108 "DiagramCodeModel" "oldCircles" "I", Cond.methodLink RX6 128 yX6_fault, Cond.instanceMethod yX6_fault, Cond.selects RX6 yX6_fault yX6_fault, Cond.code yX6_fault cX6_fault 1 (some .int), Cond.methodLink RX6 117 yX6_badLabel, Cond.instanceMethod yX6_badLabel, Cond.selects RX6 yX6_badLabel yX6_badLabel, Cond.code yX6_badLabel cX6_badLabel 5 (some .int), Cond.fieldLink RX6 72 "DiagramCodeModel" "labels" "I", Cond.methodLink RX6 78 yX6_sort, Cond.instanceMethod yX6_sort, Cond.selects RX6 yX6_sort yX6_sort, Cond.code yX6_sort cX6_sort 4 none, Cond.methodLink RX6 64 yX6_placeOf, Cond.instanceMethod yX6_placeOf, Cond.selects RX6 yX6_placeOf yX6_placeOf, Cond.code yX6_placeOf cX6_placeOf 5 (some .int), Cond.methodLink RX6 60 yX6_isOut, Cond.instanceMethod yX6_isOut, Cond.selects RX6 yX6_isOut yX6_isOut, Cond.code yX6_isOut cX6_isOut 3 (some .boolean)]
def wsL_law_r16 : List Cond := [Cond.methodLink RX6 121 yX6_badPiece, Cond.instanceMethod yX6_badPiece, Cond.selects RX6 yX6_badPiece yX6_badPiece, Cond.code yX6_badPiece cX6_badPiece 5 (some .int), Cond.methodLink RX6 87 yX6_hang, Cond.instanceMethod yX6_hang, Cond.selects RX6 yX6_hang yX6_hang, Cond.code yX6_hang cX6_hang 4 none, Cond.methodLink RX6 111 yX6_findFaces, Cond.instanceMethod yX6_findFaces, Cond.selects RX6 yX6_findFaces yX6_findFaces, Cond.code yX6_findFaces cX6_findFaces 4 none, Cond.fieldLink RX6 90 "DiagramCodeModel" "faces" "I", Cond.methodLink RX6 93 yX6_rowOf, Cond.instanceMethod yX6_rowOf, Cond.selects RX6 yX6_rowOf yX6_rowOf, Cond.code yX6_rowOf cX6_rowOf 3 (some .int), Cond.methodLink RX6 96 yX6_turn, Cond.instanceMethod yX6_turn, Cond.selects RX6 yX6_turn yX6_turn, Cond.code yX6_turn cX6_turn 4 (some .int), Cond.methodLink RX6 114 yX6_facesAt, Cond.instanceMethod yX6_facesAt, Cond.selects RX6 yX6_facesAt yX6_facesAt]
def wsL_law_r17 : List Cond := [Cond.code yX6_facesAt cX6_facesAt 6 (some .int), Cond.methodLink RX6 131 yX6_back, Cond.instanceMethod yX6_back, Cond.selects RX6 yX6_back yX6_back, Cond.code yX6_back cX6_back 2 none, Cond.methodLink RL 23 yX5_which, Cond.instanceMethod yX5_which, Cond.selects RX5 yX5_which yX5_which, Cond.code yX5_which cX5_which 1 (some .int), Cond.methodLink RL 27 yX6_which, Cond.instanceMethod yX6_which, Cond.selects RX6 yX6_which yX6_which, Cond.code yX6_which cX6_which 1 (some .int), Cond.methodLink RL 28 yX5_many, Cond.instanceMethod yX5_many, Cond.selects RX5 yX5_many yX5_many, Cond.code yX5_many cX5_many 2 (some .int), Cond.fieldLink RX5 52 "DiagramCode$Chart" "edges" "LDiagramCode$Edges;", Cond.fieldLink RX5 61 "DiagramCode$Chart" "components" "LDiagramCode$Rounds;", Cond.fieldLink RX5 68 "DiagramCode$Chart" "pieces" "LDiagramCode$Groups;", Cond.fieldLink RX5 78 "DiagramCode$Chart" "faces" "LDiagramCode$Rounds;", Cond.fieldLink RX5 81 "DiagramCode$Chart" "arcs" "LDiagramCode$Groups;", Cond.fieldLink RX5 84 "DiagramCode$Chart" "seifert" "LDiagramCode$Rounds;", Cond.methodLink RX5 56 yX1_count]
def wsL_law_r18 : List Cond := [Cond.methodLink RX5 65 yX3_count, Cond.methodLink RX5 72 yX2_count, Cond.instanceMethod yX2_count, Cond.selects RX2 yX2_count yX2_count, Cond.code yX2_count cX2_count 1 (some .int), Cond.methodLink RX5 75 yX4_sumOfSigns, Cond.instanceMethod yX4_sumOfSigns, Cond.selects RX4 yX4_sumOfSigns yX4_sumOfSigns, Cond.code yX4_sumOfSigns cX4_sumOfSigns 3 (some .int), Cond.methodLink RX5 87 yX1_alternate, Cond.instanceMethod yX1_alternate, Cond.selects RX1 yX1_alternate yX1_alternate, Cond.code yX1_alternate cX1_alternate 2 (some .boolean), Cond.methodLink RX1 73 yX4_isUpper, Cond.methodLink RL 31 yX6_many, Cond.instanceMethod yX6_many, Cond.selects RX6 yX6_many yX6_many, Cond.code yX6_many cX6_many 2 (some .int), Cond.methodLink RX6 146 yX6_allComponents, Cond.instanceMethod yX6_allComponents, Cond.selects RX6 yX6_allComponents yX6_allComponents, Cond.code yX6_allComponents cX6_allComponents 1 (some .int), Cond.fieldLink RX6 75 "DiagramCodeModel" "closed" "I", Cond.methodLink RX6 84 yX6_components]
def wsL_law_r19 : List Cond := [Cond.instanceMethod yX6_components, Cond.selects RX6 yX6_components yX6_components, Cond.code yX6_components cX6_components 4 none, Cond.methodLink RX6 81 yX6_next, Cond.instanceMethod yX6_next, Cond.selects RX6 yX6_next yX6_next, Cond.code yX6_next cX6_next 2 (some .int), Cond.methodLink RX6 68 yX6_across, Cond.static yX6_across, Cond.code yX6_across cX6_across 1 (some .int), Cond.methodLink RX6 149 yX6_pieces, Cond.instanceMethod yX6_pieces, Cond.selects RX6 yX6_pieces yX6_pieces, Cond.code yX6_pieces cX6_pieces 3 (some .int), Cond.methodLink RX6 152 yX6_signs, Cond.instanceMethod yX6_signs, Cond.selects RX6 yX6_signs yX6_signs, Cond.code yX6_signs cX6_signs 3 (some .int), Cond.methodLink RX6 155 yX6_allFaces, Cond.instanceMethod yX6_allFaces, Cond.selects RX6 yX6_allFaces yX6_allFaces, Cond.code yX6_allFaces cX6_allFaces 1 (some .int), Cond.methodLink RX6 158 yX6_arcs, Cond.instanceMethod yX6_arcs]
def wsL_law_r20 : List Cond := [Cond.selects RX6 yX6_arcs yX6_arcs, Cond.code yX6_arcs cX6_arcs 3 (some .int), Cond.methodLink RX6 137 yX6_arcOf, Cond.instanceMethod yX6_arcOf, Cond.selects RX6 yX6_arcOf yX6_arcOf, Cond.code yX6_arcOf cX6_arcOf 6 (some .int), Cond.methodLink RX6 134 yX6_isUpper, Cond.static yX6_isUpper, Cond.code yX6_isUpper cX6_isUpper 1 (some .boolean), Cond.methodLink RX6 161 yX6_seifert, Cond.instanceMethod yX6_seifert, Cond.selects RX6 yX6_seifert yX6_seifert, Cond.code yX6_seifert cX6_seifert 5 (some .int), Cond.methodLink RX6 143 yX6_seifertNext, Cond.instanceMethod yX6_seifertNext, Cond.selects RX6 yX6_seifertNext yX6_seifertNext, Cond.code yX6_seifertNext cX6_seifertNext 4 (some .int), Cond.methodLink RX6 140 yX6_upperIn, Cond.instanceMethod yX6_upperIn, Cond.selects RX6 yX6_upperIn yX6_upperIn, Cond.code yX6_upperIn cX6_upperIn 2 (some .int), Cond.methodLink RX6 164 yX6_isAlternating, Cond.instanceMethod yX6_isAlternating, Cond.selects RX6 yX6_isAlternating yX6_isAlternating]
def wsL_law_r21 : List Cond := [Cond.code yX6_isAlternating cX6_isAlternating 3 (some .boolean), Cond.methodLink RL 32 yX5_look, Cond.instanceMethod yX5_look, Cond.selects RX5 yX5_look yX5_look, Cond.code yX5_look cX5_look 3 (some .int), Cond.methodLink RX5 91 yX4_has, Cond.methodLink RX5 94 yX4_label, Cond.methodLink RX5 98 yX4_sign, Cond.methodLink RX5 101 yX2_numberOf, Cond.methodLink RX5 104 yX0_lowerComponent, Cond.instanceMethod yX0_lowerComponent, Cond.selects RX0 yX0_lowerComponent yX0_lowerComponent, Cond.code yX0_lowerComponent cX0_lowerComponent 2 (some .int), Cond.methodLink RX0 148 yX4_lowerIn, Cond.static yX4_lowerIn, Cond.code yX4_lowerIn cX4_lowerIn 1 (some .int), Cond.methodLink RX0 151 yX3_roundOf, Cond.instanceMethod yX3_roundOf, Cond.selects RX3 yX3_roundOf yX3_roundOf, Cond.code yX3_roundOf cX3_roundOf 2 (some .int), Cond.methodLink RX5 107 yX0_upperComponent, Cond.instanceMethod yX0_upperComponent, Cond.selects RX0 yX0_upperComponent yX0_upperComponent, Cond.code yX0_upperComponent cX0_upperComponent 2 (some .int)]
def wsL_law_r22 : List Cond := [Cond.methodLink RX0 154 yX4_upperIn, Cond.instanceMethod yX4_upperIn, Cond.selects RX4 yX4_upperIn yX4_upperIn, Cond.code yX4_upperIn cX4_upperIn 2 (some .int), Cond.methodLink RL 36 yX6_look, Cond.instanceMethod yX6_look, Cond.selects RX6 yX6_look yX6_look, Cond.code yX6_look cX6_look 3 (some .int), Cond.methodLink RX6 168 yX6_pieceOf, Cond.instanceMethod yX6_pieceOf, Cond.selects RX6 yX6_pieceOf yX6_pieceOf, Cond.code yX6_pieceOf cX6_pieceOf 4 (some .int), Cond.methodLink RX6 171 yX6_componentOf, Cond.instanceMethod yX6_componentOf, Cond.selects RX6 yX6_componentOf yX6_componentOf, Cond.code yX6_componentOf cX6_componentOf 2 (some .int), Cond.methodLink RL 37 yX5_edge, Cond.instanceMethod yX5_edge, Cond.selects RX5 yX5_edge yX5_edge, Cond.code yX5_edge cX5_edge 5 (some .int), Cond.methodLink RX5 110 yX1_rank, Cond.methodLink RX5 113 yX1_from, Cond.methodLink RX5 116 yX1_to, Cond.methodLink RX5 119 yX3_next]
def wsL_law_r23 : List Cond := [Cond.methodLink RX5 122 yX1_label, Cond.instanceMethod yX1_label, Cond.selects RX1 yX1_label yX1_label, Cond.code yX1_label cX1_label 2 (some .int), Cond.methodLink RX5 123 yX3_roundOf, Cond.methodLink RX5 126 yX2_least, Cond.methodLink RL 40 yX6_edge, Cond.instanceMethod yX6_edge, Cond.selects RX6 yX6_edge yX6_edge, Cond.code yX6_edge cX6_edge 5 (some .int), Cond.methodLink RX6 174 yX6_faceAt, Cond.instanceMethod yX6_faceAt, Cond.selects RX6 yX6_faceAt yX6_faceAt, Cond.code yX6_faceAt cX6_faceAt 3 (some .int), Cond.methodLink RL 41 yX5_component, Cond.instanceMethod yX5_component, Cond.selects RX5 yX5_component yX5_component, Cond.code yX5_component cX5_component 4 (some .int), Cond.methodLink RX5 129 yX5_hasComponent, Cond.instanceMethod yX5_hasComponent, Cond.selects RX5 yX5_hasComponent yX5_hasComponent, Cond.code yX5_hasComponent cX5_hasComponent 2 (some .boolean), Cond.methodLink RX5 132 yX0_linking, Cond.instanceMethod yX0_linking]
def wsL_law_r24 : List Cond := [Cond.selects RX0 yX0_linking yX0_linking, Cond.code yX0_linking cX0_linking 3 (some .int), Cond.methodLink RX0 157 yX0_sumOfSignsUnder, Cond.instanceMethod yX0_sumOfSignsUnder, Cond.selects RX0 yX0_sumOfSignsUnder yX0_sumOfSignsUnder, Cond.code yX0_sumOfSignsUnder cX0_sumOfSignsUnder 5 (some .int), Cond.methodLink RX0 161 yX0_lowerComponent, Cond.methodLink RX0 164 yX0_upperComponent, Cond.methodLink RX0 167 yX4_sign, Cond.methodLink RX5 136 yX5_tellCircle, Cond.instanceMethod yX5_tellCircle, Cond.selects RX5 yX5_tellCircle yX5_tellCircle, Cond.code yX5_tellCircle cX5_tellCircle 3 (some .int), Cond.methodLink RX5 139 yX3_first, Cond.methodLink RX5 142 yX3_size, Cond.instanceMethod yX3_size, Cond.selects RX3 yX3_size yX3_size, Cond.code yX3_size cX3_size 2 (some .int), Cond.methodLink RX5 145 yX0_sumOfOwnSigns, Cond.instanceMethod yX0_sumOfOwnSigns, Cond.selects RX0 yX0_sumOfOwnSigns yX0_sumOfOwnSigns, Cond.code yX0_sumOfOwnSigns cX0_sumOfOwnSigns 2 (some .int), Cond.methodLink RX5 148 yX0_pieceOfComponent, Cond.instanceMethod yX0_pieceOfComponent]
def wsL_law_r25 : List Cond := [Cond.selects RX0 yX0_pieceOfComponent yX0_pieceOfComponent, Cond.code yX0_pieceOfComponent cX0_pieceOfComponent 2 (some .int), Cond.methodLink RL 44 yX6_component, Cond.instanceMethod yX6_component, Cond.selects RX6 yX6_component yX6_component, Cond.code yX6_component cX6_component 6 (some .int), Cond.methodLink RX6 178 yX6_together, Cond.instanceMethod yX6_together, Cond.selects RX6 yX6_together yX6_together, Cond.code yX6_together cX6_together 7 (some .int), Cond.methodLink RX6 181 yX6_beginning, Cond.instanceMethod yX6_beginning, Cond.selects RX6 yX6_beginning yX6_beginning, Cond.code yX6_beginning cX6_beginning 4 (some .int), Cond.methodLink RX6 184 yX6_edgesOf, Cond.instanceMethod yX6_edgesOf, Cond.selects RX6 yX6_edgesOf yX6_edgesOf, Cond.code yX6_edgesOf cX6_edgesOf 4 (some .int), Cond.methodLink RL 45 yX5_face, Cond.instanceMethod yX5_face, Cond.selects RX5 yX5_face yX5_face, Cond.code yX5_face cX5_face 6 (some .int), Cond.methodLink RX5 151 yX3_member, Cond.instanceMethod yX3_member]
def wsL_law_r26 : List Cond := [Cond.selects RX3 yX3_member yX3_member, Cond.code yX3_member cX3_member 5 (some .int), Cond.methodLink RX3 38 yX3_first, Cond.methodLink RX3 41 yX3_next, Cond.methodLink RL 48 yX6_face, Cond.instanceMethod yX6_face, Cond.selects RX6 yX6_face yX6_face, Cond.code yX6_face cX6_face 8 (some .int), Cond.methodLink RL 49 yX5_mirror, Cond.instanceMethod yX5_mirror, Cond.selects RX5 yX5_mirror yX5_mirror, Cond.code yX5_mirror cX5_mirror 1 none, Cond.methodLink RX5 154 yX4_exchangeAllStrands, Cond.instanceMethod yX4_exchangeAllStrands, Cond.selects RX4 yX4_exchangeAllStrands yX4_exchangeAllStrands, Cond.code yX4_exchangeAllStrands cX4_exchangeAllStrands 2 none, Cond.methodLink RX4 54 yX4_exchangeStrands, Cond.instanceMethod yX4_exchangeStrands, Cond.selects RX4 yX4_exchangeStrands yX4_exchangeStrands, Cond.code yX4_exchangeStrands cX4_exchangeStrands 2 none, Cond.methodLink RX4 43 yX4_upperIn, Cond.methodLink RX4 46 yX4_beginPlacesAt, Cond.instanceMethod yX4_beginPlacesAt, Cond.selects RX4 yX4_beginPlacesAt yX4_beginPlacesAt]
def wsL_law_r27 : List Cond := [Cond.code yX4_beginPlacesAt cX4_beginPlacesAt 6 none, Cond.methodLink RX4 50 yX4_flipSign, Cond.instanceMethod yX4_flipSign, Cond.selects RX4 yX4_flipSign yX4_flipSign, Cond.code yX4_flipSign cX4_flipSign 2 none, Cond.methodLink RL 52 yX6_mirror, Cond.instanceMethod yX6_mirror, Cond.selects RX6 yX6_mirror yX6_mirror, Cond.code yX6_mirror cX6_mirror 2 none, Cond.methodLink RX6 187 yX6_change, Cond.instanceMethod yX6_change, Cond.selects RX6 yX6_change yX6_change, Cond.code yX6_change cX6_change 4 (some .boolean), Cond.methodLink RL 53 yX5_reverse, Cond.instanceMethod yX5_reverse, Cond.selects RX5 yX5_reverse yX5_reverse, Cond.code yX5_reverse cX5_reverse 2 (some .boolean), Cond.methodLink RX5 157 yX0_turnComponent, Cond.instanceMethod yX0_turnComponent, Cond.selects RX0 yX0_turnComponent yX0_turnComponent, Cond.code yX0_turnComponent cX0_turnComponent 3 none, Cond.methodLink RX0 170 yX4_turnStrands, Cond.instanceMethod yX4_turnStrands, Cond.selects RX4 yX4_turnStrands yX4_turnStrands]
def wsL_law_r28 : List Cond := [Cond.code yX4_turnStrands cX4_turnStrands 4 none, Cond.methodLink RL 57 yX6_reverse, Cond.instanceMethod yX6_reverse, Cond.selects RX6 yX6_reverse yX6_reverse, Cond.code yX6_reverse cX6_reverse 4 (some .boolean), Cond.methodLink RL 58 yX5_number, Cond.instanceMethod yX5_number, Cond.selects RX5 yX5_number yX5_number, Cond.code yX5_number cX5_number 1 none, Cond.methodLink RX5 161 yX0_labelAnew, Cond.instanceMethod yX0_labelAnew, Cond.selects RX0 yX0_labelAnew yX0_labelAnew, Cond.code yX0_labelAnew cX0_labelAnew 3 none, Cond.methodLink RX0 174 yX0_chooseNewLabels, Cond.instanceMethod yX0_chooseNewLabels, Cond.selects RX0 yX0_chooseNewLabels yX0_chooseNewLabels, Cond.code yX0_chooseNewLabels cX0_chooseNewLabels 5 none, Cond.methodLink RX0 183 yX3_size, Cond.methodLink RX0 177 yX4_spots, Cond.methodLink RX0 180 yX4_setLabel, Cond.instanceMethod yX4_setLabel, Cond.selects RX4 yX4_setLabel yX4_setLabel, Cond.code yX4_setLabel cX4_setLabel 3 none, Cond.methodLink RL 61 yX6_number]
def wsL_law_r29 : List Cond := [Cond.instanceMethod yX6_number, Cond.selects RX6 yX6_number yX6_number, Cond.code yX6_number cX6_number 7 none, Cond.methodLink RL 62 yX5_change, Cond.instanceMethod yX5_change, Cond.selects RX5 yX5_change yX5_change, Cond.code yX5_change cX5_change 2 (some .boolean), Cond.methodLink RX5 164 yX4_exchangeStrands, Cond.methodLink RL 65 yX6_change, Cond.methodLink RL 66 yX5_smooth, Cond.instanceMethod yX5_smooth, Cond.selects RX5 yX5_smooth yX5_smooth, Cond.code yX5_smooth cX5_smooth 2 (some .boolean), Cond.methodLink RX5 167 yX4_smoothAway, Cond.instanceMethod yX4_smoothAway, Cond.selects RX4 yX4_smoothAway yX4_smoothAway, Cond.code yX4_smoothAway cX4_smoothAway 3 (some .int), Cond.methodLink RX4 57 yX4_lowerIn, Cond.methodLink RX4 60 yX4_label, Cond.methodLink RX4 63 yX4_joinEdges, Cond.instanceMethod yX4_joinEdges, Cond.selects RX4 yX4_joinEdges yX4_joinEdges, Cond.code yX4_joinEdges cX4_joinEdges 6 (some .int), Cond.methodLink RX4 70 Lib.Math.min.name]
def wsL_law_r30 : List Cond := [Cond.methodLink RX4 75 Lib.Math.max.name, Cond.methodLink RX4 67 yX4_dropCrossing, Cond.instanceMethod yX4_dropCrossing, Cond.selects RX4 yX4_dropCrossing yX4_dropCrossing, Cond.code yX4_dropCrossing cX4_dropCrossing 3 none, Cond.methodLink RL 69 yX6_smooth, Cond.instanceMethod yX6_smooth, Cond.selects RX6 yX6_smooth yX6_smooth, Cond.code yX6_smooth cX6_smooth 5 (some .boolean), Cond.methodLink RX6 194 yX6_join, Cond.instanceMethod yX6_join, Cond.selects RX6 yX6_join yX6_join, Cond.code yX6_join cX6_join 3 none, Cond.methodLink RX6 190 yX6_rename, Cond.instanceMethod yX6_rename, Cond.selects RX6 yX6_rename yX6_rename, Cond.code yX6_rename cX6_rename 4 none]
def wsL_law : List Cond := (wsL_law_r1 ++ (wsL_law_r2 ++ (wsL_law_r3 ++ (wsL_law_r4 ++ (wsL_law_r5 ++ (wsL_law_r6 ++ (wsL_law_r7 ++ (wsL_law_r8 ++ (wsL_law_r9 ++ (wsL_law_r10 ++ (wsL_law_r11 ++ (wsL_law_r12 ++ (wsL_law_r13 ++ (wsL_law_r14 ++ (wsL_law_r15 ++ (wsL_law_r16 ++ (wsL_law_r17 ++ (wsL_law_r18 ++ (wsL_law_r19 ++ (wsL_law_r20 ++ (wsL_law_r21 ++ (wsL_law_r22 ++ (wsL_law_r23 ++ (wsL_law_r24 ++ (wsL_law_r25 ++ (wsL_law_r26 ++ (wsL_law_r27 ++ (wsL_law_r28 ++ (wsL_law_r29 ++ wsL_law_r30))))))))))))))))))))))))))))) ++ wsX50 ++ wsX60 ++ wsX00 ++ wsX40 ++ wsX10 ++ wsX20 ++ wsX30 ++ ([] : List Cond)
theorem inlX0 : ∀ w ∈ wsX00, w ∈ wsL_law := fun _ h => List.mem_append_left _ (List.mem_append_left _ (List.mem_append_left _ (List.mem_append_left _ (List.mem_append_left _ (List.mem_append_right _ h)))))
theorem inlX1 : ∀ w ∈ wsX10, w ∈ wsL_law := fun _ h => List.mem_append_left _ (List.mem_append_left _ (List.mem_append_left _ (List.mem_append_right _ h)))
theorem inlX2 : ∀ w ∈ wsX20, w ∈ wsL_law := fun _ h => List.mem_append_left _ (List.mem_append_left _ (List.mem_append_right _ h))
theorem inlX3 : ∀ w ∈ wsX30, w ∈ wsL_law := fun _ h => List.mem_append_left _ (List.mem_append_right _ h)
theorem inlX4 : ∀ w ∈ wsX40, w ∈ wsL_law := fun _ h => List.mem_append_left _ (List.mem_append_left _ (List.mem_append_left _ (List.mem_append_left _ (List.mem_append_right _ h))))
theorem inlX5 : ∀ w ∈ wsX50, w ∈ wsL_law := fun _ h => List.mem_append_left _ (List.mem_append_left _ (List.mem_append_left _ (List.mem_append_left _ (List.mem_append_left _ (List.mem_append_left _ (List.mem_append_left _ (List.mem_append_right _ h)))))))
theorem inlX6 : ∀ w ∈ wsX60, w ∈ wsL_law := fun _ h => List.mem_append_left _ (List.mem_append_left _ (List.mem_append_left _ (List.mem_append_left _ (List.mem_append_left _ (List.mem_append_left _ (List.mem_append_right _ h))))))
theorem inJ9 : ∀ w ∈ wsJ90, w ∈ lw_tbl := by decide +kernel
theorem inJ7 : ∀ w ∈ wsJ70, w ∈ lw_tbl := by decide +kernel
abbrev vwCl : List vw_C := [(RX0, TX0, 9), (RX1, TX1, 6), (RX2, TX2, 4), (RX3, TX3, 6), (RX4, TX4, 3), (RX5, TX5, 4), (RX6, TX6, 23)]
end
section
set_option maxRecDepth 20000 in
theorem ggX0_init_X4_init : GoodIn wsX0_init wsX4_init := goodIn_r _ [27, 28, 2, 3, 23, 29, 30, 31, 57, 58, 59] (by decide +kernel) (by decide +kernel)
set_option maxRecDepth 20000 in
theorem gX0_init_X4_init_n11 : GoodIn wsX0_init (wsX4_init) := ggX0_init_X4_init
set_option maxRecDepth 20000 in
theorem ggX0_init_X1_init : GoodIn wsX0_init wsX1_init := goodIn_r _ [33, 34, 2, 3, 23, 35, 36, 37, 38, 39, 40, 69, 70, 71, 72, 73, 74] (by decide +kernel) (by decide +kernel)
set_option maxRecDepth 20000 in
theorem gX0_init_X1_init_n20 : GoodIn wsX0_init (wsX1_init) := ggX0_init_X1_init
set_option maxRecDepth 20000 in
theorem ggX0_init_X2_init : GoodIn wsX0_init wsX2_init := goodIn_r _ [42, 43, 2, 3, 23, 44, 45, 46, 47, 75, 76, 77, 78] (by decide +kernel) (by decide +kernel)
set_option maxRecDepth 20000 in
theorem gX0_init_X2_init_n27 : GoodIn wsX0_init (wsX2_init) := ggX0_init_X2_init
set_option maxRecDepth 20000 in
theorem ggX0_init_X3_init : GoodIn wsX0_init wsX3_init := goodIn_r _ [49, 50, 2, 3, 23, 51, 52, 53, 54, 55, 56, 79, 80, 81, 82, 83, 84] (by decide +kernel) (by decide +kernel)
set_option maxRecDepth 20000 in
theorem gX0_init_X3_init_n37 : GoodIn wsX0_init (wsX3_init) := ggX0_init_X3_init
theorem dX0_init_0 : decode cX0_init 0 = .ok (.aload_n 0, 1) := by decide +kernel
theorem dX0_init_1 : decode cX0_init 1 = .ok (.invokespecial 3, 3) := by decide +kernel
theorem dX0_init_4 : decode cX0_init 4 = .ok (.aload_n 0, 1) := by decide +kernel
theorem dX0_init_5 : decode cX0_init 5 = .ok (.new 9, 3) := by decide +kernel
theorem dX0_init_8 : decode cX0_init 8 = .ok (.dup, 1) := by decide +kernel
theorem dX0_init_9 : decode cX0_init 9 = .ok (.invokespecial 11, 3) := by decide +kernel
theorem dX0_init_12 : decode cX0_init 12 = .ok (.putfield 12, 3) := by decide +kernel
theorem dX0_init_15 : decode cX0_init 15 = .ok (.aload_n 0, 1) := by decide +kernel
theorem dX0_init_16 : decode cX0_init 16 = .ok (.new 18, 3) := by decide +kernel
theorem dX0_init_19 : decode cX0_init 19 = .ok (.dup, 1) := by decide +kernel
theorem dX0_init_20 : decode cX0_init 20 = .ok (.invokespecial 20, 3) := by decide +kernel
theorem dX0_init_23 : decode cX0_init 23 = .ok (.putfield 21, 3) := by decide +kernel
theorem dX0_init_26 : decode cX0_init 26 = .ok (.aload_n 0, 1) := by decide +kernel
theorem dX0_init_27 : decode cX0_init 27 = .ok (.new 25, 3) := by decide +kernel
theorem dX0_init_30 : decode cX0_init 30 = .ok (.dup, 1) := by decide +kernel
theorem dX0_init_31 : decode cX0_init 31 = .ok (.invokespecial 27, 3) := by decide +kernel
theorem dX0_init_34 : decode cX0_init 34 = .ok (.putfield 28, 3) := by decide +kernel
theorem dX0_init_37 : decode cX0_init 37 = .ok (.aload_n 0, 1) := by decide +kernel
theorem dX0_init_38 : decode cX0_init 38 = .ok (.new 25, 3) := by decide +kernel
theorem dX0_init_41 : decode cX0_init 41 = .ok (.dup, 1) := by decide +kernel
theorem dX0_init_42 : decode cX0_init 42 = .ok (.invokespecial 27, 3) := by decide +kernel
theorem dX0_init_45 : decode cX0_init 45 = .ok (.putfield 32, 3) := by decide +kernel
theorem dX0_init_48 : decode cX0_init 48 = .ok (.aload_n 0, 1) := by decide +kernel
theorem dX0_init_49 : decode cX0_init 49 = .ok (.new 35, 3) := by decide +kernel
theorem dX0_init_52 : decode cX0_init 52 = .ok (.dup, 1) := by decide +kernel
theorem dX0_init_53 : decode cX0_init 53 = .ok (.invokespecial 37, 3) := by decide +kernel
theorem dX0_init_56 : decode cX0_init 56 = .ok (.putfield 38, 3) := by decide +kernel
theorem dX0_init_59 : decode cX0_init 59 = .ok (.aload_n 0, 1) := by decide +kernel
theorem dX0_init_60 : decode cX0_init 60 = .ok (.new 35, 3) := by decide +kernel
theorem dX0_init_63 : decode cX0_init 63 = .ok (.dup, 1) := by decide +kernel
theorem dX0_init_64 : decode cX0_init 64 = .ok (.invokespecial 37, 3) := by decide +kernel
theorem dX0_init_67 : decode cX0_init 67 = .ok (.putfield 42, 3) := by decide +kernel
theorem dX0_init_70 : decode cX0_init 70 = .ok (.aload_n 0, 1) := by decide +kernel
theorem dX0_init_71 : decode cX0_init 71 = .ok (.new 35, 3) := by decide +kernel
theorem dX0_init_74 : decode cX0_init 74 = .ok (.dup, 1) := by decide +kernel
theorem dX0_init_75 : decode cX0_init 75 = .ok (.invokespecial 37, 3) := by decide +kernel
theorem dX0_init_78 : decode cX0_init 78 = .ok (.putfield 45, 3) := by decide +kernel
theorem dX0_init_81 : decode cX0_init 81 = .ok (.aload_n 0, 1) := by decide +kernel
theorem dX0_init_82 : decode cX0_init 82 = .ok (.bipush 40, 2) := by decide +kernel
theorem dX0_init_84 : decode cX0_init 84 = .ok (.newarray .int, 2) := by decide +kernel
theorem dX0_init_86 : decode cX0_init 86 = .ok (.putfield 48, 3) := by decide +kernel
theorem dX0_init_89 : decode cX0_init 89 = .ok (.aload_n 0, 1) := by decide +kernel
theorem dX0_init_90 : decode cX0_init 90 = .ok (.iconst (-1), 1) := by decide +kernel
theorem dX0_init_91 : decode cX0_init 91 = .ok (.putfield 52, 3) := by decide +kernel
theorem dX0_init_94 : decode cX0_init 94 = .ok (.return_, 1) := by decide +kernel
theorem dX0_wrong_0 : decode cX0_wrong 0 = .ok (.aload_n 0, 1) := by decide +kernel
theorem dX0_wrong_1 : decode cX0_wrong 1 = .ok (.getfield 52, 3) := by decide +kernel
theorem dX0_wrong_4 : decode cX0_wrong 4 = .ok (.ireturn, 1) := by decide +kernel
set_option maxRecDepth 20000 in
theorem ggX0_survey_X1_gatherLabels : GoodIn wsX0_survey wsX1_gatherLabels := goodIn_r _ [8, 9, 10, 11, 12, 13, 14, 15, 16, 17, 18, 19, 20, 21, 22, 23, 24, 25, 26, 7, 27, 28, 29, 30, 31, 32, 33, 34, 35, 241, 242, 243, 244, 245, 246, 247, 248, 249] (by decide +kernel) (by decide +kernel)
set_option maxRecDepth 20000 in
theorem gX0_survey_X1_gatherLabels : GoodIn wsX0_survey (wsV RX0 56 RX1 yX1_gatherLabels wsX1_gatherLabels) := goodIn_app (goodIn_of _ (by decide +kernel)) ggX0_survey_X1_gatherLabels
set_option maxRecDepth 20000 in
theorem ggX0_survey_X1_findEnds : GoodIn wsX0_survey wsX1_findEnds := goodIn_r _ [39, 40, 41, 9, 11, 42, 43, 44, 45, 12, 13, 14, 15, 16, 17, 18, 19, 20, 21, 22, 23, 46, 47, 48, 7, 49, 28, 29, 30, 31, 32, 33, 34, 35, 50, 51, 52, 53, 54, 55, 56, 57, 58, 59, 60, 61, 62, 63, 64, 65, 66, 67, 68, 69, 70, 71, 72, 73, 74, 241, 242, 243, 244, 245, 246, 247, 248, 249] (by decide +kernel) (by decide +kernel)
set_option maxRecDepth 20000 in
theorem gX0_survey_X1_findEnds : GoodIn wsX0_survey (wsV RX0 60 RX1 yX1_findEnds wsX1_findEnds) := goodIn_app (goodIn_of _ (by decide +kernel)) ggX0_survey_X1_findEnds
set_option maxRecDepth 20000 in
theorem ggX0_survey_X0_groupPieces : GoodIn wsX0_survey wsX0_groupPieces := goodIn_r _ [79, 80, 2, 1, 81, 82, 83, 15, 84, 17, 85, 86, 87, 88, 89, 90, 91, 92, 93, 94, 95, 96, 97, 98, 7, 99, 9, 100, 101, 102, 103, 40, 32, 33, 34, 35, 104, 105, 106, 107, 41, 108, 109, 110, 111, 112, 113, 114, 115, 116, 117, 118, 119, 120, 121, 122, 123, 124, 125, 126, 127, 128, 129, 130, 131, 132, 232, 233, 234, 235, 236, 237, 238, 239, 240, 247, 248, 249, 250, 251, 252, 253, 241, 242, 243, 244, 245, 246] (by decide +kernel) (by decide +kernel)
set_option maxRecDepth 20000 in
theorem gX0_survey_X0_groupPieces : GoodIn wsX0_survey (wsV RX0 63 RX0 yX0_groupPieces wsX0_groupPieces) := goodIn_app (goodIn_of _ (by decide +kernel)) ggX0_survey_X0_groupPieces
set_option maxRecDepth 20000 in
theorem ggX0_survey_X0_traceFaces : GoodIn wsX0_survey wsX0_traceFaces := goodIn_r _ [136, 137, 1, 96, 97, 98, 7, 99, 9, 138, 139, 140, 141, 142, 143, 91, 92, 93, 144, 145, 104, 105, 106, 107, 41, 32, 33, 34, 35, 146, 147, 15, 148, 149, 150, 151, 152, 153, 154, 155, 156, 74, 157, 101, 102, 103, 40, 158, 159, 160, 161, 162, 163, 164, 165, 166, 100, 167, 168, 169, 170, 171, 172, 43, 44, 45, 173, 174, 175, 176, 177, 178, 232, 233, 234, 235, 236, 237, 238, 239, 240, 241, 242, 243, 244, 245, 246, 254, 255, 256, 257, 258, 259] (by decide +kernel) (by decide +kernel)
set_option maxRecDepth 20000 in
theorem gX0_survey_X0_traceFaces : GoodIn wsX0_survey (wsV RX0 66 RX0 yX0_traceFaces wsX0_traceFaces) := goodIn_app (goodIn_of _ (by decide +kernel)) ggX0_survey_X0_traceFaces
set_option maxRecDepth 20000 in
theorem ggX0_survey_X0_leastCrossingOnNoSphere : GoodIn wsX0_survey wsX0_leastCrossingOnNoSphere := goodIn_r _ [182, 2, 80, 81, 82, 83, 15, 84, 17, 183, 116, 117, 88, 118, 95, 119, 120, 121, 122, 94, 184, 130, 131, 132, 128, 185, 186, 187, 78, 188, 137, 189, 190, 191, 141, 192, 145, 193, 194, 195, 196, 177, 197, 198, 199, 200, 201, 202, 203, 204, 1, 104, 105, 106, 7, 107, 41, 32, 33, 34, 35, 9, 232, 233, 234, 235, 236, 237, 238, 239, 240, 247, 248, 249, 250, 251, 252, 253, 254, 255, 256, 257, 258, 259, 241, 242, 243, 244, 245, 246] (by decide +kernel) (by decide +kernel)
set_option maxRecDepth 20000 in
theorem gX0_survey_X0_leastCrossingOnNoSphere : GoodIn wsX0_survey (wsV RX0 69 RX0 yX0_leastCrossingOnNoSphere wsX0_leastCrossingOnNoSphere) := goodIn_app (goodIn_of _ (by decide +kernel)) ggX0_survey_X0_leastCrossingOnNoSphere
set_option maxRecDepth 20000 in
theorem ggX0_survey_X0_traceStrands : GoodIn wsX0_survey wsX0_traceStrands := goodIn_r _ [208, 209, 1, 210, 2, 96, 97, 98, 7, 99, 9, 138, 139, 140, 141, 142, 143, 91, 92, 93, 144, 145, 104, 105, 106, 107, 41, 32, 33, 34, 35, 211, 212, 15, 213, 214, 154, 155, 156, 74, 158, 159, 160, 161, 162, 163, 164, 165, 166, 215, 216, 217, 218, 219, 220, 221, 54, 55, 56, 57, 58, 59, 60, 61, 62, 63, 64, 65, 66, 67, 68, 69, 17, 167, 168, 169, 170, 171, 172, 43, 44, 45, 173, 174, 175, 176, 177, 178, 232, 233, 234, 235, 236, 237, 238, 239, 240, 241, 242, 243, 244, 245, 246, 254, 255, 256, 257, 258, 259, 247, 248, 249] (by decide +kernel) (by decide +kernel)
set_option maxRecDepth 20000 in
theorem gX0_survey_X0_traceStrands : GoodIn wsX0_survey (wsV RX0 73 RX0 yX0_traceStrands wsX0_traceStrands) := goodIn_app (goodIn_of _ (by decide +kernel)) ggX0_survey_X0_traceStrands
set_option maxRecDepth 20000 in
theorem ggX0_survey_X0_groupArcs : GoodIn wsX0_survey wsX0_groupArcs := goodIn_r _ [225, 226, 1, 209, 96, 97, 98, 7, 99, 9, 85, 86, 87, 88, 89, 90, 91, 92, 93, 94, 95, 104, 105, 106, 107, 41, 32, 33, 34, 35, 227, 220, 15, 221, 228, 229, 230, 141, 231, 162, 163, 164, 165, 166, 144, 108, 109, 110, 111, 112, 113, 114, 115, 116, 117, 118, 119, 120, 121, 122, 123, 124, 125, 126, 127, 128, 129, 130, 131, 132, 232, 233, 234, 235, 236, 237, 238, 239, 240, 241, 242, 243, 244, 245, 246, 250, 251, 252, 253, 254, 255, 256, 257, 258, 259] (by decide +kernel) (by decide +kernel)
set_option maxRecDepth 20000 in
theorem gX0_survey_X0_groupArcs : GoodIn wsX0_survey (wsV RX0 76 RX0 yX0_groupArcs wsX0_groupArcs) := goodIn_app (goodIn_of _ (by decide +kernel)) ggX0_survey_X0_groupArcs
theorem dX0_survey_0 : decode cX0_survey 0 = .ok (.aload_n 0, 1) := by decide +kernel
theorem dX0_survey_1 : decode cX0_survey 1 = .ok (.aload_n 0, 1) := by decide +kernel
theorem dX0_survey_2 : decode cX0_survey 2 = .ok (.getfield 21, 3) := by decide +kernel
theorem dX0_survey_5 : decode cX0_survey 5 = .ok (.aload_n 0, 1) := by decide +kernel
theorem dX0_survey_6 : decode cX0_survey 6 = .ok (.getfield 12, 3) := by decide +kernel
theorem dX0_survey_9 : decode cX0_survey 9 = .ok (.invokevirtual 56, 3) := by decide +kernel
theorem dX0_survey_12 : decode cX0_survey 12 = .ok (.putfield 52, 3) := by decide +kernel
theorem dX0_survey_15 : decode cX0_survey 15 = .ok (.aload_n 0, 1) := by decide +kernel
theorem dX0_survey_16 : decode cX0_survey 16 = .ok (.getfield 52, 3) := by decide +kernel
theorem dX0_survey_19 : decode cX0_survey 19 = .ok (.iconst (-1), 1) := by decide +kernel
theorem dX0_survey_20 : decode cX0_survey 20 = .ok (.if_icmp .eq 5, 3) := by decide +kernel
theorem dX0_survey_23 : decode cX0_survey 23 = .ok (.iconst 1, 1) := by decide +kernel
theorem dX0_survey_24 : decode cX0_survey 24 = .ok (.ireturn, 1) := by decide +kernel
theorem dX0_survey_25 : decode cX0_survey 25 = .ok (.aload_n 0, 1) := by decide +kernel
theorem dX0_survey_26 : decode cX0_survey 26 = .ok (.aload_n 0, 1) := by decide +kernel
theorem dX0_survey_27 : decode cX0_survey 27 = .ok (.getfield 21, 3) := by decide +kernel
theorem dX0_survey_30 : decode cX0_survey 30 = .ok (.aload_n 0, 1) := by decide +kernel
theorem dX0_survey_31 : decode cX0_survey 31 = .ok (.getfield 12, 3) := by decide +kernel
theorem dX0_survey_34 : decode cX0_survey 34 = .ok (.invokevirtual 60, 3) := by decide +kernel
theorem dX0_survey_37 : decode cX0_survey 37 = .ok (.putfield 52, 3) := by decide +kernel
theorem dX0_survey_40 : decode cX0_survey 40 = .ok (.aload_n 0, 1) := by decide +kernel
theorem dX0_survey_41 : decode cX0_survey 41 = .ok (.getfield 52, 3) := by decide +kernel
theorem dX0_survey_44 : decode cX0_survey 44 = .ok (.iconst (-1), 1) := by decide +kernel
theorem dX0_survey_45 : decode cX0_survey 45 = .ok (.if_icmp .eq 5, 3) := by decide +kernel
theorem dX0_survey_48 : decode cX0_survey 48 = .ok (.iconst 2, 1) := by decide +kernel
theorem dX0_survey_49 : decode cX0_survey 49 = .ok (.ireturn, 1) := by decide +kernel
theorem dX0_survey_50 : decode cX0_survey 50 = .ok (.aload_n 0, 1) := by decide +kernel
theorem dX0_survey_51 : decode cX0_survey 51 = .ok (.invokevirtual 63, 3) := by decide +kernel
theorem dX0_survey_54 : decode cX0_survey 54 = .ok (.aload_n 0, 1) := by decide +kernel
theorem dX0_survey_55 : decode cX0_survey 55 = .ok (.invokevirtual 66, 3) := by decide +kernel
theorem dX0_survey_58 : decode cX0_survey 58 = .ok (.aload_n 0, 1) := by decide +kernel
theorem dX0_survey_59 : decode cX0_survey 59 = .ok (.aload_n 0, 1) := by decide +kernel
theorem dX0_survey_60 : decode cX0_survey 60 = .ok (.invokevirtual 69, 3) := by decide +kernel
theorem dX0_survey_63 : decode cX0_survey 63 = .ok (.putfield 52, 3) := by decide +kernel
theorem dX0_survey_66 : decode cX0_survey 66 = .ok (.aload_n 0, 1) := by decide +kernel
theorem dX0_survey_67 : decode cX0_survey 67 = .ok (.getfield 52, 3) := by decide +kernel
theorem dX0_survey_70 : decode cX0_survey 70 = .ok (.iconst (-1), 1) := by decide +kernel
theorem dX0_survey_71 : decode cX0_survey 71 = .ok (.if_icmp .eq 5, 3) := by decide +kernel
theorem dX0_survey_74 : decode cX0_survey 74 = .ok (.iconst 3, 1) := by decide +kernel
theorem dX0_survey_75 : decode cX0_survey 75 = .ok (.ireturn, 1) := by decide +kernel
theorem dX0_survey_76 : decode cX0_survey 76 = .ok (.aload_n 0, 1) := by decide +kernel
theorem dX0_survey_77 : decode cX0_survey 77 = .ok (.invokevirtual 73, 3) := by decide +kernel
theorem dX0_survey_80 : decode cX0_survey 80 = .ok (.aload_n 0, 1) := by decide +kernel
theorem dX0_survey_81 : decode cX0_survey 81 = .ok (.invokevirtual 76, 3) := by decide +kernel
theorem dX0_survey_84 : decode cX0_survey 84 = .ok (.iconst 0, 1) := by decide +kernel
theorem dX0_survey_85 : decode cX0_survey 85 = .ok (.ireturn, 1) := by decide +kernel
set_option maxRecDepth 20000 in
theorem ggX0_groupPieces_X4_crossings : GoodIn wsX0_groupPieces wsX4_crossings := goodIn_r _ [8, 9, 75, 76, 77] (by decide +kernel) (by decide +kernel)
set_option maxRecDepth 20000 in
theorem gX0_groupPieces_X4_crossings : GoodIn wsX0_groupPieces (wsV RX0 79 RX4 yX4_crossings wsX4_crossings) := goodIn_app (goodIn_of _ (by decide +kernel)) ggX0_groupPieces_X4_crossings
set_option maxRecDepth 20000 in
theorem ggX0_groupPieces_X2_begin : GoodIn wsX0_groupPieces wsX2_begin := goodIn_r _ [14, 15, 16, 17, 18, 19, 20, 78, 79, 80, 81] (by decide +kernel) (by decide +kernel)
set_option maxRecDepth 20000 in
theorem gX0_groupPieces_X2_begin : GoodIn wsX0_groupPieces (wsV RX0 82 RX2 yX2_begin wsX2_begin) := goodIn_app (goodIn_of _ (by decide +kernel)) ggX0_groupPieces_X2_begin
set_option maxRecDepth 20000 in
theorem ggX0_groupPieces_X1_count : GoodIn wsX0_groupPieces wsX1_count := goodIn_r _ [25, 26, 82, 83, 84, 85, 86, 87] (by decide +kernel) (by decide +kernel)
set_option maxRecDepth 20000 in
theorem gX0_groupPieces_X1_count : GoodIn wsX0_groupPieces (wsV RX0 86 RX1 yX1_count wsX1_count) := goodIn_app (goodIn_of _ (by decide +kernel)) ggX0_groupPieces_X1_count
set_option maxRecDepth 20000 in
theorem ggX0_groupPieces_X1_from : GoodIn wsX0_groupPieces wsX1_from := goodIn_r _ [30, 31, 32, 33, 34, 24, 35, 26, 82, 83, 84, 85, 86, 87] (by decide +kernel) (by decide +kernel)
set_option maxRecDepth 20000 in
theorem gX0_groupPieces_X1_from : GoodIn wsX0_groupPieces (wsV RX0 89 RX1 yX1_from wsX1_from) := goodIn_app (goodIn_of _ (by decide +kernel)) ggX0_groupPieces_X1_from
set_option maxRecDepth 20000 in
theorem ggX0_groupPieces_X1_to : GoodIn wsX0_groupPieces wsX1_to := goodIn_r _ [39, 40, 32, 33, 34, 24, 35, 26, 82, 83, 84, 85, 86, 87] (by decide +kernel) (by decide +kernel)
set_option maxRecDepth 20000 in
theorem gX0_groupPieces_X1_to : GoodIn wsX0_groupPieces (wsV RX0 93 RX1 yX1_to wsX1_to) := goodIn_app (goodIn_of _ (by decide +kernel)) ggX0_groupPieces_X1_to
set_option maxRecDepth 20000 in
theorem ggX0_groupPieces_X2_join : GoodIn wsX0_groupPieces wsX2_join := goodIn_r _ [44, 15, 16, 17, 18, 45, 46, 47, 19, 20, 48, 49, 50, 13, 51, 52, 53, 54, 55, 78, 79, 80, 81] (by decide +kernel) (by decide +kernel)
set_option maxRecDepth 20000 in
theorem gX0_groupPieces_X2_join : GoodIn wsX0_groupPieces (wsV RX0 96 RX2 yX2_join wsX2_join) := goodIn_app (goodIn_of _ (by decide +kernel)) ggX0_groupPieces_X2_join
set_option maxRecDepth 20000 in
theorem ggX0_groupPieces_X2_numberGroups : GoodIn wsX0_groupPieces wsX2_numberGroups := goodIn_r _ [59, 60, 19, 20, 61, 62, 63, 64, 13, 65, 52, 53, 54, 55, 78, 79, 80, 81] (by decide +kernel) (by decide +kernel)
set_option maxRecDepth 20000 in
theorem gX0_groupPieces_X2_numberGroups : GoodIn wsX0_groupPieces (wsV RX0 100 RX2 yX2_numberGroups wsX2_numberGroups) := goodIn_app (goodIn_of _ (by decide +kernel)) ggX0_groupPieces_X2_numberGroups
theorem dX0_groupPieces_0 : decode cX0_groupPieces 0 = .ok (.aload_n 0, 1) := by decide +kernel
theorem dX0_groupPieces_1 : decode cX0_groupPieces 1 = .ok (.getfield 28, 3) := by decide +kernel
theorem dX0_groupPieces_4 : decode cX0_groupPieces 4 = .ok (.aload_n 0, 1) := by decide +kernel
theorem dX0_groupPieces_5 : decode cX0_groupPieces 5 = .ok (.getfield 12, 3) := by decide +kernel
theorem dX0_groupPieces_8 : decode cX0_groupPieces 8 = .ok (.invokevirtual 79, 3) := by decide +kernel
theorem dX0_groupPieces_11 : decode cX0_groupPieces 11 = .ok (.invokevirtual 82, 3) := by decide +kernel
theorem dX0_groupPieces_14 : decode cX0_groupPieces 14 = .ok (.iconst 0, 1) := by decide +kernel
theorem dX0_groupPieces_15 : decode cX0_groupPieces 15 = .ok (.istore_n 1, 1) := by decide +kernel
theorem dX0_groupPieces_16 : decode cX0_groupPieces 16 = .ok (.iload_n 1, 1) := by decide +kernel
theorem dX0_groupPieces_17 : decode cX0_groupPieces 17 = .ok (.aload_n 0, 1) := by decide +kernel
theorem dX0_groupPieces_18 : decode cX0_groupPieces 18 = .ok (.getfield 21, 3) := by decide +kernel
theorem dX0_groupPieces_21 : decode cX0_groupPieces 21 = .ok (.invokevirtual 86, 3) := by decide +kernel
theorem dX0_groupPieces_24 : decode cX0_groupPieces 24 = .ok (.if_icmp .ge 36, 3) := by decide +kernel
theorem dX0_groupPieces_27 : decode cX0_groupPieces 27 = .ok (.aload_n 0, 1) := by decide +kernel
theorem dX0_groupPieces_28 : decode cX0_groupPieces 28 = .ok (.getfield 28, 3) := by decide +kernel
theorem dX0_groupPieces_31 : decode cX0_groupPieces 31 = .ok (.aload_n 0, 1) := by decide +kernel
theorem dX0_groupPieces_32 : decode cX0_groupPieces 32 = .ok (.getfield 21, 3) := by decide +kernel
theorem dX0_groupPieces_35 : decode cX0_groupPieces 35 = .ok (.iload_n 1, 1) := by decide +kernel
theorem dX0_groupPieces_36 : decode cX0_groupPieces 36 = .ok (.invokevirtual 89, 3) := by decide +kernel
theorem dX0_groupPieces_39 : decode cX0_groupPieces 39 = .ok (.iconst 4, 1) := by decide +kernel
theorem dX0_groupPieces_40 : decode cX0_groupPieces 40 = .ok (.idiv, 1) := by decide +kernel
theorem dX0_groupPieces_41 : decode cX0_groupPieces 41 = .ok (.aload_n 0, 1) := by decide +kernel
theorem dX0_groupPieces_42 : decode cX0_groupPieces 42 = .ok (.getfield 21, 3) := by decide +kernel
theorem dX0_groupPieces_45 : decode cX0_groupPieces 45 = .ok (.iload_n 1, 1) := by decide +kernel
theorem dX0_groupPieces_46 : decode cX0_groupPieces 46 = .ok (.invokevirtual 93, 3) := by decide +kernel
theorem dX0_groupPieces_49 : decode cX0_groupPieces 49 = .ok (.iconst 4, 1) := by decide +kernel
theorem dX0_groupPieces_50 : decode cX0_groupPieces 50 = .ok (.idiv, 1) := by decide +kernel
theorem dX0_groupPieces_51 : decode cX0_groupPieces 51 = .ok (.invokevirtual 96, 3) := by decide +kernel
theorem dX0_groupPieces_54 : decode cX0_groupPieces 54 = .ok (.iinc 1 1, 3) := by decide +kernel
theorem dX0_groupPieces_57 : decode cX0_groupPieces 57 = .ok (.goto (-41), 3) := by decide +kernel
theorem dX0_groupPieces_60 : decode cX0_groupPieces 60 = .ok (.aload_n 0, 1) := by decide +kernel
theorem dX0_groupPieces_61 : decode cX0_groupPieces 61 = .ok (.getfield 28, 3) := by decide +kernel
theorem dX0_groupPieces_64 : decode cX0_groupPieces 64 = .ok (.invokevirtual 100, 3) := by decide +kernel
theorem dX0_groupPieces_67 : decode cX0_groupPieces 67 = .ok (.return_, 1) := by decide +kernel
set_option maxRecDepth 20000 in
theorem ggX0_traceFaces_X1_count : GoodIn wsX0_traceFaces wsX1_count := goodIn_r _ [7, 8, 81, 82, 83, 84, 85, 86] (by decide +kernel) (by decide +kernel)
set_option maxRecDepth 20000 in
theorem gX0_traceFaces_X1_count : GoodIn wsX0_traceFaces (wsV RX0 86 RX1 yX1_count wsX1_count) := goodIn_app (goodIn_of _ (by decide +kernel)) ggX0_traceFaces_X1_count
set_option maxRecDepth 20000 in
theorem ggX0_traceFaces_X3_begin : GoodIn wsX0_traceFaces wsX3_begin := goodIn_r _ [13, 14, 15, 16, 17, 18, 19, 87, 88, 89, 90, 91, 92] (by decide +kernel) (by decide +kernel)
set_option maxRecDepth 20000 in
theorem gX0_traceFaces_X3_begin : GoodIn wsX0_traceFaces (wsV RX0 103 RX3 yX3_begin wsX3_begin) := goodIn_app (goodIn_of _ (by decide +kernel)) ggX0_traceFaces_X3_begin
set_option maxRecDepth 20000 in
theorem ggX0_traceFaces_X1_to : GoodIn wsX0_traceFaces wsX1_to := goodIn_r _ [23, 24, 25, 26, 27, 6, 28, 8, 81, 82, 83, 84, 85, 86] (by decide +kernel) (by decide +kernel)
set_option maxRecDepth 20000 in
theorem gX0_traceFaces_X1_to : GoodIn wsX0_traceFaces (wsV RX0 93 RX1 yX1_to wsX1_to) := goodIn_app (goodIn_of _ (by decide +kernel)) ggX0_traceFaces_X1_to
set_option maxRecDepth 20000 in
theorem ggX0_traceFaces_X4_beside : GoodIn wsX0_traceFaces wsX4_beside := goodIn_r _ [32] (by decide +kernel) (by decide +kernel)
set_option maxRecDepth 20000 in
theorem gX0_traceFaces_X4_beside : GoodIn wsX0_traceFaces (va_wsS RX0 104 yX4_beside wsX4_beside) := goodIn_app (goodIn_of _ (by decide +kernel)) ggX0_traceFaces_X4_beside
set_option maxRecDepth 20000 in
theorem ggX0_traceFaces_X1_dartFrom : GoodIn wsX0_traceFaces wsX1_dartFrom := goodIn_r _ [36, 37, 38, 39, 6, 40, 41, 42, 43, 44, 45, 46, 25, 26, 27, 28, 8, 81, 82, 83, 84, 85, 86] (by decide +kernel) (by decide +kernel)
set_option maxRecDepth 20000 in
theorem gX0_traceFaces_X1_dartFrom : GoodIn wsX0_traceFaces (wsV RX0 107 RX1 yX1_dartFrom wsX1_dartFrom) := goodIn_app (goodIn_of _ (by decide +kernel)) ggX0_traceFaces_X1_dartFrom
set_option maxRecDepth 20000 in
theorem ggX0_traceFaces_X3_link : GoodIn wsX0_traceFaces wsX3_link := goodIn_r _ [50, 51, 52, 53, 54, 12, 55, 18, 87, 88, 89, 90, 91, 92] (by decide +kernel) (by decide +kernel)
set_option maxRecDepth 20000 in
theorem gX0_traceFaces_X3_link : GoodIn wsX0_traceFaces (wsV RX0 110 RX3 yX3_link wsX3_link) := goodIn_app (goodIn_of _ (by decide +kernel)) ggX0_traceFaces_X3_link
set_option maxRecDepth 20000 in
theorem ggX0_traceFaces_X1_from : GoodIn wsX0_traceFaces wsX1_from := goodIn_r _ [45, 46, 25, 26, 27, 6, 28, 8, 81, 82, 83, 84, 85, 86] (by decide +kernel) (by decide +kernel)
set_option maxRecDepth 20000 in
theorem gX0_traceFaces_X1_from : GoodIn wsX0_traceFaces (wsV RX0 89 RX1 yX1_from wsX1_from) := goodIn_app (goodIn_of _ (by decide +kernel)) ggX0_traceFaces_X1_from
set_option maxRecDepth 20000 in
theorem ggX0_traceFaces_X3_trace : GoodIn wsX0_traceFaces wsX3_trace := goodIn_r _ [60, 61, 18, 62, 63, 64, 65, 66, 67, 68, 12, 69, 19, 51, 70, 71, 52, 53, 54, 55, 87, 88, 89, 90, 91, 92] (by decide +kernel) (by decide +kernel)
set_option maxRecDepth 20000 in
theorem gX0_traceFaces_X3_trace : GoodIn wsX0_traceFaces (wsV RX0 113 RX3 yX3_trace wsX3_trace) := goodIn_app (goodIn_of _ (by decide +kernel)) ggX0_traceFaces_X3_trace
theorem dX0_traceFaces_0 : decode cX0_traceFaces 0 = .ok (.aload_n 0, 1) := by decide +kernel
theorem dX0_traceFaces_1 : decode cX0_traceFaces 1 = .ok (.getfield 45, 3) := by decide +kernel
theorem dX0_traceFaces_4 : decode cX0_traceFaces 4 = .ok (.iconst 2, 1) := by decide +kernel
theorem dX0_traceFaces_5 : decode cX0_traceFaces 5 = .ok (.aload_n 0, 1) := by decide +kernel
theorem dX0_traceFaces_6 : decode cX0_traceFaces 6 = .ok (.getfield 21, 3) := by decide +kernel
theorem dX0_traceFaces_9 : decode cX0_traceFaces 9 = .ok (.invokevirtual 86, 3) := by decide +kernel
theorem dX0_traceFaces_12 : decode cX0_traceFaces 12 = .ok (.imul, 1) := by decide +kernel
theorem dX0_traceFaces_13 : decode cX0_traceFaces 13 = .ok (.invokevirtual 103, 3) := by decide +kernel
theorem dX0_traceFaces_16 : decode cX0_traceFaces 16 = .ok (.iconst 0, 1) := by decide +kernel
theorem dX0_traceFaces_17 : decode cX0_traceFaces 17 = .ok (.istore_n 1, 1) := by decide +kernel
theorem dX0_traceFaces_18 : decode cX0_traceFaces 18 = .ok (.iload_n 1, 1) := by decide +kernel
theorem dX0_traceFaces_19 : decode cX0_traceFaces 19 = .ok (.aload_n 0, 1) := by decide +kernel
theorem dX0_traceFaces_20 : decode cX0_traceFaces 20 = .ok (.getfield 21, 3) := by decide +kernel
theorem dX0_traceFaces_23 : decode cX0_traceFaces 23 = .ok (.invokevirtual 86, 3) := by decide +kernel
theorem dX0_traceFaces_26 : decode cX0_traceFaces 26 = .ok (.if_icmp .ge 67, 3) := by decide +kernel
theorem dX0_traceFaces_29 : decode cX0_traceFaces 29 = .ok (.aload_n 0, 1) := by decide +kernel
theorem dX0_traceFaces_30 : decode cX0_traceFaces 30 = .ok (.getfield 45, 3) := by decide +kernel
theorem dX0_traceFaces_33 : decode cX0_traceFaces 33 = .ok (.iconst 2, 1) := by decide +kernel
theorem dX0_traceFaces_34 : decode cX0_traceFaces 34 = .ok (.iload_n 1, 1) := by decide +kernel
theorem dX0_traceFaces_35 : decode cX0_traceFaces 35 = .ok (.imul, 1) := by decide +kernel
theorem dX0_traceFaces_36 : decode cX0_traceFaces 36 = .ok (.aload_n 0, 1) := by decide +kernel
theorem dX0_traceFaces_37 : decode cX0_traceFaces 37 = .ok (.getfield 21, 3) := by decide +kernel
theorem dX0_traceFaces_40 : decode cX0_traceFaces 40 = .ok (.aload_n 0, 1) := by decide +kernel
theorem dX0_traceFaces_41 : decode cX0_traceFaces 41 = .ok (.getfield 21, 3) := by decide +kernel
theorem dX0_traceFaces_44 : decode cX0_traceFaces 44 = .ok (.iload_n 1, 1) := by decide +kernel
theorem dX0_traceFaces_45 : decode cX0_traceFaces 45 = .ok (.invokevirtual 93, 3) := by decide +kernel
theorem dX0_traceFaces_48 : decode cX0_traceFaces 48 = .ok (.invokestatic 104, 3) := by decide +kernel
theorem dX0_traceFaces_51 : decode cX0_traceFaces 51 = .ok (.invokevirtual 107, 3) := by decide +kernel
theorem dX0_traceFaces_54 : decode cX0_traceFaces 54 = .ok (.invokevirtual 110, 3) := by decide +kernel
theorem dX0_traceFaces_57 : decode cX0_traceFaces 57 = .ok (.aload_n 0, 1) := by decide +kernel
theorem dX0_traceFaces_58 : decode cX0_traceFaces 58 = .ok (.getfield 45, 3) := by decide +kernel
theorem dX0_traceFaces_61 : decode cX0_traceFaces 61 = .ok (.iconst 2, 1) := by decide +kernel
theorem dX0_traceFaces_62 : decode cX0_traceFaces 62 = .ok (.iload_n 1, 1) := by decide +kernel
theorem dX0_traceFaces_63 : decode cX0_traceFaces 63 = .ok (.imul, 1) := by decide +kernel
theorem dX0_traceFaces_64 : decode cX0_traceFaces 64 = .ok (.iconst 1, 1) := by decide +kernel
theorem dX0_traceFaces_65 : decode cX0_traceFaces 65 = .ok (.iadd, 1) := by decide +kernel
theorem dX0_traceFaces_66 : decode cX0_traceFaces 66 = .ok (.aload_n 0, 1) := by decide +kernel
theorem dX0_traceFaces_67 : decode cX0_traceFaces 67 = .ok (.getfield 21, 3) := by decide +kernel
theorem dX0_traceFaces_70 : decode cX0_traceFaces 70 = .ok (.aload_n 0, 1) := by decide +kernel
theorem dX0_traceFaces_71 : decode cX0_traceFaces 71 = .ok (.getfield 21, 3) := by decide +kernel
theorem dX0_traceFaces_74 : decode cX0_traceFaces 74 = .ok (.iload_n 1, 1) := by decide +kernel
theorem dX0_traceFaces_75 : decode cX0_traceFaces 75 = .ok (.invokevirtual 89, 3) := by decide +kernel
theorem dX0_traceFaces_78 : decode cX0_traceFaces 78 = .ok (.invokestatic 104, 3) := by decide +kernel
theorem dX0_traceFaces_81 : decode cX0_traceFaces 81 = .ok (.invokevirtual 107, 3) := by decide +kernel
theorem dX0_traceFaces_84 : decode cX0_traceFaces 84 = .ok (.invokevirtual 110, 3) := by decide +kernel
theorem dX0_traceFaces_87 : decode cX0_traceFaces 87 = .ok (.iinc 1 1, 3) := by decide +kernel
theorem dX0_traceFaces_90 : decode cX0_traceFaces 90 = .ok (.goto (-72), 3) := by decide +kernel
theorem dX0_traceFaces_93 : decode cX0_traceFaces 93 = .ok (.aload_n 0, 1) := by decide +kernel
theorem dX0_traceFaces_94 : decode cX0_traceFaces 94 = .ok (.getfield 45, 3) := by decide +kernel
theorem dX0_traceFaces_97 : decode cX0_traceFaces 97 = .ok (.invokevirtual 113, 3) := by decide +kernel
theorem dX0_traceFaces_100 : decode cX0_traceFaces 100 = .ok (.return_, 1) := by decide +kernel
set_option maxRecDepth 20000 in
theorem ggX0_leastCrossingOnNoSphere_X4_crossings : GoodIn wsX0_leastCrossingOnNoSphere wsX4_crossings := goodIn_r _ [7, 8, 71, 72, 73] (by decide +kernel) (by decide +kernel)
set_option maxRecDepth 20000 in
theorem gX0_leastCrossingOnNoSphere_X4_crossings : GoodIn wsX0_leastCrossingOnNoSphere (wsV RX0 79 RX4 yX4_crossings wsX4_crossings) := goodIn_app (goodIn_of _ (by decide +kernel)) ggX0_leastCrossingOnNoSphere_X4_crossings
set_option maxRecDepth 20000 in
theorem ggX0_leastCrossingOnNoSphere_X2_least : GoodIn wsX0_leastCrossingOnNoSphere wsX2_least := goodIn_r _ [13, 14, 15, 16, 17, 12, 18, 19, 74, 75, 76, 77] (by decide +kernel) (by decide +kernel)
set_option maxRecDepth 20000 in
theorem gX0_leastCrossingOnNoSphere_X2_least : GoodIn wsX0_leastCrossingOnNoSphere (wsV RX0 116 RX2 yX2_least wsX2_least) := goodIn_app (goodIn_of _ (by decide +kernel)) ggX0_leastCrossingOnNoSphere_X2_least
set_option maxRecDepth 20000 in
theorem ggX0_leastCrossingOnNoSphere_X2_numberOf : GoodIn wsX0_leastCrossingOnNoSphere wsX2_numberOf := goodIn_r _ [23, 24, 15, 16, 17, 12, 18, 19, 74, 75, 76, 77] (by decide +kernel) (by decide +kernel)
set_option maxRecDepth 20000 in
theorem gX0_leastCrossingOnNoSphere_X2_numberOf : GoodIn wsX0_leastCrossingOnNoSphere (wsV RX0 119 RX2 yX2_numberOf wsX2_numberOf) := goodIn_app (goodIn_of _ (by decide +kernel)) ggX0_leastCrossingOnNoSphere_X2_numberOf
set_option maxRecDepth 20000 in
theorem ggX0_leastCrossingOnNoSphere_X0_facesLessCrossings : GoodIn wsX0_leastCrossingOnNoSphere wsX0_facesLessCrossings := goodIn_r _ [29, 30, 1, 2, 31, 32, 33, 34, 35, 36, 37, 38, 39, 40, 41, 42, 43, 44, 45, 46, 47, 48, 28, 49, 50, 51, 52, 53, 54, 55, 56, 57, 58, 59, 60, 61, 20, 21, 22, 12, 23, 24, 15, 16, 17, 18, 19, 3, 4, 5, 6, 7, 8, 62, 63, 64, 65, 66, 67, 68, 69, 70, 78, 79, 80, 81, 82, 83, 84, 85, 86, 87, 88, 89, 74, 75, 76, 77, 71, 72, 73] (by decide +kernel) (by decide +kernel)
set_option maxRecDepth 20000 in
theorem gX0_leastCrossingOnNoSphere_X0_facesLessCrossings : GoodIn wsX0_leastCrossingOnNoSphere (wsV RX0 122 RX0 yX0_facesLessCrossings wsX0_facesLessCrossings) := goodIn_app (goodIn_of _ (by decide +kernel)) ggX0_leastCrossingOnNoSphere_X0_facesLessCrossings
theorem dX0_leastCrossingOnNoSphere_0 : decode cX0_leastCrossingOnNoSphere 0 = .ok (.iconst 0, 1) := by decide +kernel
theorem dX0_leastCrossingOnNoSphere_1 : decode cX0_leastCrossingOnNoSphere 1 = .ok (.istore_n 1, 1) := by decide +kernel
theorem dX0_leastCrossingOnNoSphere_2 : decode cX0_leastCrossingOnNoSphere 2 = .ok (.iload_n 1, 1) := by decide +kernel
theorem dX0_leastCrossingOnNoSphere_3 : decode cX0_leastCrossingOnNoSphere 3 = .ok (.aload_n 0, 1) := by decide +kernel
theorem dX0_leastCrossingOnNoSphere_4 : decode cX0_leastCrossingOnNoSphere 4 = .ok (.getfield 12, 3) := by decide +kernel
theorem dX0_leastCrossingOnNoSphere_7 : decode cX0_leastCrossingOnNoSphere 7 = .ok (.invokevirtual 79, 3) := by decide +kernel
theorem dX0_leastCrossingOnNoSphere_10 : decode cX0_leastCrossingOnNoSphere 10 = .ok (.if_icmp .ge 39, 3) := by decide +kernel
theorem dX0_leastCrossingOnNoSphere_13 : decode cX0_leastCrossingOnNoSphere 13 = .ok (.aload_n 0, 1) := by decide +kernel
theorem dX0_leastCrossingOnNoSphere_14 : decode cX0_leastCrossingOnNoSphere 14 = .ok (.getfield 28, 3) := by decide +kernel
theorem dX0_leastCrossingOnNoSphere_17 : decode cX0_leastCrossingOnNoSphere 17 = .ok (.iload_n 1, 1) := by decide +kernel
theorem dX0_leastCrossingOnNoSphere_18 : decode cX0_leastCrossingOnNoSphere 18 = .ok (.invokevirtual 116, 3) := by decide +kernel
theorem dX0_leastCrossingOnNoSphere_21 : decode cX0_leastCrossingOnNoSphere 21 = .ok (.iload_n 1, 1) := by decide +kernel
theorem dX0_leastCrossingOnNoSphere_22 : decode cX0_leastCrossingOnNoSphere 22 = .ok (.if_icmp .ne 21, 3) := by decide +kernel
theorem dX0_leastCrossingOnNoSphere_25 : decode cX0_leastCrossingOnNoSphere 25 = .ok (.aload_n 0, 1) := by decide +kernel
theorem dX0_leastCrossingOnNoSphere_26 : decode cX0_leastCrossingOnNoSphere 26 = .ok (.aload_n 0, 1) := by decide +kernel
theorem dX0_leastCrossingOnNoSphere_27 : decode cX0_leastCrossingOnNoSphere 27 = .ok (.getfield 28, 3) := by decide +kernel
theorem dX0_leastCrossingOnNoSphere_30 : decode cX0_leastCrossingOnNoSphere 30 = .ok (.iload_n 1, 1) := by decide +kernel
theorem dX0_leastCrossingOnNoSphere_31 : decode cX0_leastCrossingOnNoSphere 31 = .ok (.invokevirtual 119, 3) := by decide +kernel
theorem dX0_leastCrossingOnNoSphere_34 : decode cX0_leastCrossingOnNoSphere 34 = .ok (.invokevirtual 122, 3) := by decide +kernel
theorem dX0_leastCrossingOnNoSphere_37 : decode cX0_leastCrossingOnNoSphere 37 = .ok (.iconst 2, 1) := by decide +kernel
theorem dX0_leastCrossingOnNoSphere_38 : decode cX0_leastCrossingOnNoSphere 38 = .ok (.if_icmp .eq 5, 3) := by decide +kernel
theorem dX0_leastCrossingOnNoSphere_41 : decode cX0_leastCrossingOnNoSphere 41 = .ok (.iload_n 1, 1) := by decide +kernel
theorem dX0_leastCrossingOnNoSphere_42 : decode cX0_leastCrossingOnNoSphere 42 = .ok (.ireturn, 1) := by decide +kernel
theorem dX0_leastCrossingOnNoSphere_43 : decode cX0_leastCrossingOnNoSphere 43 = .ok (.iinc 1 1, 3) := by decide +kernel
theorem dX0_leastCrossingOnNoSphere_46 : decode cX0_leastCrossingOnNoSphere 46 = .ok (.goto (-44), 3) := by decide +kernel
theorem dX0_leastCrossingOnNoSphere_49 : decode cX0_leastCrossingOnNoSphere 49 = .ok (.iconst (-1), 1) := by decide +kernel
theorem dX0_leastCrossingOnNoSphere_50 : decode cX0_leastCrossingOnNoSphere 50 = .ok (.ireturn, 1) := by decide +kernel
set_option maxRecDepth 20000 in
theorem ggX0_facesLessCrossings_X3_count : GoodIn wsX0_facesLessCrossings wsX3_count := goodIn_r _ [8, 9, 62, 63, 64, 65, 66, 67] (by decide +kernel) (by decide +kernel)
set_option maxRecDepth 20000 in
theorem gX0_facesLessCrossings_X3_count : GoodIn wsX0_facesLessCrossings (wsV RX0 125 RX3 yX3_count wsX3_count) := goodIn_app (goodIn_of _ (by decide +kernel)) ggX0_facesLessCrossings_X3_count
set_option maxRecDepth 20000 in
theorem ggX0_facesLessCrossings_X3_first : GoodIn wsX0_facesLessCrossings wsX3_first := goodIn_r _ [13, 14, 15, 16, 17, 7, 18, 9, 62, 63, 64, 65, 66, 67] (by decide +kernel) (by decide +kernel)
set_option maxRecDepth 20000 in
theorem gX0_facesLessCrossings_X3_first : GoodIn wsX0_facesLessCrossings (wsV RX0 126 RX3 yX3_first wsX3_first) := goodIn_app (goodIn_of _ (by decide +kernel)) ggX0_facesLessCrossings_X3_first
set_option maxRecDepth 20000 in
theorem ggX0_facesLessCrossings_X0_pieceOfEdge : GoodIn wsX0_facesLessCrossings wsX0_pieceOfEdge := goodIn_r _ [23, 3, 24, 25, 26, 27, 28, 29, 30, 31, 32, 33, 34, 35, 36, 37, 38, 39, 40, 41, 42, 43, 44, 45, 46, 53, 54, 55, 56, 57, 58, 59, 60, 61, 68, 69, 70, 71, 72, 73, 74, 75, 76, 77] (by decide +kernel) (by decide +kernel)
set_option maxRecDepth 20000 in
theorem gX0_facesLessCrossings_X0_pieceOfEdge : GoodIn wsX0_facesLessCrossings (wsV RX0 129 RX0 yX0_pieceOfEdge wsX0_pieceOfEdge) := goodIn_app (goodIn_of _ (by decide +kernel)) ggX0_facesLessCrossings_X0_pieceOfEdge
set_option maxRecDepth 20000 in
theorem ggX0_facesLessCrossings_X4_crossings : GoodIn wsX0_facesLessCrossings wsX4_crossings := goodIn_r _ [51, 52, 78, 79, 80] (by decide +kernel) (by decide +kernel)
set_option maxRecDepth 20000 in
theorem gX0_facesLessCrossings_X4_crossings : GoodIn wsX0_facesLessCrossings (wsV RX0 79 RX4 yX4_crossings wsX4_crossings) := goodIn_app (goodIn_of _ (by decide +kernel)) ggX0_facesLessCrossings_X4_crossings
set_option maxRecDepth 20000 in
theorem ggX0_facesLessCrossings_X2_numberOf : GoodIn wsX0_facesLessCrossings wsX2_numberOf := goodIn_r _ [40, 41, 42, 43, 44, 39, 45, 46, 74, 75, 76, 77] (by decide +kernel) (by decide +kernel)
set_option maxRecDepth 20000 in
theorem gX0_facesLessCrossings_X2_numberOf : GoodIn wsX0_facesLessCrossings (wsV RX0 119 RX2 yX2_numberOf wsX2_numberOf) := goodIn_app (goodIn_of _ (by decide +kernel)) ggX0_facesLessCrossings_X2_numberOf
theorem dX0_facesLessCrossings_0 : decode cX0_facesLessCrossings 0 = .ok (.iconst 0, 1) := by decide +kernel
theorem dX0_facesLessCrossings_1 : decode cX0_facesLessCrossings 1 = .ok (.istore_n 2, 1) := by decide +kernel
theorem dX0_facesLessCrossings_2 : decode cX0_facesLessCrossings 2 = .ok (.iconst 0, 1) := by decide +kernel
theorem dX0_facesLessCrossings_3 : decode cX0_facesLessCrossings 3 = .ok (.istore_n 3, 1) := by decide +kernel
theorem dX0_facesLessCrossings_4 : decode cX0_facesLessCrossings 4 = .ok (.iload_n 3, 1) := by decide +kernel
theorem dX0_facesLessCrossings_5 : decode cX0_facesLessCrossings 5 = .ok (.aload_n 0, 1) := by decide +kernel
theorem dX0_facesLessCrossings_6 : decode cX0_facesLessCrossings 6 = .ok (.getfield 45, 3) := by decide +kernel
theorem dX0_facesLessCrossings_9 : decode cX0_facesLessCrossings 9 = .ok (.invokevirtual 125, 3) := by decide +kernel
theorem dX0_facesLessCrossings_12 : decode cX0_facesLessCrossings 12 = .ok (.if_icmp .ge 30, 3) := by decide +kernel
theorem dX0_facesLessCrossings_15 : decode cX0_facesLessCrossings 15 = .ok (.aload_n 0, 1) := by decide +kernel
theorem dX0_facesLessCrossings_16 : decode cX0_facesLessCrossings 16 = .ok (.aload_n 0, 1) := by decide +kernel
theorem dX0_facesLessCrossings_17 : decode cX0_facesLessCrossings 17 = .ok (.getfield 45, 3) := by decide +kernel
theorem dX0_facesLessCrossings_20 : decode cX0_facesLessCrossings 20 = .ok (.iload_n 3, 1) := by decide +kernel
theorem dX0_facesLessCrossings_21 : decode cX0_facesLessCrossings 21 = .ok (.invokevirtual 126, 3) := by decide +kernel
theorem dX0_facesLessCrossings_24 : decode cX0_facesLessCrossings 24 = .ok (.iconst 2, 1) := by decide +kernel
theorem dX0_facesLessCrossings_25 : decode cX0_facesLessCrossings 25 = .ok (.idiv, 1) := by decide +kernel
theorem dX0_facesLessCrossings_26 : decode cX0_facesLessCrossings 26 = .ok (.invokevirtual 129, 3) := by decide +kernel
theorem dX0_facesLessCrossings_29 : decode cX0_facesLessCrossings 29 = .ok (.iload_n 1, 1) := by decide +kernel
theorem dX0_facesLessCrossings_30 : decode cX0_facesLessCrossings 30 = .ok (.if_icmp .ne 6, 3) := by decide +kernel
theorem dX0_facesLessCrossings_33 : decode cX0_facesLessCrossings 33 = .ok (.iinc 2 1, 3) := by decide +kernel
theorem dX0_facesLessCrossings_36 : decode cX0_facesLessCrossings 36 = .ok (.iinc 3 1, 3) := by decide +kernel
theorem dX0_facesLessCrossings_39 : decode cX0_facesLessCrossings 39 = .ok (.goto (-35), 3) := by decide +kernel
theorem dX0_facesLessCrossings_42 : decode cX0_facesLessCrossings 42 = .ok (.iconst 0, 1) := by decide +kernel
theorem dX0_facesLessCrossings_43 : decode cX0_facesLessCrossings 43 = .ok (.istore_n 3, 1) := by decide +kernel
theorem dX0_facesLessCrossings_44 : decode cX0_facesLessCrossings 44 = .ok (.iload_n 3, 1) := by decide +kernel
theorem dX0_facesLessCrossings_45 : decode cX0_facesLessCrossings 45 = .ok (.aload_n 0, 1) := by decide +kernel
theorem dX0_facesLessCrossings_46 : decode cX0_facesLessCrossings 46 = .ok (.getfield 12, 3) := by decide +kernel
theorem dX0_facesLessCrossings_49 : decode cX0_facesLessCrossings 49 = .ok (.invokevirtual 79, 3) := by decide +kernel
theorem dX0_facesLessCrossings_52 : decode cX0_facesLessCrossings 52 = .ok (.if_icmp .ge 24, 3) := by decide +kernel
theorem dX0_facesLessCrossings_55 : decode cX0_facesLessCrossings 55 = .ok (.aload_n 0, 1) := by decide +kernel
theorem dX0_facesLessCrossings_56 : decode cX0_facesLessCrossings 56 = .ok (.getfield 28, 3) := by decide +kernel
theorem dX0_facesLessCrossings_59 : decode cX0_facesLessCrossings 59 = .ok (.iload_n 3, 1) := by decide +kernel
theorem dX0_facesLessCrossings_60 : decode cX0_facesLessCrossings 60 = .ok (.invokevirtual 119, 3) := by decide +kernel
theorem dX0_facesLessCrossings_63 : decode cX0_facesLessCrossings 63 = .ok (.iload_n 1, 1) := by decide +kernel
theorem dX0_facesLessCrossings_64 : decode cX0_facesLessCrossings 64 = .ok (.if_icmp .ne 6, 3) := by decide +kernel
theorem dX0_facesLessCrossings_67 : decode cX0_facesLessCrossings 67 = .ok (.iinc 2 (-1), 3) := by decide +kernel
theorem dX0_facesLessCrossings_70 : decode cX0_facesLessCrossings 70 = .ok (.iinc 3 1, 3) := by decide +kernel
theorem dX0_facesLessCrossings_73 : decode cX0_facesLessCrossings 73 = .ok (.goto (-29), 3) := by decide +kernel
theorem dX0_facesLessCrossings_76 : decode cX0_facesLessCrossings 76 = .ok (.iload_n 2, 1) := by decide +kernel
theorem dX0_facesLessCrossings_77 : decode cX0_facesLessCrossings 77 = .ok (.ireturn, 1) := by decide +kernel
set_option maxRecDepth 20000 in
theorem ggX0_traceStrands_X1_count : GoodIn wsX0_traceStrands wsX1_count := goodIn_r _ [9, 10, 97, 98, 99, 100, 101, 102] (by decide +kernel) (by decide +kernel)
set_option maxRecDepth 20000 in
theorem gX0_traceStrands_X1_count : GoodIn wsX0_traceStrands (wsV RX0 86 RX1 yX1_count wsX1_count) := goodIn_app (goodIn_of _ (by decide +kernel)) ggX0_traceStrands_X1_count
set_option maxRecDepth 20000 in
theorem ggX0_traceStrands_X3_begin : GoodIn wsX0_traceStrands wsX3_begin := goodIn_r _ [15, 16, 17, 18, 19, 20, 21, 103, 104, 105, 106, 107, 108] (by decide +kernel) (by decide +kernel)
set_option maxRecDepth 20000 in
theorem gX0_traceStrands_X3_begin : GoodIn wsX0_traceStrands (wsV RX0 103 RX3 yX3_begin wsX3_begin) := goodIn_app (goodIn_of _ (by decide +kernel)) ggX0_traceStrands_X3_begin
set_option maxRecDepth 20000 in
theorem ggX0_traceStrands_X1_to : GoodIn wsX0_traceStrands wsX1_to := goodIn_r _ [25, 26, 27, 28, 29, 8, 30, 10, 97, 98, 99, 100, 101, 102] (by decide +kernel) (by decide +kernel)
set_option maxRecDepth 20000 in
theorem gX0_traceStrands_X1_to : GoodIn wsX0_traceStrands (wsV RX0 93 RX1 yX1_to wsX1_to) := goodIn_app (goodIn_of _ (by decide +kernel)) ggX0_traceStrands_X1_to
set_option maxRecDepth 20000 in
theorem ggX0_traceStrands_X4_across : GoodIn wsX0_traceStrands wsX4_across := goodIn_r _ [34] (by decide +kernel) (by decide +kernel)
set_option maxRecDepth 20000 in
theorem gX0_traceStrands_X4_across : GoodIn wsX0_traceStrands (va_wsS RX0 132 yX4_across wsX4_across) := goodIn_app (goodIn_of _ (by decide +kernel)) ggX0_traceStrands_X4_across
set_option maxRecDepth 20000 in
theorem ggX0_traceStrands_X1_at : GoodIn wsX0_traceStrands wsX1_at := goodIn_r _ [38, 39, 97, 98, 99, 100, 101, 102] (by decide +kernel) (by decide +kernel)
set_option maxRecDepth 20000 in
theorem gX0_traceStrands_X1_at : GoodIn wsX0_traceStrands (wsV RX0 135 RX1 yX1_at wsX1_at) := goodIn_app (goodIn_of _ (by decide +kernel)) ggX0_traceStrands_X1_at
set_option maxRecDepth 20000 in
theorem ggX0_traceStrands_X3_link : GoodIn wsX0_traceStrands wsX3_link := goodIn_r _ [43, 44, 45, 46, 47, 14, 48, 20, 103, 104, 105, 106, 107, 108] (by decide +kernel) (by decide +kernel)
set_option maxRecDepth 20000 in
theorem gX0_traceStrands_X3_link : GoodIn wsX0_traceStrands (wsV RX0 110 RX3 yX3_link wsX3_link) := goodIn_app (goodIn_of _ (by decide +kernel)) ggX0_traceStrands_X3_link
set_option maxRecDepth 20000 in
theorem ggX0_traceStrands_X4_seifertOut : GoodIn wsX0_traceStrands wsX4_seifertOut := goodIn_r _ [52, 53, 54, 33, 55, 56, 57, 58, 59, 60, 61, 62, 63, 64, 65, 66, 67, 68, 69, 70, 71, 72, 109, 110, 111] (by decide +kernel) (by decide +kernel)
set_option maxRecDepth 20000 in
theorem gX0_traceStrands_X4_seifertOut : GoodIn wsX0_traceStrands (wsV RX0 138 RX4 yX4_seifertOut wsX4_seifertOut) := goodIn_app (goodIn_of _ (by decide +kernel)) ggX0_traceStrands_X4_seifertOut
set_option maxRecDepth 20000 in
theorem ggX0_traceStrands_X3_trace : GoodIn wsX0_traceStrands wsX3_trace := goodIn_r _ [76, 77, 20, 78, 79, 80, 81, 82, 83, 84, 14, 85, 21, 44, 86, 87, 45, 46, 47, 48, 103, 104, 105, 106, 107, 108] (by decide +kernel) (by decide +kernel)
set_option maxRecDepth 20000 in
theorem gX0_traceStrands_X3_trace : GoodIn wsX0_traceStrands (wsV RX0 113 RX3 yX3_trace wsX3_trace) := goodIn_app (goodIn_of _ (by decide +kernel)) ggX0_traceStrands_X3_trace
theorem dX0_traceStrands_0 : decode cX0_traceStrands 0 = .ok (.aload_n 0, 1) := by decide +kernel
theorem dX0_traceStrands_1 : decode cX0_traceStrands 1 = .ok (.getfield 38, 3) := by decide +kernel
theorem dX0_traceStrands_4 : decode cX0_traceStrands 4 = .ok (.aload_n 0, 1) := by decide +kernel
theorem dX0_traceStrands_5 : decode cX0_traceStrands 5 = .ok (.getfield 21, 3) := by decide +kernel
theorem dX0_traceStrands_8 : decode cX0_traceStrands 8 = .ok (.invokevirtual 86, 3) := by decide +kernel
theorem dX0_traceStrands_11 : decode cX0_traceStrands 11 = .ok (.invokevirtual 103, 3) := by decide +kernel
theorem dX0_traceStrands_14 : decode cX0_traceStrands 14 = .ok (.aload_n 0, 1) := by decide +kernel
theorem dX0_traceStrands_15 : decode cX0_traceStrands 15 = .ok (.getfield 42, 3) := by decide +kernel
theorem dX0_traceStrands_18 : decode cX0_traceStrands 18 = .ok (.aload_n 0, 1) := by decide +kernel
theorem dX0_traceStrands_19 : decode cX0_traceStrands 19 = .ok (.getfield 21, 3) := by decide +kernel
theorem dX0_traceStrands_22 : decode cX0_traceStrands 22 = .ok (.invokevirtual 86, 3) := by decide +kernel
theorem dX0_traceStrands_25 : decode cX0_traceStrands 25 = .ok (.invokevirtual 103, 3) := by decide +kernel
theorem dX0_traceStrands_28 : decode cX0_traceStrands 28 = .ok (.iconst 0, 1) := by decide +kernel
theorem dX0_traceStrands_29 : decode cX0_traceStrands 29 = .ok (.istore_n 1, 1) := by decide +kernel
theorem dX0_traceStrands_30 : decode cX0_traceStrands 30 = .ok (.iload_n 1, 1) := by decide +kernel
theorem dX0_traceStrands_31 : decode cX0_traceStrands 31 = .ok (.aload_n 0, 1) := by decide +kernel
theorem dX0_traceStrands_32 : decode cX0_traceStrands 32 = .ok (.getfield 21, 3) := by decide +kernel
theorem dX0_traceStrands_35 : decode cX0_traceStrands 35 = .ok (.invokevirtual 86, 3) := by decide +kernel
theorem dX0_traceStrands_38 : decode cX0_traceStrands 38 = .ok (.if_icmp .ge 65, 3) := by decide +kernel
theorem dX0_traceStrands_41 : decode cX0_traceStrands 41 = .ok (.aload_n 0, 1) := by decide +kernel
theorem dX0_traceStrands_42 : decode cX0_traceStrands 42 = .ok (.getfield 38, 3) := by decide +kernel
theorem dX0_traceStrands_45 : decode cX0_traceStrands 45 = .ok (.iload_n 1, 1) := by decide +kernel
theorem dX0_traceStrands_46 : decode cX0_traceStrands 46 = .ok (.aload_n 0, 1) := by decide +kernel
theorem dX0_traceStrands_47 : decode cX0_traceStrands 47 = .ok (.getfield 21, 3) := by decide +kernel
theorem dX0_traceStrands_50 : decode cX0_traceStrands 50 = .ok (.aload_n 0, 1) := by decide +kernel
theorem dX0_traceStrands_51 : decode cX0_traceStrands 51 = .ok (.getfield 21, 3) := by decide +kernel
theorem dX0_traceStrands_54 : decode cX0_traceStrands 54 = .ok (.iload_n 1, 1) := by decide +kernel
theorem dX0_traceStrands_55 : decode cX0_traceStrands 55 = .ok (.invokevirtual 93, 3) := by decide +kernel
theorem dX0_traceStrands_58 : decode cX0_traceStrands 58 = .ok (.invokestatic 132, 3) := by decide +kernel
theorem dX0_traceStrands_61 : decode cX0_traceStrands 61 = .ok (.invokevirtual 135, 3) := by decide +kernel
theorem dX0_traceStrands_64 : decode cX0_traceStrands 64 = .ok (.invokevirtual 110, 3) := by decide +kernel
theorem dX0_traceStrands_67 : decode cX0_traceStrands 67 = .ok (.aload_n 0, 1) := by decide +kernel
theorem dX0_traceStrands_68 : decode cX0_traceStrands 68 = .ok (.getfield 42, 3) := by decide +kernel
theorem dX0_traceStrands_71 : decode cX0_traceStrands 71 = .ok (.iload_n 1, 1) := by decide +kernel
theorem dX0_traceStrands_72 : decode cX0_traceStrands 72 = .ok (.aload_n 0, 1) := by decide +kernel
theorem dX0_traceStrands_73 : decode cX0_traceStrands 73 = .ok (.getfield 21, 3) := by decide +kernel
theorem dX0_traceStrands_76 : decode cX0_traceStrands 76 = .ok (.aload_n 0, 1) := by decide +kernel
theorem dX0_traceStrands_77 : decode cX0_traceStrands 77 = .ok (.getfield 12, 3) := by decide +kernel
theorem dX0_traceStrands_80 : decode cX0_traceStrands 80 = .ok (.aload_n 0, 1) := by decide +kernel
theorem dX0_traceStrands_81 : decode cX0_traceStrands 81 = .ok (.getfield 21, 3) := by decide +kernel
theorem dX0_traceStrands_84 : decode cX0_traceStrands 84 = .ok (.iload_n 1, 1) := by decide +kernel
theorem dX0_traceStrands_85 : decode cX0_traceStrands 85 = .ok (.invokevirtual 93, 3) := by decide +kernel
theorem dX0_traceStrands_88 : decode cX0_traceStrands 88 = .ok (.invokevirtual 138, 3) := by decide +kernel
theorem dX0_traceStrands_91 : decode cX0_traceStrands 91 = .ok (.invokevirtual 135, 3) := by decide +kernel
theorem dX0_traceStrands_94 : decode cX0_traceStrands 94 = .ok (.invokevirtual 110, 3) := by decide +kernel
theorem dX0_traceStrands_97 : decode cX0_traceStrands 97 = .ok (.iinc 1 1, 3) := by decide +kernel
theorem dX0_traceStrands_100 : decode cX0_traceStrands 100 = .ok (.goto (-70), 3) := by decide +kernel
theorem dX0_traceStrands_103 : decode cX0_traceStrands 103 = .ok (.aload_n 0, 1) := by decide +kernel
theorem dX0_traceStrands_104 : decode cX0_traceStrands 104 = .ok (.getfield 38, 3) := by decide +kernel
theorem dX0_traceStrands_107 : decode cX0_traceStrands 107 = .ok (.invokevirtual 113, 3) := by decide +kernel
theorem dX0_traceStrands_110 : decode cX0_traceStrands 110 = .ok (.aload_n 0, 1) := by decide +kernel
theorem dX0_traceStrands_111 : decode cX0_traceStrands 111 = .ok (.getfield 42, 3) := by decide +kernel
theorem dX0_traceStrands_114 : decode cX0_traceStrands 114 = .ok (.invokevirtual 113, 3) := by decide +kernel
theorem dX0_traceStrands_117 : decode cX0_traceStrands 117 = .ok (.return_, 1) := by decide +kernel
set_option maxRecDepth 20000 in
theorem ggX0_groupArcs_X1_count : GoodIn wsX0_groupArcs wsX1_count := goodIn_r _ [8, 9, 79, 80, 81, 82, 83, 84] (by decide +kernel) (by decide +kernel)
set_option maxRecDepth 20000 in
theorem gX0_groupArcs_X1_count : GoodIn wsX0_groupArcs (wsV RX0 86 RX1 yX1_count wsX1_count) := goodIn_app (goodIn_of _ (by decide +kernel)) ggX0_groupArcs_X1_count
set_option maxRecDepth 20000 in
theorem ggX0_groupArcs_X2_begin : GoodIn wsX0_groupArcs wsX2_begin := goodIn_r _ [14, 15, 16, 17, 18, 19, 20, 85, 86, 87, 88] (by decide +kernel) (by decide +kernel)
set_option maxRecDepth 20000 in
theorem gX0_groupArcs_X2_begin : GoodIn wsX0_groupArcs (wsV RX0 82 RX2 yX2_begin wsX2_begin) := goodIn_app (goodIn_of _ (by decide +kernel)) ggX0_groupArcs_X2_begin
set_option maxRecDepth 20000 in
theorem ggX0_groupArcs_X1_to : GoodIn wsX0_groupArcs wsX1_to := goodIn_r _ [24, 25, 26, 27, 28, 7, 29, 9, 79, 80, 81, 82, 83, 84] (by decide +kernel) (by decide +kernel)
set_option maxRecDepth 20000 in
theorem gX0_groupArcs_X1_to : GoodIn wsX0_groupArcs (wsV RX0 93 RX1 yX1_to wsX1_to) := goodIn_app (goodIn_of _ (by decide +kernel)) ggX0_groupArcs_X1_to
set_option maxRecDepth 20000 in
theorem ggX0_groupArcs_X4_isUpper : GoodIn wsX0_groupArcs wsX4_isUpper := goodIn_r _ [33] (by decide +kernel) (by decide +kernel)
set_option maxRecDepth 20000 in
theorem gX0_groupArcs_X4_isUpper : GoodIn wsX0_groupArcs (va_wsS RX0 141 yX4_isUpper wsX4_isUpper) := goodIn_app (goodIn_of _ (by decide +kernel)) ggX0_groupArcs_X4_isUpper
set_option maxRecDepth 20000 in
theorem ggX0_groupArcs_X3_next : GoodIn wsX0_groupArcs wsX3_next := goodIn_r _ [38, 39, 40, 41, 42, 37, 43, 44, 89, 90, 91, 92, 93, 94] (by decide +kernel) (by decide +kernel)
set_option maxRecDepth 20000 in
theorem gX0_groupArcs_X3_next : GoodIn wsX0_groupArcs (wsV RX0 145 RX3 yX3_next wsX3_next) := goodIn_app (goodIn_of _ (by decide +kernel)) ggX0_groupArcs_X3_next
set_option maxRecDepth 20000 in
theorem ggX0_groupArcs_X2_join : GoodIn wsX0_groupArcs wsX2_join := goodIn_r _ [48, 15, 16, 17, 18, 49, 50, 51, 19, 20, 52, 53, 54, 13, 55, 56, 57, 58, 59, 85, 86, 87, 88] (by decide +kernel) (by decide +kernel)
set_option maxRecDepth 20000 in
theorem gX0_groupArcs_X2_join : GoodIn wsX0_groupArcs (wsV RX0 96 RX2 yX2_join wsX2_join) := goodIn_app (goodIn_of _ (by decide +kernel)) ggX0_groupArcs_X2_join
set_option maxRecDepth 20000 in
theorem ggX0_groupArcs_X2_numberGroups : GoodIn wsX0_groupArcs wsX2_numberGroups := goodIn_r _ [63, 64, 19, 20, 65, 66, 67, 68, 13, 69, 56, 57, 58, 59, 85, 86, 87, 88] (by decide +kernel) (by decide +kernel)
set_option maxRecDepth 20000 in
theorem gX0_groupArcs_X2_numberGroups : GoodIn wsX0_groupArcs (wsV RX0 100 RX2 yX2_numberGroups wsX2_numberGroups) := goodIn_app (goodIn_of _ (by decide +kernel)) ggX0_groupArcs_X2_numberGroups
theorem dX0_groupArcs_0 : decode cX0_groupArcs 0 = .ok (.aload_n 0, 1) := by decide +kernel
theorem dX0_groupArcs_1 : decode cX0_groupArcs 1 = .ok (.getfield 32, 3) := by decide +kernel
theorem dX0_groupArcs_4 : decode cX0_groupArcs 4 = .ok (.aload_n 0, 1) := by decide +kernel
theorem dX0_groupArcs_5 : decode cX0_groupArcs 5 = .ok (.getfield 21, 3) := by decide +kernel
theorem dX0_groupArcs_8 : decode cX0_groupArcs 8 = .ok (.invokevirtual 86, 3) := by decide +kernel
theorem dX0_groupArcs_11 : decode cX0_groupArcs 11 = .ok (.invokevirtual 82, 3) := by decide +kernel
theorem dX0_groupArcs_14 : decode cX0_groupArcs 14 = .ok (.iconst 0, 1) := by decide +kernel
theorem dX0_groupArcs_15 : decode cX0_groupArcs 15 = .ok (.istore_n 1, 1) := by decide +kernel
theorem dX0_groupArcs_16 : decode cX0_groupArcs 16 = .ok (.iload_n 1, 1) := by decide +kernel
theorem dX0_groupArcs_17 : decode cX0_groupArcs 17 = .ok (.aload_n 0, 1) := by decide +kernel
theorem dX0_groupArcs_18 : decode cX0_groupArcs 18 = .ok (.getfield 21, 3) := by decide +kernel
theorem dX0_groupArcs_21 : decode cX0_groupArcs 21 = .ok (.invokevirtual 86, 3) := by decide +kernel
theorem dX0_groupArcs_24 : decode cX0_groupArcs 24 = .ok (.if_icmp .ge 39, 3) := by decide +kernel
theorem dX0_groupArcs_27 : decode cX0_groupArcs 27 = .ok (.aload_n 0, 1) := by decide +kernel
theorem dX0_groupArcs_28 : decode cX0_groupArcs 28 = .ok (.getfield 21, 3) := by decide +kernel
theorem dX0_groupArcs_31 : decode cX0_groupArcs 31 = .ok (.iload_n 1, 1) := by decide +kernel
theorem dX0_groupArcs_32 : decode cX0_groupArcs 32 = .ok (.invokevirtual 93, 3) := by decide +kernel
theorem dX0_groupArcs_35 : decode cX0_groupArcs 35 = .ok (.invokestatic 141, 3) := by decide +kernel
theorem dX0_groupArcs_38 : decode cX0_groupArcs 38 = .ok (.ifCond .eq 19, 3) := by decide +kernel
theorem dX0_groupArcs_41 : decode cX0_groupArcs 41 = .ok (.aload_n 0, 1) := by decide +kernel
theorem dX0_groupArcs_42 : decode cX0_groupArcs 42 = .ok (.getfield 32, 3) := by decide +kernel
theorem dX0_groupArcs_45 : decode cX0_groupArcs 45 = .ok (.iload_n 1, 1) := by decide +kernel
theorem dX0_groupArcs_46 : decode cX0_groupArcs 46 = .ok (.aload_n 0, 1) := by decide +kernel
theorem dX0_groupArcs_47 : decode cX0_groupArcs 47 = .ok (.getfield 38, 3) := by decide +kernel
theorem dX0_groupArcs_50 : decode cX0_groupArcs 50 = .ok (.iload_n 1, 1) := by decide +kernel
theorem dX0_groupArcs_51 : decode cX0_groupArcs 51 = .ok (.invokevirtual 145, 3) := by decide +kernel
theorem dX0_groupArcs_54 : decode cX0_groupArcs 54 = .ok (.invokevirtual 96, 3) := by decide +kernel
theorem dX0_groupArcs_57 : decode cX0_groupArcs 57 = .ok (.iinc 1 1, 3) := by decide +kernel
theorem dX0_groupArcs_60 : decode cX0_groupArcs 60 = .ok (.goto (-44), 3) := by decide +kernel
theorem dX0_groupArcs_63 : decode cX0_groupArcs 63 = .ok (.aload_n 0, 1) := by decide +kernel
theorem dX0_groupArcs_64 : decode cX0_groupArcs 64 = .ok (.getfield 32, 3) := by decide +kernel
theorem dX0_groupArcs_67 : decode cX0_groupArcs 67 = .ok (.invokevirtual 100, 3) := by decide +kernel
theorem dX0_groupArcs_70 : decode cX0_groupArcs 70 = .ok (.return_, 1) := by decide +kernel
set_option maxRecDepth 20000 in
theorem ggX0_pieceOfEdge_X1_to : GoodIn wsX0_pieceOfEdge wsX1_to := goodIn_r _ [7, 8, 9, 10, 11, 6, 12, 13, 34, 35, 36, 37, 38, 39] (by decide +kernel) (by decide +kernel)
set_option maxRecDepth 20000 in
theorem gX0_pieceOfEdge_X1_to : GoodIn wsX0_pieceOfEdge (wsV RX0 93 RX1 yX1_to wsX1_to) := goodIn_app (goodIn_of _ (by decide +kernel)) ggX0_pieceOfEdge_X1_to
set_option maxRecDepth 20000 in
theorem ggX0_pieceOfEdge_X2_numberOf : GoodIn wsX0_pieceOfEdge wsX2_numberOf := goodIn_r _ [18, 19, 20, 21, 22, 17, 23, 24, 40, 41, 42, 43] (by decide +kernel) (by decide +kernel)
set_option maxRecDepth 20000 in
theorem gX0_pieceOfEdge_X2_numberOf : GoodIn wsX0_pieceOfEdge (wsV RX0 119 RX2 yX2_numberOf wsX2_numberOf) := goodIn_app (goodIn_of _ (by decide +kernel)) ggX0_pieceOfEdge_X2_numberOf
theorem dX0_pieceOfEdge_0 : decode cX0_pieceOfEdge 0 = .ok (.aload_n 0, 1) := by decide +kernel
theorem dX0_pieceOfEdge_1 : decode cX0_pieceOfEdge 1 = .ok (.getfield 28, 3) := by decide +kernel
theorem dX0_pieceOfEdge_4 : decode cX0_pieceOfEdge 4 = .ok (.aload_n 0, 1) := by decide +kernel
theorem dX0_pieceOfEdge_5 : decode cX0_pieceOfEdge 5 = .ok (.getfield 21, 3) := by decide +kernel
theorem dX0_pieceOfEdge_8 : decode cX0_pieceOfEdge 8 = .ok (.iload_n 1, 1) := by decide +kernel
theorem dX0_pieceOfEdge_9 : decode cX0_pieceOfEdge 9 = .ok (.invokevirtual 93, 3) := by decide +kernel
theorem dX0_pieceOfEdge_12 : decode cX0_pieceOfEdge 12 = .ok (.iconst 4, 1) := by decide +kernel
theorem dX0_pieceOfEdge_13 : decode cX0_pieceOfEdge 13 = .ok (.idiv, 1) := by decide +kernel
theorem dX0_pieceOfEdge_14 : decode cX0_pieceOfEdge 14 = .ok (.invokevirtual 119, 3) := by decide +kernel
theorem dX0_pieceOfEdge_17 : decode cX0_pieceOfEdge 17 = .ok (.ireturn, 1) := by decide +kernel
set_option maxRecDepth 20000 in
theorem ggX0_pieceOfComponent_X3_first : GoodIn wsX0_pieceOfComponent wsX3_first := goodIn_r _ [6, 7, 8, 9, 10, 5, 11, 12, 51, 52, 53, 54, 55, 56] (by decide +kernel) (by decide +kernel)
set_option maxRecDepth 20000 in
theorem gX0_pieceOfComponent_X3_first : GoodIn wsX0_pieceOfComponent (wsV RX0 126 RX3 yX3_first wsX3_first) := goodIn_app (goodIn_of _ (by decide +kernel)) ggX0_pieceOfComponent_X3_first
set_option maxRecDepth 20000 in
theorem ggX0_pieceOfComponent_X0_pieceOfEdge : GoodIn wsX0_pieceOfComponent wsX0_pieceOfEdge := goodIn_r _ [17, 18, 19, 20, 21, 22, 23, 24, 25, 26, 27, 28, 29, 30, 31, 32, 33, 34, 35, 36, 37, 38, 39, 40, 41, 42, 43, 44, 45, 46, 47, 48, 49, 50, 57, 58, 59, 60, 61, 62, 63, 64, 65, 66] (by decide +kernel) (by decide +kernel)
set_option maxRecDepth 20000 in
theorem gX0_pieceOfComponent_X0_pieceOfEdge : GoodIn wsX0_pieceOfComponent (wsV RX0 129 RX0 yX0_pieceOfEdge wsX0_pieceOfEdge) := goodIn_app (goodIn_of _ (by decide +kernel)) ggX0_pieceOfComponent_X0_pieceOfEdge
theorem dX0_pieceOfComponent_0 : decode cX0_pieceOfComponent 0 = .ok (.aload_n 0, 1) := by decide +kernel
theorem dX0_pieceOfComponent_1 : decode cX0_pieceOfComponent 1 = .ok (.aload_n 0, 1) := by decide +kernel
theorem dX0_pieceOfComponent_2 : decode cX0_pieceOfComponent 2 = .ok (.getfield 38, 3) := by decide +kernel
theorem dX0_pieceOfComponent_5 : decode cX0_pieceOfComponent 5 = .ok (.iload_n 1, 1) := by decide +kernel
theorem dX0_pieceOfComponent_6 : decode cX0_pieceOfComponent 6 = .ok (.invokevirtual 126, 3) := by decide +kernel
theorem dX0_pieceOfComponent_9 : decode cX0_pieceOfComponent 9 = .ok (.invokevirtual 129, 3) := by decide +kernel
theorem dX0_pieceOfComponent_12 : decode cX0_pieceOfComponent 12 = .ok (.ireturn, 1) := by decide +kernel
set_option maxRecDepth 20000 in
theorem ggX0_lowerComponent_X4_lowerIn : GoodIn wsX0_lowerComponent wsX4_lowerIn := goodIn_r _ [6] (by decide +kernel) (by decide +kernel)
set_option maxRecDepth 20000 in
theorem gX0_lowerComponent_X4_lowerIn : GoodIn wsX0_lowerComponent (va_wsS RX0 148 yX4_lowerIn wsX4_lowerIn) := goodIn_app (goodIn_of _ (by decide +kernel)) ggX0_lowerComponent_X4_lowerIn
set_option maxRecDepth 20000 in
theorem ggX0_lowerComponent_X1_at : GoodIn wsX0_lowerComponent wsX1_at := goodIn_r _ [11, 12, 33, 34, 35, 36, 37, 38] (by decide +kernel) (by decide +kernel)
set_option maxRecDepth 20000 in
theorem gX0_lowerComponent_X1_at : GoodIn wsX0_lowerComponent (wsV RX0 135 RX1 yX1_at wsX1_at) := goodIn_app (goodIn_of _ (by decide +kernel)) ggX0_lowerComponent_X1_at
set_option maxRecDepth 20000 in
theorem ggX0_lowerComponent_X3_roundOf : GoodIn wsX0_lowerComponent wsX3_roundOf := goodIn_r _ [17, 18, 19, 20, 21, 16, 22, 23, 39, 40, 41, 42, 43, 44] (by decide +kernel) (by decide +kernel)
set_option maxRecDepth 20000 in
theorem gX0_lowerComponent_X3_roundOf : GoodIn wsX0_lowerComponent (wsV RX0 151 RX3 yX3_roundOf wsX3_roundOf) := goodIn_app (goodIn_of _ (by decide +kernel)) ggX0_lowerComponent_X3_roundOf
theorem dX0_lowerComponent_0 : decode cX0_lowerComponent 0 = .ok (.aload_n 0, 1) := by decide +kernel
theorem dX0_lowerComponent_1 : decode cX0_lowerComponent 1 = .ok (.getfield 38, 3) := by decide +kernel
theorem dX0_lowerComponent_4 : decode cX0_lowerComponent 4 = .ok (.aload_n 0, 1) := by decide +kernel
theorem dX0_lowerComponent_5 : decode cX0_lowerComponent 5 = .ok (.getfield 21, 3) := by decide +kernel
theorem dX0_lowerComponent_8 : decode cX0_lowerComponent 8 = .ok (.iload_n 1, 1) := by decide +kernel
theorem dX0_lowerComponent_9 : decode cX0_lowerComponent 9 = .ok (.invokestatic 148, 3) := by decide +kernel
theorem dX0_lowerComponent_12 : decode cX0_lowerComponent 12 = .ok (.invokevirtual 135, 3) := by decide +kernel
theorem dX0_lowerComponent_15 : decode cX0_lowerComponent 15 = .ok (.invokevirtual 151, 3) := by decide +kernel
theorem dX0_lowerComponent_18 : decode cX0_lowerComponent 18 = .ok (.ireturn, 1) := by decide +kernel
set_option maxRecDepth 20000 in
theorem ggX0_upperComponent_X4_upperIn : GoodIn wsX0_upperComponent wsX4_upperIn := goodIn_r _ [8, 9, 10, 11, 7, 12, 13, 14, 15, 16, 17, 18, 45, 46, 47] (by decide +kernel) (by decide +kernel)
set_option maxRecDepth 20000 in
theorem gX0_upperComponent_X4_upperIn : GoodIn wsX0_upperComponent (wsV RX0 154 RX4 yX4_upperIn wsX4_upperIn) := goodIn_app (goodIn_of _ (by decide +kernel)) ggX0_upperComponent_X4_upperIn
set_option maxRecDepth 20000 in
theorem ggX0_upperComponent_X1_at : GoodIn wsX0_upperComponent wsX1_at := goodIn_r _ [23, 24, 48, 49, 50, 51, 52, 53] (by decide +kernel) (by decide +kernel)
set_option maxRecDepth 20000 in
theorem gX0_upperComponent_X1_at : GoodIn wsX0_upperComponent (wsV RX0 135 RX1 yX1_at wsX1_at) := goodIn_app (goodIn_of _ (by decide +kernel)) ggX0_upperComponent_X1_at
set_option maxRecDepth 20000 in
theorem ggX0_upperComponent_X3_roundOf : GoodIn wsX0_upperComponent wsX3_roundOf := goodIn_r _ [29, 30, 31, 32, 33, 28, 34, 35, 54, 55, 56, 57, 58, 59] (by decide +kernel) (by decide +kernel)
set_option maxRecDepth 20000 in
theorem gX0_upperComponent_X3_roundOf : GoodIn wsX0_upperComponent (wsV RX0 151 RX3 yX3_roundOf wsX3_roundOf) := goodIn_app (goodIn_of _ (by decide +kernel)) ggX0_upperComponent_X3_roundOf
theorem dX0_upperComponent_0 : decode cX0_upperComponent 0 = .ok (.aload_n 0, 1) := by decide +kernel
theorem dX0_upperComponent_1 : decode cX0_upperComponent 1 = .ok (.getfield 38, 3) := by decide +kernel
theorem dX0_upperComponent_4 : decode cX0_upperComponent 4 = .ok (.aload_n 0, 1) := by decide +kernel
theorem dX0_upperComponent_5 : decode cX0_upperComponent 5 = .ok (.getfield 21, 3) := by decide +kernel
theorem dX0_upperComponent_8 : decode cX0_upperComponent 8 = .ok (.aload_n 0, 1) := by decide +kernel
theorem dX0_upperComponent_9 : decode cX0_upperComponent 9 = .ok (.getfield 12, 3) := by decide +kernel
theorem dX0_upperComponent_12 : decode cX0_upperComponent 12 = .ok (.iload_n 1, 1) := by decide +kernel
theorem dX0_upperComponent_13 : decode cX0_upperComponent 13 = .ok (.invokevirtual 154, 3) := by decide +kernel
theorem dX0_upperComponent_16 : decode cX0_upperComponent 16 = .ok (.invokevirtual 135, 3) := by decide +kernel
theorem dX0_upperComponent_19 : decode cX0_upperComponent 19 = .ok (.invokevirtual 151, 3) := by decide +kernel
theorem dX0_upperComponent_22 : decode cX0_upperComponent 22 = .ok (.ireturn, 1) := by decide +kernel
set_option maxRecDepth 20000 in
theorem ggX0_sumOfOwnSigns_X0_sumOfSignsUnder : GoodIn wsX0_sumOfOwnSigns wsX0_sumOfSignsUnder := goodIn_r _ [5, 6, 7, 8, 9, 10, 11, 12, 13, 14, 15, 4, 16, 17, 18, 19, 20, 21, 22, 23, 24, 25, 26, 27, 28, 29, 30, 31, 32, 33, 34, 35, 36, 37, 38, 39, 40, 41, 42, 43, 44, 45, 46, 47, 48, 49, 50, 51, 52, 53, 54, 55, 56, 57, 58, 59, 60, 61, 62, 63, 64, 65, 66, 67, 68, 69, 70, 71, 72, 73, 74, 75, 76, 77, 78, 79, 80] (by decide +kernel) (by decide +kernel)
set_option maxRecDepth 20000 in
theorem gX0_sumOfOwnSigns_X0_sumOfSignsUnder : GoodIn wsX0_sumOfOwnSigns (wsV RX0 157 RX0 yX0_sumOfSignsUnder wsX0_sumOfSignsUnder) := goodIn_app (goodIn_of _ (by decide +kernel)) ggX0_sumOfOwnSigns_X0_sumOfSignsUnder
theorem dX0_sumOfOwnSigns_0 : decode cX0_sumOfOwnSigns 0 = .ok (.aload_n 0, 1) := by decide +kernel
theorem dX0_sumOfOwnSigns_1 : decode cX0_sumOfOwnSigns 1 = .ok (.iload_n 1, 1) := by decide +kernel
theorem dX0_sumOfOwnSigns_2 : decode cX0_sumOfOwnSigns 2 = .ok (.iload_n 1, 1) := by decide +kernel
theorem dX0_sumOfOwnSigns_3 : decode cX0_sumOfOwnSigns 3 = .ok (.invokevirtual 157, 3) := by decide +kernel
theorem dX0_sumOfOwnSigns_6 : decode cX0_sumOfOwnSigns 6 = .ok (.ireturn, 1) := by decide +kernel
set_option maxRecDepth 20000 in
theorem ggX0_linking_X0_sumOfSignsUnder : GoodIn wsX0_linking wsX0_sumOfSignsUnder := goodIn_r _ [5, 6, 7, 8, 9, 10, 11, 12, 13, 14, 15, 4, 16, 17, 18, 19, 20, 21, 22, 23, 24, 25, 26, 27, 28, 29, 30, 31, 32, 33, 34, 35, 36, 37, 38, 39, 40, 41, 42, 43, 44, 45, 46, 47, 48, 49, 50, 51, 52, 53, 54, 55, 56, 57, 58, 59, 60, 61, 62, 63, 64, 65, 66, 67, 68, 69, 70, 71, 72, 73, 74, 75, 76, 77, 78, 79, 80] (by decide +kernel) (by decide +kernel)
set_option maxRecDepth 20000 in
theorem gX0_linking_X0_sumOfSignsUnder : GoodIn wsX0_linking (wsV RX0 157 RX0 yX0_sumOfSignsUnder wsX0_sumOfSignsUnder) := goodIn_app (goodIn_of _ (by decide +kernel)) ggX0_linking_X0_sumOfSignsUnder
theorem dX0_linking_0 : decode cX0_linking 0 = .ok (.iload_n 1, 1) := by decide +kernel
theorem dX0_linking_1 : decode cX0_linking 1 = .ok (.iload_n 2, 1) := by decide +kernel
theorem dX0_linking_2 : decode cX0_linking 2 = .ok (.if_icmp .ne 5, 3) := by decide +kernel
theorem dX0_linking_5 : decode cX0_linking 5 = .ok (.iconst 0, 1) := by decide +kernel
theorem dX0_linking_6 : decode cX0_linking 6 = .ok (.ireturn, 1) := by decide +kernel
theorem dX0_linking_7 : decode cX0_linking 7 = .ok (.aload_n 0, 1) := by decide +kernel
theorem dX0_linking_8 : decode cX0_linking 8 = .ok (.iload_n 1, 1) := by decide +kernel
theorem dX0_linking_9 : decode cX0_linking 9 = .ok (.iload_n 2, 1) := by decide +kernel
theorem dX0_linking_10 : decode cX0_linking 10 = .ok (.invokevirtual 157, 3) := by decide +kernel
theorem dX0_linking_13 : decode cX0_linking 13 = .ok (.aload_n 0, 1) := by decide +kernel
theorem dX0_linking_14 : decode cX0_linking 14 = .ok (.iload_n 2, 1) := by decide +kernel
theorem dX0_linking_15 : decode cX0_linking 15 = .ok (.iload_n 1, 1) := by decide +kernel
theorem dX0_linking_16 : decode cX0_linking 16 = .ok (.invokevirtual 157, 3) := by decide +kernel
theorem dX0_linking_19 : decode cX0_linking 19 = .ok (.iadd, 1) := by decide +kernel
theorem dX0_linking_20 : decode cX0_linking 20 = .ok (.iconst 2, 1) := by decide +kernel
theorem dX0_linking_21 : decode cX0_linking 21 = .ok (.idiv, 1) := by decide +kernel
theorem dX0_linking_22 : decode cX0_linking 22 = .ok (.ireturn, 1) := by decide +kernel
set_option maxRecDepth 20000 in
theorem ggX0_sumOfSignsUnder_X4_crossings : GoodIn wsX0_sumOfSignsUnder wsX4_crossings := goodIn_r _ [6, 7, 62, 63, 64] (by decide +kernel) (by decide +kernel)
set_option maxRecDepth 20000 in
theorem gX0_sumOfSignsUnder_X4_crossings : GoodIn wsX0_sumOfSignsUnder (wsV RX0 79 RX4 yX4_crossings wsX4_crossings) := goodIn_app (goodIn_of _ (by decide +kernel)) ggX0_sumOfSignsUnder_X4_crossings
set_option maxRecDepth 20000 in
theorem ggX0_sumOfSignsUnder_X0_lowerComponent : GoodIn wsX0_sumOfSignsUnder wsX0_lowerComponent := goodIn_r _ [12, 13, 14, 15, 16, 5, 17, 18, 19, 20, 21, 22, 23, 24, 25, 26, 27, 28, 29, 30, 31, 32, 33, 34, 53, 54, 55, 56, 57, 58, 59, 60, 61, 65, 66, 67, 68, 69, 70, 71, 72, 73, 74, 75, 76] (by decide +kernel) (by decide +kernel)
set_option maxRecDepth 20000 in
theorem gX0_sumOfSignsUnder_X0_lowerComponent : GoodIn wsX0_sumOfSignsUnder (wsV RX0 161 RX0 yX0_lowerComponent wsX0_lowerComponent) := goodIn_app (goodIn_of _ (by decide +kernel)) ggX0_sumOfSignsUnder_X0_lowerComponent
set_option maxRecDepth 20000 in
theorem ggX0_sumOfSignsUnder_X0_upperComponent : GoodIn wsX0_sumOfSignsUnder wsX0_upperComponent := goodIn_r _ [38, 13, 14, 1, 39, 40, 41, 5, 42, 43, 44, 45, 46, 47, 48, 49, 50, 51, 7, 18, 19, 20, 21, 22, 23, 24, 25, 26, 27, 28, 29, 30, 31, 32, 33, 34, 53, 54, 55, 56, 57, 58, 59, 60, 61, 62, 63, 64, 65, 66, 67, 68, 69, 70, 71, 72, 73, 74, 75, 76] (by decide +kernel) (by decide +kernel)
set_option maxRecDepth 20000 in
theorem gX0_sumOfSignsUnder_X0_upperComponent : GoodIn wsX0_sumOfSignsUnder (wsV RX0 164 RX0 yX0_upperComponent wsX0_upperComponent) := goodIn_app (goodIn_of _ (by decide +kernel)) ggX0_sumOfSignsUnder_X0_upperComponent
set_option maxRecDepth 20000 in
theorem ggX0_sumOfSignsUnder_X4_sign : GoodIn wsX0_sumOfSignsUnder wsX4_sign := goodIn_r _ [46, 47, 48, 49, 50, 5, 51, 7, 62, 63, 64] (by decide +kernel) (by decide +kernel)
set_option maxRecDepth 20000 in
theorem gX0_sumOfSignsUnder_X4_sign : GoodIn wsX0_sumOfSignsUnder (wsV RX0 167 RX4 yX4_sign wsX4_sign) := goodIn_app (goodIn_of _ (by decide +kernel)) ggX0_sumOfSignsUnder_X4_sign
theorem dX0_sumOfSignsUnder_0 : decode cX0_sumOfSignsUnder 0 = .ok (.iconst 0, 1) := by decide +kernel
theorem dX0_sumOfSignsUnder_1 : decode cX0_sumOfSignsUnder 1 = .ok (.istore_n 3, 1) := by decide +kernel
theorem dX0_sumOfSignsUnder_2 : decode cX0_sumOfSignsUnder 2 = .ok (.iconst 0, 1) := by decide +kernel
theorem dX0_sumOfSignsUnder_3 : decode cX0_sumOfSignsUnder 3 = .ok (.istore 4, 2) := by decide +kernel
theorem dX0_sumOfSignsUnder_5 : decode cX0_sumOfSignsUnder 5 = .ok (.iload 4, 2) := by decide +kernel
theorem dX0_sumOfSignsUnder_7 : decode cX0_sumOfSignsUnder 7 = .ok (.aload_n 0, 1) := by decide +kernel
theorem dX0_sumOfSignsUnder_8 : decode cX0_sumOfSignsUnder 8 = .ok (.getfield 12, 3) := by decide +kernel
theorem dX0_sumOfSignsUnder_11 : decode cX0_sumOfSignsUnder 11 = .ok (.invokevirtual 79, 3) := by decide +kernel
theorem dX0_sumOfSignsUnder_14 : decode cX0_sumOfSignsUnder 14 = .ok (.if_icmp .ge 41, 3) := by decide +kernel
theorem dX0_sumOfSignsUnder_17 : decode cX0_sumOfSignsUnder 17 = .ok (.aload_n 0, 1) := by decide +kernel
theorem dX0_sumOfSignsUnder_18 : decode cX0_sumOfSignsUnder 18 = .ok (.iload 4, 2) := by decide +kernel
theorem dX0_sumOfSignsUnder_20 : decode cX0_sumOfSignsUnder 20 = .ok (.invokevirtual 161, 3) := by decide +kernel
theorem dX0_sumOfSignsUnder_23 : decode cX0_sumOfSignsUnder 23 = .ok (.iload_n 1, 1) := by decide +kernel
theorem dX0_sumOfSignsUnder_24 : decode cX0_sumOfSignsUnder 24 = .ok (.if_icmp .ne 25, 3) := by decide +kernel
theorem dX0_sumOfSignsUnder_27 : decode cX0_sumOfSignsUnder 27 = .ok (.aload_n 0, 1) := by decide +kernel
theorem dX0_sumOfSignsUnder_28 : decode cX0_sumOfSignsUnder 28 = .ok (.iload 4, 2) := by decide +kernel
theorem dX0_sumOfSignsUnder_30 : decode cX0_sumOfSignsUnder 30 = .ok (.invokevirtual 164, 3) := by decide +kernel
theorem dX0_sumOfSignsUnder_33 : decode cX0_sumOfSignsUnder 33 = .ok (.iload_n 2, 1) := by decide +kernel
theorem dX0_sumOfSignsUnder_34 : decode cX0_sumOfSignsUnder 34 = .ok (.if_icmp .ne 15, 3) := by decide +kernel
theorem dX0_sumOfSignsUnder_37 : decode cX0_sumOfSignsUnder 37 = .ok (.iload_n 3, 1) := by decide +kernel
theorem dX0_sumOfSignsUnder_38 : decode cX0_sumOfSignsUnder 38 = .ok (.aload_n 0, 1) := by decide +kernel
theorem dX0_sumOfSignsUnder_39 : decode cX0_sumOfSignsUnder 39 = .ok (.getfield 12, 3) := by decide +kernel
theorem dX0_sumOfSignsUnder_42 : decode cX0_sumOfSignsUnder 42 = .ok (.iload 4, 2) := by decide +kernel
theorem dX0_sumOfSignsUnder_44 : decode cX0_sumOfSignsUnder 44 = .ok (.invokevirtual 167, 3) := by decide +kernel
theorem dX0_sumOfSignsUnder_47 : decode cX0_sumOfSignsUnder 47 = .ok (.iadd, 1) := by decide +kernel
theorem dX0_sumOfSignsUnder_48 : decode cX0_sumOfSignsUnder 48 = .ok (.istore_n 3, 1) := by decide +kernel
theorem dX0_sumOfSignsUnder_49 : decode cX0_sumOfSignsUnder 49 = .ok (.iinc 4 1, 3) := by decide +kernel
theorem dX0_sumOfSignsUnder_52 : decode cX0_sumOfSignsUnder 52 = .ok (.goto (-47), 3) := by decide +kernel
theorem dX0_sumOfSignsUnder_55 : decode cX0_sumOfSignsUnder 55 = .ok (.iload_n 3, 1) := by decide +kernel
theorem dX0_sumOfSignsUnder_56 : decode cX0_sumOfSignsUnder 56 = .ok (.ireturn, 1) := by decide +kernel
set_option maxRecDepth 20000 in
theorem ggX0_turnComponent_X4_crossings : GoodIn wsX0_turnComponent wsX4_crossings := goodIn_r _ [6, 7, 74, 75, 76] (by decide +kernel) (by decide +kernel)
set_option maxRecDepth 20000 in
theorem gX0_turnComponent_X4_crossings : GoodIn wsX0_turnComponent (wsV RX0 79 RX4 yX4_crossings wsX4_crossings) := goodIn_app (goodIn_of _ (by decide +kernel)) ggX0_turnComponent_X4_crossings
set_option maxRecDepth 20000 in
theorem ggX0_turnComponent_X0_lowerComponent : GoodIn wsX0_turnComponent wsX0_lowerComponent := goodIn_r _ [12, 13, 14, 15, 16, 5, 17, 18, 19, 20, 21, 22, 23, 24, 25, 26, 27, 28, 29, 30, 31, 32, 33, 34, 65, 66, 67, 68, 69, 70, 71, 72, 73, 77, 78, 79, 80, 81, 82, 83, 84, 85, 86, 87, 88] (by decide +kernel) (by decide +kernel)
set_option maxRecDepth 20000 in
theorem gX0_turnComponent_X0_lowerComponent : GoodIn wsX0_turnComponent (wsV RX0 161 RX0 yX0_lowerComponent wsX0_lowerComponent) := goodIn_app (goodIn_of _ (by decide +kernel)) ggX0_turnComponent_X0_lowerComponent
set_option maxRecDepth 20000 in
theorem ggX0_turnComponent_X0_upperComponent : GoodIn wsX0_turnComponent wsX0_upperComponent := goodIn_r _ [38, 13, 14, 1, 39, 40, 41, 5, 42, 43, 44, 45, 46, 47, 48, 49, 50, 51, 7, 18, 19, 20, 21, 22, 23, 24, 25, 26, 27, 28, 29, 30, 31, 32, 33, 34, 65, 66, 67, 68, 69, 70, 71, 72, 73, 74, 75, 76, 77, 78, 79, 80, 81, 82, 83, 84, 85, 86, 87, 88] (by decide +kernel) (by decide +kernel)
set_option maxRecDepth 20000 in
theorem gX0_turnComponent_X0_upperComponent : GoodIn wsX0_turnComponent (wsV RX0 164 RX0 yX0_upperComponent wsX0_upperComponent) := goodIn_app (goodIn_of _ (by decide +kernel)) ggX0_turnComponent_X0_upperComponent
set_option maxRecDepth 20000 in
theorem ggX0_turnComponent_X4_turnStrands : GoodIn wsX0_turnComponent wsX4_turnStrands := goodIn_r _ [55, 56, 57, 58, 5, 59, 60, 48, 49, 50, 51, 7, 61, 62, 63, 64, 47, 74, 75, 76] (by decide +kernel) (by decide +kernel)
set_option maxRecDepth 20000 in
theorem gX0_turnComponent_X4_turnStrands : GoodIn wsX0_turnComponent (wsV RX0 170 RX4 yX4_turnStrands wsX4_turnStrands) := goodIn_app (goodIn_of _ (by decide +kernel)) ggX0_turnComponent_X4_turnStrands
theorem dX0_turnComponent_0 : decode cX0_turnComponent 0 = .ok (.iconst 0, 1) := by decide +kernel
theorem dX0_turnComponent_1 : decode cX0_turnComponent 1 = .ok (.istore_n 2, 1) := by decide +kernel
theorem dX0_turnComponent_2 : decode cX0_turnComponent 2 = .ok (.iload_n 2, 1) := by decide +kernel
theorem dX0_turnComponent_3 : decode cX0_turnComponent 3 = .ok (.aload_n 0, 1) := by decide +kernel
theorem dX0_turnComponent_4 : decode cX0_turnComponent 4 = .ok (.getfield 12, 3) := by decide +kernel
theorem dX0_turnComponent_7 : decode cX0_turnComponent 7 = .ok (.invokevirtual 79, 3) := by decide +kernel
theorem dX0_turnComponent_10 : decode cX0_turnComponent 10 = .ok (.if_icmp .ge 45, 3) := by decide +kernel
theorem dX0_turnComponent_13 : decode cX0_turnComponent 13 = .ok (.aload_n 0, 1) := by decide +kernel
theorem dX0_turnComponent_14 : decode cX0_turnComponent 14 = .ok (.getfield 12, 3) := by decide +kernel
theorem dX0_turnComponent_17 : decode cX0_turnComponent 17 = .ok (.iload_n 2, 1) := by decide +kernel
theorem dX0_turnComponent_18 : decode cX0_turnComponent 18 = .ok (.aload_n 0, 1) := by decide +kernel
theorem dX0_turnComponent_19 : decode cX0_turnComponent 19 = .ok (.iload_n 2, 1) := by decide +kernel
theorem dX0_turnComponent_20 : decode cX0_turnComponent 20 = .ok (.invokevirtual 161, 3) := by decide +kernel
theorem dX0_turnComponent_23 : decode cX0_turnComponent 23 = .ok (.iload_n 1, 1) := by decide +kernel
theorem dX0_turnComponent_24 : decode cX0_turnComponent 24 = .ok (.if_icmp .ne 7, 3) := by decide +kernel
theorem dX0_turnComponent_27 : decode cX0_turnComponent 27 = .ok (.iconst 1, 1) := by decide +kernel
theorem dX0_turnComponent_28 : decode cX0_turnComponent 28 = .ok (.goto 4, 3) := by decide +kernel
theorem dX0_turnComponent_31 : decode cX0_turnComponent 31 = .ok (.iconst 0, 1) := by decide +kernel
theorem dX0_turnComponent_32 : decode cX0_turnComponent 32 = .ok (.aload_n 0, 1) := by decide +kernel
theorem dX0_turnComponent_33 : decode cX0_turnComponent 33 = .ok (.iload_n 2, 1) := by decide +kernel
theorem dX0_turnComponent_34 : decode cX0_turnComponent 34 = .ok (.invokevirtual 164, 3) := by decide +kernel
theorem dX0_turnComponent_37 : decode cX0_turnComponent 37 = .ok (.iload_n 1, 1) := by decide +kernel
theorem dX0_turnComponent_38 : decode cX0_turnComponent 38 = .ok (.if_icmp .ne 7, 3) := by decide +kernel
theorem dX0_turnComponent_41 : decode cX0_turnComponent 41 = .ok (.iconst 1, 1) := by decide +kernel
theorem dX0_turnComponent_42 : decode cX0_turnComponent 42 = .ok (.goto 4, 3) := by decide +kernel
theorem dX0_turnComponent_45 : decode cX0_turnComponent 45 = .ok (.iconst 0, 1) := by decide +kernel
theorem dX0_turnComponent_46 : decode cX0_turnComponent 46 = .ok (.invokevirtual 170, 3) := by decide +kernel
theorem dX0_turnComponent_49 : decode cX0_turnComponent 49 = .ok (.iinc 2 1, 3) := by decide +kernel
theorem dX0_turnComponent_52 : decode cX0_turnComponent 52 = .ok (.goto (-50), 3) := by decide +kernel
theorem dX0_turnComponent_55 : decode cX0_turnComponent 55 = .ok (.return_, 1) := by decide +kernel
set_option maxRecDepth 20000 in
theorem ggX0_labelAnew_X0_chooseNewLabels : GoodIn wsX0_labelAnew wsX0_chooseNewLabels := goodIn_r _ [8, 9, 3, 10, 11, 12, 13, 14, 15, 16, 17, 18, 19, 20, 21, 22, 23, 24, 25, 26, 27, 28, 29, 30, 31, 32, 33, 34, 35, 36, 37, 38, 39, 58, 59, 60, 61, 62, 63, 64, 65, 66, 67, 68, 69, 70, 71, 72] (by decide +kernel) (by decide +kernel)
set_option maxRecDepth 20000 in
theorem gX0_labelAnew_X0_chooseNewLabels : GoodIn wsX0_labelAnew (wsV RX0 174 RX0 yX0_chooseNewLabels wsX0_chooseNewLabels) := goodIn_app (goodIn_of _ (by decide +kernel)) ggX0_labelAnew_X0_chooseNewLabels
set_option maxRecDepth 20000 in
theorem ggX0_labelAnew_X4_spots : GoodIn wsX0_labelAnew wsX4_spots := goodIn_r _ [44, 45, 73, 74, 75] (by decide +kernel) (by decide +kernel)
set_option maxRecDepth 20000 in
theorem gX0_labelAnew_X4_spots : GoodIn wsX0_labelAnew (wsV RX0 177 RX4 yX4_spots wsX4_spots) := goodIn_app (goodIn_of _ (by decide +kernel)) ggX0_labelAnew_X4_spots
set_option maxRecDepth 20000 in
theorem ggX0_labelAnew_X1_at : GoodIn wsX0_labelAnew wsX1_at := goodIn_r _ [50, 51, 76, 77, 78, 79, 80, 81] (by decide +kernel) (by decide +kernel)
set_option maxRecDepth 20000 in
theorem gX0_labelAnew_X1_at : GoodIn wsX0_labelAnew (wsV RX0 135 RX1 yX1_at wsX1_at) := goodIn_app (goodIn_of _ (by decide +kernel)) ggX0_labelAnew_X1_at
set_option maxRecDepth 20000 in
theorem ggX0_labelAnew_X4_setLabel : GoodIn wsX0_labelAnew wsX4_setLabel := goodIn_r _ [55, 56, 57, 41, 42, 43, 44, 45, 73, 74, 75] (by decide +kernel) (by decide +kernel)
set_option maxRecDepth 20000 in
theorem gX0_labelAnew_X4_setLabel : GoodIn wsX0_labelAnew (wsV RX0 180 RX4 yX4_setLabel wsX4_setLabel) := goodIn_app (goodIn_of _ (by decide +kernel)) ggX0_labelAnew_X4_setLabel
theorem dX0_labelAnew_0 : decode cX0_labelAnew 0 = .ok (.aload_n 0, 1) := by decide +kernel
theorem dX0_labelAnew_1 : decode cX0_labelAnew 1 = .ok (.invokevirtual 174, 3) := by decide +kernel
theorem dX0_labelAnew_4 : decode cX0_labelAnew 4 = .ok (.iconst 0, 1) := by decide +kernel
theorem dX0_labelAnew_5 : decode cX0_labelAnew 5 = .ok (.istore_n 1, 1) := by decide +kernel
theorem dX0_labelAnew_6 : decode cX0_labelAnew 6 = .ok (.iload_n 1, 1) := by decide +kernel
theorem dX0_labelAnew_7 : decode cX0_labelAnew 7 = .ok (.aload_n 0, 1) := by decide +kernel
theorem dX0_labelAnew_8 : decode cX0_labelAnew 8 = .ok (.getfield 12, 3) := by decide +kernel
theorem dX0_labelAnew_11 : decode cX0_labelAnew 11 = .ok (.invokevirtual 177, 3) := by decide +kernel
theorem dX0_labelAnew_14 : decode cX0_labelAnew 14 = .ok (.if_icmp .ge 42, 3) := by decide +kernel
theorem dX0_labelAnew_17 : decode cX0_labelAnew 17 = .ok (.aload_n 0, 1) := by decide +kernel
theorem dX0_labelAnew_18 : decode cX0_labelAnew 18 = .ok (.getfield 21, 3) := by decide +kernel
theorem dX0_labelAnew_21 : decode cX0_labelAnew 21 = .ok (.iload_n 1, 1) := by decide +kernel
theorem dX0_labelAnew_22 : decode cX0_labelAnew 22 = .ok (.invokevirtual 135, 3) := by decide +kernel
theorem dX0_labelAnew_25 : decode cX0_labelAnew 25 = .ok (.istore_n 2, 1) := by decide +kernel
theorem dX0_labelAnew_26 : decode cX0_labelAnew 26 = .ok (.iload_n 2, 1) := by decide +kernel
theorem dX0_labelAnew_27 : decode cX0_labelAnew 27 = .ok (.ifCond .lt 23, 3) := by decide +kernel
theorem dX0_labelAnew_30 : decode cX0_labelAnew 30 = .ok (.iload_n 2, 1) := by decide +kernel
theorem dX0_labelAnew_31 : decode cX0_labelAnew 31 = .ok (.bipush 40, 2) := by decide +kernel
theorem dX0_labelAnew_33 : decode cX0_labelAnew 33 = .ok (.if_icmp .ge 17, 3) := by decide +kernel
theorem dX0_labelAnew_36 : decode cX0_labelAnew 36 = .ok (.aload_n 0, 1) := by decide +kernel
theorem dX0_labelAnew_37 : decode cX0_labelAnew 37 = .ok (.getfield 12, 3) := by decide +kernel
theorem dX0_labelAnew_40 : decode cX0_labelAnew 40 = .ok (.iload_n 1, 1) := by decide +kernel
theorem dX0_labelAnew_41 : decode cX0_labelAnew 41 = .ok (.aload_n 0, 1) := by decide +kernel
theorem dX0_labelAnew_42 : decode cX0_labelAnew 42 = .ok (.getfield 48, 3) := by decide +kernel
theorem dX0_labelAnew_45 : decode cX0_labelAnew 45 = .ok (.iload_n 2, 1) := by decide +kernel
theorem dX0_labelAnew_46 : decode cX0_labelAnew 46 = .ok (.iaload, 1) := by decide +kernel
theorem dX0_labelAnew_47 : decode cX0_labelAnew 47 = .ok (.invokevirtual 180, 3) := by decide +kernel
theorem dX0_labelAnew_50 : decode cX0_labelAnew 50 = .ok (.iinc 1 1, 3) := by decide +kernel
theorem dX0_labelAnew_53 : decode cX0_labelAnew 53 = .ok (.goto (-47), 3) := by decide +kernel
theorem dX0_labelAnew_56 : decode cX0_labelAnew 56 = .ok (.return_, 1) := by decide +kernel
set_option maxRecDepth 20000 in
theorem ggX0_chooseNewLabels_X3_count : GoodIn wsX0_chooseNewLabels wsX3_count := goodIn_r _ [7, 8, 42, 43, 44, 45, 46, 47] (by decide +kernel) (by decide +kernel)
set_option maxRecDepth 20000 in
theorem gX0_chooseNewLabels_X3_count : GoodIn wsX0_chooseNewLabels (wsV RX0 125 RX3 yX3_count wsX3_count) := goodIn_app (goodIn_of _ (by decide +kernel)) ggX0_chooseNewLabels_X3_count
set_option maxRecDepth 20000 in
theorem ggX0_chooseNewLabels_X3_first : GoodIn wsX0_chooseNewLabels wsX3_first := goodIn_r _ [12, 13, 14, 15, 16, 6, 17, 8, 42, 43, 44, 45, 46, 47] (by decide +kernel) (by decide +kernel)
set_option maxRecDepth 20000 in
theorem gX0_chooseNewLabels_X3_first : GoodIn wsX0_chooseNewLabels (wsV RX0 126 RX3 yX3_first wsX3_first) := goodIn_app (goodIn_of _ (by decide +kernel)) ggX0_chooseNewLabels_X3_first
set_option maxRecDepth 20000 in
theorem ggX0_chooseNewLabels_X3_size : GoodIn wsX0_chooseNewLabels wsX3_size := goodIn_r _ [21, 22, 14, 15, 16, 6, 17, 8, 42, 43, 44, 45, 46, 47] (by decide +kernel) (by decide +kernel)
set_option maxRecDepth 20000 in
theorem gX0_chooseNewLabels_X3_size : GoodIn wsX0_chooseNewLabels (wsV RX0 183 RX3 yX3_size wsX3_size) := goodIn_app (goodIn_of _ (by decide +kernel)) ggX0_chooseNewLabels_X3_size
set_option maxRecDepth 20000 in
theorem ggX0_chooseNewLabels_X3_next : GoodIn wsX0_chooseNewLabels wsX3_next := goodIn_r _ [26, 27, 28, 29, 30, 6, 31, 32, 42, 43, 44, 45, 46, 47] (by decide +kernel) (by decide +kernel)
set_option maxRecDepth 20000 in
theorem gX0_chooseNewLabels_X3_next : GoodIn wsX0_chooseNewLabels (wsV RX0 145 RX3 yX3_next wsX3_next) := goodIn_app (goodIn_of _ (by decide +kernel)) ggX0_chooseNewLabels_X3_next
theorem dX0_chooseNewLabels_0 : decode cX0_chooseNewLabels 0 = .ok (.iconst 1, 1) := by decide +kernel
theorem dX0_chooseNewLabels_1 : decode cX0_chooseNewLabels 1 = .ok (.istore_n 1, 1) := by decide +kernel
theorem dX0_chooseNewLabels_2 : decode cX0_chooseNewLabels 2 = .ok (.iconst 0, 1) := by decide +kernel
theorem dX0_chooseNewLabels_3 : decode cX0_chooseNewLabels 3 = .ok (.istore_n 2, 1) := by decide +kernel
theorem dX0_chooseNewLabels_4 : decode cX0_chooseNewLabels 4 = .ok (.iload_n 2, 1) := by decide +kernel
theorem dX0_chooseNewLabels_5 : decode cX0_chooseNewLabels 5 = .ok (.aload_n 0, 1) := by decide +kernel
theorem dX0_chooseNewLabels_6 : decode cX0_chooseNewLabels 6 = .ok (.getfield 38, 3) := by decide +kernel
theorem dX0_chooseNewLabels_9 : decode cX0_chooseNewLabels 9 = .ok (.invokevirtual 125, 3) := by decide +kernel
theorem dX0_chooseNewLabels_12 : decode cX0_chooseNewLabels 12 = .ok (.if_icmp .ge 69, 3) := by decide +kernel
theorem dX0_chooseNewLabels_15 : decode cX0_chooseNewLabels 15 = .ok (.aload_n 0, 1) := by decide +kernel
theorem dX0_chooseNewLabels_16 : decode cX0_chooseNewLabels 16 = .ok (.getfield 38, 3) := by decide +kernel
theorem dX0_chooseNewLabels_19 : decode cX0_chooseNewLabels 19 = .ok (.iload_n 2, 1) := by decide +kernel
theorem dX0_chooseNewLabels_20 : decode cX0_chooseNewLabels 20 = .ok (.invokevirtual 126, 3) := by decide +kernel
theorem dX0_chooseNewLabels_23 : decode cX0_chooseNewLabels 23 = .ok (.istore_n 3, 1) := by decide +kernel
theorem dX0_chooseNewLabels_24 : decode cX0_chooseNewLabels 24 = .ok (.iconst 0, 1) := by decide +kernel
theorem dX0_chooseNewLabels_25 : decode cX0_chooseNewLabels 25 = .ok (.istore 4, 2) := by decide +kernel
theorem dX0_chooseNewLabels_27 : decode cX0_chooseNewLabels 27 = .ok (.iload 4, 2) := by decide +kernel
theorem dX0_chooseNewLabels_29 : decode cX0_chooseNewLabels 29 = .ok (.aload_n 0, 1) := by decide +kernel
theorem dX0_chooseNewLabels_30 : decode cX0_chooseNewLabels 30 = .ok (.getfield 38, 3) := by decide +kernel
theorem dX0_chooseNewLabels_33 : decode cX0_chooseNewLabels 33 = .ok (.iload_n 2, 1) := by decide +kernel
theorem dX0_chooseNewLabels_34 : decode cX0_chooseNewLabels 34 = .ok (.invokevirtual 183, 3) := by decide +kernel
theorem dX0_chooseNewLabels_37 : decode cX0_chooseNewLabels 37 = .ok (.if_icmp .ge 38, 3) := by decide +kernel
theorem dX0_chooseNewLabels_40 : decode cX0_chooseNewLabels 40 = .ok (.iload_n 3, 1) := by decide +kernel
theorem dX0_chooseNewLabels_41 : decode cX0_chooseNewLabels 41 = .ok (.ifCond .lt 16, 3) := by decide +kernel
theorem dX0_chooseNewLabels_44 : decode cX0_chooseNewLabels 44 = .ok (.iload_n 3, 1) := by decide +kernel
theorem dX0_chooseNewLabels_45 : decode cX0_chooseNewLabels 45 = .ok (.bipush 40, 2) := by decide +kernel
theorem dX0_chooseNewLabels_47 : decode cX0_chooseNewLabels 47 = .ok (.if_icmp .ge 10, 3) := by decide +kernel
theorem dX0_chooseNewLabels_50 : decode cX0_chooseNewLabels 50 = .ok (.aload_n 0, 1) := by decide +kernel
theorem dX0_chooseNewLabels_51 : decode cX0_chooseNewLabels 51 = .ok (.getfield 48, 3) := by decide +kernel
theorem dX0_chooseNewLabels_54 : decode cX0_chooseNewLabels 54 = .ok (.iload_n 3, 1) := by decide +kernel
theorem dX0_chooseNewLabels_55 : decode cX0_chooseNewLabels 55 = .ok (.iload_n 1, 1) := by decide +kernel
theorem dX0_chooseNewLabels_56 : decode cX0_chooseNewLabels 56 = .ok (.iastore, 1) := by decide +kernel
theorem dX0_chooseNewLabels_57 : decode cX0_chooseNewLabels 57 = .ok (.iinc 1 1, 3) := by decide +kernel
theorem dX0_chooseNewLabels_60 : decode cX0_chooseNewLabels 60 = .ok (.aload_n 0, 1) := by decide +kernel
theorem dX0_chooseNewLabels_61 : decode cX0_chooseNewLabels 61 = .ok (.getfield 38, 3) := by decide +kernel
theorem dX0_chooseNewLabels_64 : decode cX0_chooseNewLabels 64 = .ok (.iload_n 3, 1) := by decide +kernel
theorem dX0_chooseNewLabels_65 : decode cX0_chooseNewLabels 65 = .ok (.invokevirtual 145, 3) := by decide +kernel
theorem dX0_chooseNewLabels_68 : decode cX0_chooseNewLabels 68 = .ok (.istore_n 3, 1) := by decide +kernel
theorem dX0_chooseNewLabels_69 : decode cX0_chooseNewLabels 69 = .ok (.iinc 4 1, 3) := by decide +kernel
theorem dX0_chooseNewLabels_72 : decode cX0_chooseNewLabels 72 = .ok (.goto (-45), 3) := by decide +kernel
theorem dX0_chooseNewLabels_75 : decode cX0_chooseNewLabels 75 = .ok (.iinc 2 1, 3) := by decide +kernel
theorem dX0_chooseNewLabels_78 : decode cX0_chooseNewLabels 78 = .ok (.goto (-74), 3) := by decide +kernel
theorem dX0_chooseNewLabels_81 : decode cX0_chooseNewLabels 81 = .ok (.return_, 1) := by decide +kernel
theorem dX1_init_0 : decode cX1_init 0 = .ok (.aload_n 0, 1) := by decide +kernel
theorem dX1_init_1 : decode cX1_init 1 = .ok (.invokespecial 3, 3) := by decide +kernel
theorem dX1_init_4 : decode cX1_init 4 = .ok (.aload_n 0, 1) := by decide +kernel
theorem dX1_init_5 : decode cX1_init 5 = .ok (.bipush 80, 2) := by decide +kernel
theorem dX1_init_7 : decode cX1_init 7 = .ok (.newarray .int, 2) := by decide +kernel
theorem dX1_init_9 : decode cX1_init 9 = .ok (.putfield 9, 3) := by decide +kernel
theorem dX1_init_12 : decode cX1_init 12 = .ok (.aload_n 0, 1) := by decide +kernel
theorem dX1_init_13 : decode cX1_init 13 = .ok (.bipush 80, 2) := by decide +kernel
theorem dX1_init_15 : decode cX1_init 15 = .ok (.newarray .int, 2) := by decide +kernel
theorem dX1_init_17 : decode cX1_init 17 = .ok (.putfield 15, 3) := by decide +kernel
theorem dX1_init_20 : decode cX1_init 20 = .ok (.aload_n 0, 1) := by decide +kernel
theorem dX1_init_21 : decode cX1_init 21 = .ok (.bipush 80, 2) := by decide +kernel
theorem dX1_init_23 : decode cX1_init 23 = .ok (.newarray .int, 2) := by decide +kernel
theorem dX1_init_25 : decode cX1_init 25 = .ok (.putfield 18, 3) := by decide +kernel
theorem dX1_init_28 : decode cX1_init 28 = .ok (.aload_n 0, 1) := by decide +kernel
theorem dX1_init_29 : decode cX1_init 29 = .ok (.bipush 80, 2) := by decide +kernel
theorem dX1_init_31 : decode cX1_init 31 = .ok (.newarray .int, 2) := by decide +kernel
theorem dX1_init_33 : decode cX1_init 33 = .ok (.putfield 21, 3) := by decide +kernel
theorem dX1_init_36 : decode cX1_init 36 = .ok (.aload_n 0, 1) := by decide +kernel
theorem dX1_init_37 : decode cX1_init 37 = .ok (.bipush 80, 2) := by decide +kernel
theorem dX1_init_39 : decode cX1_init 39 = .ok (.newarray .int, 2) := by decide +kernel
theorem dX1_init_41 : decode cX1_init 41 = .ok (.putfield 24, 3) := by decide +kernel
theorem dX1_init_44 : decode cX1_init 44 = .ok (.aload_n 0, 1) := by decide +kernel
theorem dX1_init_45 : decode cX1_init 45 = .ok (.iconst 0, 1) := by decide +kernel
theorem dX1_init_46 : decode cX1_init 46 = .ok (.putfield 27, 3) := by decide +kernel
theorem dX1_init_49 : decode cX1_init 49 = .ok (.return_, 1) := by decide +kernel
theorem dX1_count_0 : decode cX1_count 0 = .ok (.aload_n 0, 1) := by decide +kernel
theorem dX1_count_1 : decode cX1_count 1 = .ok (.getfield 27, 3) := by decide +kernel
theorem dX1_count_4 : decode cX1_count 4 = .ok (.ireturn, 1) := by decide +kernel
theorem dX1_has_0 : decode cX1_has 0 = .ok (.iload_n 1, 1) := by decide +kernel
theorem dX1_has_1 : decode cX1_has 1 = .ok (.ifCond .lt 15, 3) := by decide +kernel
theorem dX1_has_4 : decode cX1_has 4 = .ok (.iload_n 1, 1) := by decide +kernel
theorem dX1_has_5 : decode cX1_has 5 = .ok (.aload_n 0, 1) := by decide +kernel
theorem dX1_has_6 : decode cX1_has 6 = .ok (.getfield 27, 3) := by decide +kernel
theorem dX1_has_9 : decode cX1_has 9 = .ok (.if_icmp .ge 7, 3) := by decide +kernel
theorem dX1_has_12 : decode cX1_has 12 = .ok (.iconst 1, 1) := by decide +kernel
theorem dX1_has_13 : decode cX1_has 13 = .ok (.goto 4, 3) := by decide +kernel
theorem dX1_has_16 : decode cX1_has 16 = .ok (.iconst 0, 1) := by decide +kernel
theorem dX1_has_17 : decode cX1_has 17 = .ok (.ireturn, 1) := by decide +kernel
set_option maxRecDepth 20000 in
theorem ggX1_label_X1_has : GoodIn wsX1_label wsX1_has := goodIn_r _ [6, 7, 8, 9, 10, 11, 12, 13] (by decide +kernel) (by decide +kernel)
set_option maxRecDepth 20000 in
theorem gX1_label_X1_has : GoodIn wsX1_label (wsV RX1 31 RX1 yX1_has wsX1_has) := goodIn_app (goodIn_of _ (by decide +kernel)) ggX1_label_X1_has
theorem dX1_label_0 : decode cX1_label 0 = .ok (.aload_n 0, 1) := by decide +kernel
theorem dX1_label_1 : decode cX1_label 1 = .ok (.iload_n 1, 1) := by decide +kernel
theorem dX1_label_2 : decode cX1_label 2 = .ok (.invokevirtual 31, 3) := by decide +kernel
theorem dX1_label_5 : decode cX1_label 5 = .ok (.ifCond .eq 12, 3) := by decide +kernel
theorem dX1_label_8 : decode cX1_label 8 = .ok (.aload_n 0, 1) := by decide +kernel
theorem dX1_label_9 : decode cX1_label 9 = .ok (.getfield 9, 3) := by decide +kernel
theorem dX1_label_12 : decode cX1_label 12 = .ok (.iload_n 1, 1) := by decide +kernel
theorem dX1_label_13 : decode cX1_label 13 = .ok (.iaload, 1) := by decide +kernel
theorem dX1_label_14 : decode cX1_label 14 = .ok (.goto 4, 3) := by decide +kernel
theorem dX1_label_17 : decode cX1_label 17 = .ok (.iconst 0, 1) := by decide +kernel
theorem dX1_label_18 : decode cX1_label 18 = .ok (.ireturn, 1) := by decide +kernel
set_option maxRecDepth 20000 in
theorem ggX1_from_X1_has : GoodIn wsX1_from wsX1_has := goodIn_r _ [6, 7, 8, 9, 10, 11, 12, 13] (by decide +kernel) (by decide +kernel)
set_option maxRecDepth 20000 in
theorem gX1_from_X1_has : GoodIn wsX1_from (wsV RX1 31 RX1 yX1_has wsX1_has) := goodIn_app (goodIn_of _ (by decide +kernel)) ggX1_from_X1_has
theorem dX1_from_0 : decode cX1_from 0 = .ok (.aload_n 0, 1) := by decide +kernel
theorem dX1_from_1 : decode cX1_from 1 = .ok (.iload_n 1, 1) := by decide +kernel
theorem dX1_from_2 : decode cX1_from 2 = .ok (.invokevirtual 31, 3) := by decide +kernel
theorem dX1_from_5 : decode cX1_from 5 = .ok (.ifCond .eq 12, 3) := by decide +kernel
theorem dX1_from_8 : decode cX1_from 8 = .ok (.aload_n 0, 1) := by decide +kernel
theorem dX1_from_9 : decode cX1_from 9 = .ok (.getfield 18, 3) := by decide +kernel
theorem dX1_from_12 : decode cX1_from 12 = .ok (.iload_n 1, 1) := by decide +kernel
theorem dX1_from_13 : decode cX1_from 13 = .ok (.iaload, 1) := by decide +kernel
theorem dX1_from_14 : decode cX1_from 14 = .ok (.goto 4, 3) := by decide +kernel
theorem dX1_from_17 : decode cX1_from 17 = .ok (.iconst (-1), 1) := by decide +kernel
theorem dX1_from_18 : decode cX1_from 18 = .ok (.ireturn, 1) := by decide +kernel
set_option maxRecDepth 20000 in
theorem ggX1_to_X1_has : GoodIn wsX1_to wsX1_has := goodIn_r _ [6, 7, 8, 9, 10, 11, 12, 13] (by decide +kernel) (by decide +kernel)
set_option maxRecDepth 20000 in
theorem gX1_to_X1_has : GoodIn wsX1_to (wsV RX1 31 RX1 yX1_has wsX1_has) := goodIn_app (goodIn_of _ (by decide +kernel)) ggX1_to_X1_has
theorem dX1_to_0 : decode cX1_to 0 = .ok (.aload_n 0, 1) := by decide +kernel
theorem dX1_to_1 : decode cX1_to 1 = .ok (.iload_n 1, 1) := by decide +kernel
theorem dX1_to_2 : decode cX1_to 2 = .ok (.invokevirtual 31, 3) := by decide +kernel
theorem dX1_to_5 : decode cX1_to 5 = .ok (.ifCond .eq 12, 3) := by decide +kernel
theorem dX1_to_8 : decode cX1_to 8 = .ok (.aload_n 0, 1) := by decide +kernel
theorem dX1_to_9 : decode cX1_to 9 = .ok (.getfield 21, 3) := by decide +kernel
theorem dX1_to_12 : decode cX1_to 12 = .ok (.iload_n 1, 1) := by decide +kernel
theorem dX1_to_13 : decode cX1_to 13 = .ok (.iaload, 1) := by decide +kernel
theorem dX1_to_14 : decode cX1_to 14 = .ok (.goto 4, 3) := by decide +kernel
theorem dX1_to_17 : decode cX1_to 17 = .ok (.iconst (-1), 1) := by decide +kernel
theorem dX1_to_18 : decode cX1_to 18 = .ok (.ireturn, 1) := by decide +kernel
theorem dX1_at_0 : decode cX1_at 0 = .ok (.iload_n 1, 1) := by decide +kernel
theorem dX1_at_1 : decode cX1_at 1 = .ok (.ifCond .lt 18, 3) := by decide +kernel
theorem dX1_at_4 : decode cX1_at 4 = .ok (.iload_n 1, 1) := by decide +kernel
theorem dX1_at_5 : decode cX1_at 5 = .ok (.bipush 80, 2) := by decide +kernel
theorem dX1_at_7 : decode cX1_at 7 = .ok (.if_icmp .ge 12, 3) := by decide +kernel
theorem dX1_at_10 : decode cX1_at 10 = .ok (.aload_n 0, 1) := by decide +kernel
theorem dX1_at_11 : decode cX1_at 11 = .ok (.getfield 24, 3) := by decide +kernel
theorem dX1_at_14 : decode cX1_at 14 = .ok (.iload_n 1, 1) := by decide +kernel
theorem dX1_at_15 : decode cX1_at 15 = .ok (.iaload, 1) := by decide +kernel
theorem dX1_at_16 : decode cX1_at 16 = .ok (.goto 4, 3) := by decide +kernel
theorem dX1_at_19 : decode cX1_at 19 = .ok (.iconst (-1), 1) := by decide +kernel
theorem dX1_at_20 : decode cX1_at 20 = .ok (.ireturn, 1) := by decide +kernel
set_option maxRecDepth 20000 in
theorem ggX1_dartFrom_X1_at : GoodIn wsX1_dartFrom wsX1_at := goodIn_r _ [5, 6, 17, 18, 19, 20, 21, 22] (by decide +kernel) (by decide +kernel)
set_option maxRecDepth 20000 in
theorem gX1_dartFrom_X1_at : GoodIn wsX1_dartFrom (wsV RX1 35 RX1 yX1_at wsX1_at) := goodIn_app (goodIn_of _ (by decide +kernel)) ggX1_dartFrom_X1_at
set_option maxRecDepth 20000 in
theorem ggX1_dartFrom_X1_from : GoodIn wsX1_dartFrom wsX1_from := goodIn_r _ [10, 11, 12, 13, 14, 4, 15, 16, 17, 18, 19, 20, 21, 22] (by decide +kernel) (by decide +kernel)
set_option maxRecDepth 20000 in
theorem gX1_dartFrom_X1_from : GoodIn wsX1_dartFrom (wsV RX1 39 RX1 yX1_from wsX1_from) := goodIn_app (goodIn_of _ (by decide +kernel)) ggX1_dartFrom_X1_from
theorem dX1_dartFrom_0 : decode cX1_dartFrom 0 = .ok (.aload_n 0, 1) := by decide +kernel
theorem dX1_dartFrom_1 : decode cX1_dartFrom 1 = .ok (.iload_n 1, 1) := by decide +kernel
theorem dX1_dartFrom_2 : decode cX1_dartFrom 2 = .ok (.invokevirtual 35, 3) := by decide +kernel
theorem dX1_dartFrom_5 : decode cX1_dartFrom 5 = .ok (.istore_n 2, 1) := by decide +kernel
theorem dX1_dartFrom_6 : decode cX1_dartFrom 6 = .ok (.aload_n 0, 1) := by decide +kernel
theorem dX1_dartFrom_7 : decode cX1_dartFrom 7 = .ok (.iload_n 2, 1) := by decide +kernel
theorem dX1_dartFrom_8 : decode cX1_dartFrom 8 = .ok (.invokevirtual 39, 3) := by decide +kernel
theorem dX1_dartFrom_11 : decode cX1_dartFrom 11 = .ok (.iload_n 1, 1) := by decide +kernel
theorem dX1_dartFrom_12 : decode cX1_dartFrom 12 = .ok (.if_icmp .ne 9, 3) := by decide +kernel
theorem dX1_dartFrom_15 : decode cX1_dartFrom 15 = .ok (.iconst 2, 1) := by decide +kernel
theorem dX1_dartFrom_16 : decode cX1_dartFrom 16 = .ok (.iload_n 2, 1) := by decide +kernel
theorem dX1_dartFrom_17 : decode cX1_dartFrom 17 = .ok (.imul, 1) := by decide +kernel
theorem dX1_dartFrom_18 : decode cX1_dartFrom 18 = .ok (.goto 8, 3) := by decide +kernel
theorem dX1_dartFrom_21 : decode cX1_dartFrom 21 = .ok (.iconst 2, 1) := by decide +kernel
theorem dX1_dartFrom_22 : decode cX1_dartFrom 22 = .ok (.iload_n 2, 1) := by decide +kernel
theorem dX1_dartFrom_23 : decode cX1_dartFrom 23 = .ok (.imul, 1) := by decide +kernel
theorem dX1_dartFrom_24 : decode cX1_dartFrom 24 = .ok (.iconst 1, 1) := by decide +kernel
theorem dX1_dartFrom_25 : decode cX1_dartFrom 25 = .ok (.iadd, 1) := by decide +kernel
theorem dX1_dartFrom_26 : decode cX1_dartFrom 26 = .ok (.ireturn, 1) := by decide +kernel
set_option maxRecDepth 20000 in
theorem ggX1_gatherLabels_X4_spots : GoodIn wsX1_gatherLabels wsX4_spots := goodIn_r _ [8, 9, 35, 36, 37] (by decide +kernel) (by decide +kernel)
set_option maxRecDepth 20000 in
theorem gX1_gatherLabels_X4_spots : GoodIn wsX1_gatherLabels (wsV RX1 41 RX4 yX4_spots wsX4_spots) := goodIn_app (goodIn_of _ (by decide +kernel)) ggX1_gatherLabels_X4_spots
set_option maxRecDepth 20000 in
theorem ggX1_gatherLabels_X4_label : GoodIn wsX1_gatherLabels wsX4_label := goodIn_r _ [13, 14, 15, 5, 6, 7, 8, 9, 35, 36, 37] (by decide +kernel) (by decide +kernel)
set_option maxRecDepth 20000 in
theorem gX1_gatherLabels_X4_label : GoodIn wsX1_gatherLabels (wsV RX1 47 RX4 yX4_label wsX4_label) := goodIn_app (goodIn_of _ (by decide +kernel)) ggX1_gatherLabels_X4_label
set_option maxRecDepth 20000 in
theorem ggX1_gatherLabels_X1_countLabel : GoodIn wsX1_gatherLabels wsX1_countLabel := goodIn_r _ [20, 3, 2, 1, 21, 22, 23, 19, 24, 25, 26, 27, 28, 29, 30, 31, 32, 33, 34] (by decide +kernel) (by decide +kernel)
set_option maxRecDepth 20000 in
theorem gX1_gatherLabels_X1_countLabel : GoodIn wsX1_gatherLabels (wsV RX1 50 RX1 yX1_countLabel wsX1_countLabel) := goodIn_app (goodIn_of _ (by decide +kernel)) ggX1_gatherLabels_X1_countLabel
theorem dX1_gatherLabels_0 : decode cX1_gatherLabels 0 = .ok (.aload_n 0, 1) := by decide +kernel
theorem dX1_gatherLabels_1 : decode cX1_gatherLabels 1 = .ok (.iconst 0, 1) := by decide +kernel
theorem dX1_gatherLabels_2 : decode cX1_gatherLabels 2 = .ok (.putfield 27, 3) := by decide +kernel
theorem dX1_gatherLabels_5 : decode cX1_gatherLabels 5 = .ok (.iconst 0, 1) := by decide +kernel
theorem dX1_gatherLabels_6 : decode cX1_gatherLabels 6 = .ok (.istore_n 2, 1) := by decide +kernel
theorem dX1_gatherLabels_7 : decode cX1_gatherLabels 7 = .ok (.iload_n 2, 1) := by decide +kernel
theorem dX1_gatherLabels_8 : decode cX1_gatherLabels 8 = .ok (.aload_n 1, 1) := by decide +kernel
theorem dX1_gatherLabels_9 : decode cX1_gatherLabels 9 = .ok (.invokevirtual 41, 3) := by decide +kernel
theorem dX1_gatherLabels_12 : decode cX1_gatherLabels 12 = .ok (.if_icmp .ge 18, 3) := by decide +kernel
theorem dX1_gatherLabels_15 : decode cX1_gatherLabels 15 = .ok (.aload_n 0, 1) := by decide +kernel
theorem dX1_gatherLabels_16 : decode cX1_gatherLabels 16 = .ok (.aload_n 1, 1) := by decide +kernel
theorem dX1_gatherLabels_17 : decode cX1_gatherLabels 17 = .ok (.iload_n 2, 1) := by decide +kernel
theorem dX1_gatherLabels_18 : decode cX1_gatherLabels 18 = .ok (.invokevirtual 47, 3) := by decide +kernel
theorem dX1_gatherLabels_21 : decode cX1_gatherLabels 21 = .ok (.invokevirtual 50, 3) := by decide +kernel
theorem dX1_gatherLabels_24 : decode cX1_gatherLabels 24 = .ok (.iinc 2 1, 3) := by decide +kernel
theorem dX1_gatherLabels_27 : decode cX1_gatherLabels 27 = .ok (.goto (-20), 3) := by decide +kernel
theorem dX1_gatherLabels_30 : decode cX1_gatherLabels 30 = .ok (.iconst 0, 1) := by decide +kernel
theorem dX1_gatherLabels_31 : decode cX1_gatherLabels 31 = .ok (.istore_n 2, 1) := by decide +kernel
theorem dX1_gatherLabels_32 : decode cX1_gatherLabels 32 = .ok (.iload_n 2, 1) := by decide +kernel
theorem dX1_gatherLabels_33 : decode cX1_gatherLabels 33 = .ok (.aload_n 0, 1) := by decide +kernel
theorem dX1_gatherLabels_34 : decode cX1_gatherLabels 34 = .ok (.getfield 27, 3) := by decide +kernel
theorem dX1_gatherLabels_37 : decode cX1_gatherLabels 37 = .ok (.if_icmp .ge 26, 3) := by decide +kernel
theorem dX1_gatherLabels_40 : decode cX1_gatherLabels 40 = .ok (.aload_n 0, 1) := by decide +kernel
theorem dX1_gatherLabels_41 : decode cX1_gatherLabels 41 = .ok (.getfield 15, 3) := by decide +kernel
theorem dX1_gatherLabels_44 : decode cX1_gatherLabels 44 = .ok (.iload_n 2, 1) := by decide +kernel
theorem dX1_gatherLabels_45 : decode cX1_gatherLabels 45 = .ok (.iaload, 1) := by decide +kernel
theorem dX1_gatherLabels_46 : decode cX1_gatherLabels 46 = .ok (.iconst 2, 1) := by decide +kernel
theorem dX1_gatherLabels_47 : decode cX1_gatherLabels 47 = .ok (.if_icmp .eq 10, 3) := by decide +kernel
theorem dX1_gatherLabels_50 : decode cX1_gatherLabels 50 = .ok (.aload_n 0, 1) := by decide +kernel
theorem dX1_gatherLabels_51 : decode cX1_gatherLabels 51 = .ok (.getfield 9, 3) := by decide +kernel
theorem dX1_gatherLabels_54 : decode cX1_gatherLabels 54 = .ok (.iload_n 2, 1) := by decide +kernel
theorem dX1_gatherLabels_55 : decode cX1_gatherLabels 55 = .ok (.iaload, 1) := by decide +kernel
theorem dX1_gatherLabels_56 : decode cX1_gatherLabels 56 = .ok (.ireturn, 1) := by decide +kernel
theorem dX1_gatherLabels_57 : decode cX1_gatherLabels 57 = .ok (.iinc 2 1, 3) := by decide +kernel
theorem dX1_gatherLabels_60 : decode cX1_gatherLabels 60 = .ok (.goto (-28), 3) := by decide +kernel
theorem dX1_gatherLabels_63 : decode cX1_gatherLabels 63 = .ok (.iconst (-1), 1) := by decide +kernel
theorem dX1_gatherLabels_64 : decode cX1_gatherLabels 64 = .ok (.ireturn, 1) := by decide +kernel
set_option maxRecDepth 20000 in
theorem ggX1_countLabel_X1_countLess : GoodIn wsX1_countLabel wsX1_countLess := goodIn_r _ [8, 3, 1, 13, 14, 15, 16, 17, 18] (by decide +kernel) (by decide +kernel)
set_option maxRecDepth 20000 in
theorem gX1_countLabel_X1_countLess : GoodIn wsX1_countLabel (wsV RX1 54 RX1 yX1_countLess wsX1_countLess) := goodIn_app (goodIn_of _ (by decide +kernel)) ggX1_countLabel_X1_countLess
set_option maxRecDepth 20000 in
theorem ggX1_countLabel_X1_has : GoodIn wsX1_countLabel wsX1_has := goodIn_r _ [12, 3, 13, 14, 15, 16, 17, 18] (by decide +kernel) (by decide +kernel)
set_option maxRecDepth 20000 in
theorem gX1_countLabel_X1_has : GoodIn wsX1_countLabel (wsV RX1 31 RX1 yX1_has wsX1_has) := goodIn_app (goodIn_of _ (by decide +kernel)) ggX1_countLabel_X1_has
theorem dX1_countLabel_0 : decode cX1_countLabel 0 = .ok (.aload_n 0, 1) := by decide +kernel
theorem dX1_countLabel_1 : decode cX1_countLabel 1 = .ok (.iload_n 1, 1) := by decide +kernel
theorem dX1_countLabel_2 : decode cX1_countLabel 2 = .ok (.invokevirtual 54, 3) := by decide +kernel
theorem dX1_countLabel_5 : decode cX1_countLabel 5 = .ok (.istore_n 2, 1) := by decide +kernel
theorem dX1_countLabel_6 : decode cX1_countLabel 6 = .ok (.aload_n 0, 1) := by decide +kernel
theorem dX1_countLabel_7 : decode cX1_countLabel 7 = .ok (.iload_n 2, 1) := by decide +kernel
theorem dX1_countLabel_8 : decode cX1_countLabel 8 = .ok (.invokevirtual 31, 3) := by decide +kernel
theorem dX1_countLabel_11 : decode cX1_countLabel 11 = .ok (.ifCond .eq 24, 3) := by decide +kernel
theorem dX1_countLabel_14 : decode cX1_countLabel 14 = .ok (.aload_n 0, 1) := by decide +kernel
theorem dX1_countLabel_15 : decode cX1_countLabel 15 = .ok (.getfield 9, 3) := by decide +kernel
theorem dX1_countLabel_18 : decode cX1_countLabel 18 = .ok (.iload_n 2, 1) := by decide +kernel
theorem dX1_countLabel_19 : decode cX1_countLabel 19 = .ok (.iaload, 1) := by decide +kernel
theorem dX1_countLabel_20 : decode cX1_countLabel 20 = .ok (.iload_n 1, 1) := by decide +kernel
theorem dX1_countLabel_21 : decode cX1_countLabel 21 = .ok (.if_icmp .ne 14, 3) := by decide +kernel
theorem dX1_countLabel_24 : decode cX1_countLabel 24 = .ok (.aload_n 0, 1) := by decide +kernel
theorem dX1_countLabel_25 : decode cX1_countLabel 25 = .ok (.getfield 15, 3) := by decide +kernel
theorem dX1_countLabel_28 : decode cX1_countLabel 28 = .ok (.iload_n 2, 1) := by decide +kernel
theorem dX1_countLabel_29 : decode cX1_countLabel 29 = .ok (.dup2, 1) := by decide +kernel
theorem dX1_countLabel_30 : decode cX1_countLabel 30 = .ok (.iaload, 1) := by decide +kernel
theorem dX1_countLabel_31 : decode cX1_countLabel 31 = .ok (.iconst 1, 1) := by decide +kernel
theorem dX1_countLabel_32 : decode cX1_countLabel 32 = .ok (.iadd, 1) := by decide +kernel
theorem dX1_countLabel_33 : decode cX1_countLabel 33 = .ok (.iastore, 1) := by decide +kernel
theorem dX1_countLabel_34 : decode cX1_countLabel 34 = .ok (.return_, 1) := by decide +kernel
theorem dX1_countLabel_35 : decode cX1_countLabel 35 = .ok (.aload_n 0, 1) := by decide +kernel
theorem dX1_countLabel_36 : decode cX1_countLabel 36 = .ok (.getfield 27, 3) := by decide +kernel
theorem dX1_countLabel_39 : decode cX1_countLabel 39 = .ok (.bipush 80, 2) := by decide +kernel
theorem dX1_countLabel_41 : decode cX1_countLabel 41 = .ok (.if_icmp .lt 4, 3) := by decide +kernel
theorem dX1_countLabel_44 : decode cX1_countLabel 44 = .ok (.return_, 1) := by decide +kernel
theorem dX1_countLabel_45 : decode cX1_countLabel 45 = .ok (.aload_n 0, 1) := by decide +kernel
theorem dX1_countLabel_46 : decode cX1_countLabel 46 = .ok (.getfield 27, 3) := by decide +kernel
theorem dX1_countLabel_49 : decode cX1_countLabel 49 = .ok (.istore_n 3, 1) := by decide +kernel
theorem dX1_countLabel_50 : decode cX1_countLabel 50 = .ok (.iload_n 3, 1) := by decide +kernel
theorem dX1_countLabel_51 : decode cX1_countLabel 51 = .ok (.iload_n 2, 1) := by decide +kernel
theorem dX1_countLabel_52 : decode cX1_countLabel 52 = .ok (.if_icmp .le 37, 3) := by decide +kernel
theorem dX1_countLabel_55 : decode cX1_countLabel 55 = .ok (.aload_n 0, 1) := by decide +kernel
theorem dX1_countLabel_56 : decode cX1_countLabel 56 = .ok (.getfield 9, 3) := by decide +kernel
theorem dX1_countLabel_59 : decode cX1_countLabel 59 = .ok (.iload_n 3, 1) := by decide +kernel
theorem dX1_countLabel_60 : decode cX1_countLabel 60 = .ok (.aload_n 0, 1) := by decide +kernel
theorem dX1_countLabel_61 : decode cX1_countLabel 61 = .ok (.getfield 9, 3) := by decide +kernel
theorem dX1_countLabel_64 : decode cX1_countLabel 64 = .ok (.iload_n 3, 1) := by decide +kernel
theorem dX1_countLabel_65 : decode cX1_countLabel 65 = .ok (.iconst 1, 1) := by decide +kernel
theorem dX1_countLabel_66 : decode cX1_countLabel 66 = .ok (.isub, 1) := by decide +kernel
theorem dX1_countLabel_67 : decode cX1_countLabel 67 = .ok (.iaload, 1) := by decide +kernel
theorem dX1_countLabel_68 : decode cX1_countLabel 68 = .ok (.iastore, 1) := by decide +kernel
theorem dX1_countLabel_69 : decode cX1_countLabel 69 = .ok (.aload_n 0, 1) := by decide +kernel
theorem dX1_countLabel_70 : decode cX1_countLabel 70 = .ok (.getfield 15, 3) := by decide +kernel
theorem dX1_countLabel_73 : decode cX1_countLabel 73 = .ok (.iload_n 3, 1) := by decide +kernel
theorem dX1_countLabel_74 : decode cX1_countLabel 74 = .ok (.aload_n 0, 1) := by decide +kernel
theorem dX1_countLabel_75 : decode cX1_countLabel 75 = .ok (.getfield 15, 3) := by decide +kernel
theorem dX1_countLabel_78 : decode cX1_countLabel 78 = .ok (.iload_n 3, 1) := by decide +kernel
theorem dX1_countLabel_79 : decode cX1_countLabel 79 = .ok (.iconst 1, 1) := by decide +kernel
theorem dX1_countLabel_80 : decode cX1_countLabel 80 = .ok (.isub, 1) := by decide +kernel
theorem dX1_countLabel_81 : decode cX1_countLabel 81 = .ok (.iaload, 1) := by decide +kernel
theorem dX1_countLabel_82 : decode cX1_countLabel 82 = .ok (.iastore, 1) := by decide +kernel
theorem dX1_countLabel_83 : decode cX1_countLabel 83 = .ok (.iinc 3 (-1), 3) := by decide +kernel
theorem dX1_countLabel_86 : decode cX1_countLabel 86 = .ok (.goto (-36), 3) := by decide +kernel
theorem dX1_countLabel_89 : decode cX1_countLabel 89 = .ok (.aload_n 0, 1) := by decide +kernel
theorem dX1_countLabel_90 : decode cX1_countLabel 90 = .ok (.getfield 9, 3) := by decide +kernel
theorem dX1_countLabel_93 : decode cX1_countLabel 93 = .ok (.iload_n 2, 1) := by decide +kernel
theorem dX1_countLabel_94 : decode cX1_countLabel 94 = .ok (.iload_n 1, 1) := by decide +kernel
theorem dX1_countLabel_95 : decode cX1_countLabel 95 = .ok (.iastore, 1) := by decide +kernel
theorem dX1_countLabel_96 : decode cX1_countLabel 96 = .ok (.aload_n 0, 1) := by decide +kernel
theorem dX1_countLabel_97 : decode cX1_countLabel 97 = .ok (.getfield 15, 3) := by decide +kernel
theorem dX1_countLabel_100 : decode cX1_countLabel 100 = .ok (.iload_n 2, 1) := by decide +kernel
theorem dX1_countLabel_101 : decode cX1_countLabel 101 = .ok (.iconst 1, 1) := by decide +kernel
theorem dX1_countLabel_102 : decode cX1_countLabel 102 = .ok (.iastore, 1) := by decide +kernel
theorem dX1_countLabel_103 : decode cX1_countLabel 103 = .ok (.aload_n 0, 1) := by decide +kernel
theorem dX1_countLabel_104 : decode cX1_countLabel 104 = .ok (.dup, 1) := by decide +kernel
theorem dX1_countLabel_105 : decode cX1_countLabel 105 = .ok (.getfield 27, 3) := by decide +kernel
theorem dX1_countLabel_108 : decode cX1_countLabel 108 = .ok (.iconst 1, 1) := by decide +kernel
theorem dX1_countLabel_109 : decode cX1_countLabel 109 = .ok (.iadd, 1) := by decide +kernel
theorem dX1_countLabel_110 : decode cX1_countLabel 110 = .ok (.putfield 27, 3) := by decide +kernel
theorem dX1_countLabel_113 : decode cX1_countLabel 113 = .ok (.return_, 1) := by decide +kernel
set_option maxRecDepth 20000 in
theorem ggX1_findEnds_J7_fill_53178 : GoodIn wsX1_findEnds wsJ7_fill_53178 := goodIn_r _ [8] (by decide +kernel) (by decide +kernel)
set_option maxRecDepth 20000 in
theorem gX1_findEnds_J7_fill_53178 : GoodIn wsX1_findEnds (va_wsS RX1 57 yJ7_fill_53178 wsJ7_fill_53178) := goodIn_app (goodIn_of _ (by decide +kernel)) ggX1_findEnds_J7_fill_53178
set_option maxRecDepth 20000 in
theorem ggX1_findEnds_X4_spots : GoodIn wsX1_findEnds wsX4_spots := goodIn_r _ [13, 14, 65, 66, 67] (by decide +kernel) (by decide +kernel)
set_option maxRecDepth 20000 in
theorem gX1_findEnds_X4_spots : GoodIn wsX1_findEnds (wsV RX1 41 RX4 yX4_spots wsX4_spots) := goodIn_app (goodIn_of _ (by decide +kernel)) ggX1_findEnds_X4_spots
set_option maxRecDepth 20000 in
theorem ggX1_findEnds_X4_label : GoodIn wsX1_findEnds wsX4_label := goodIn_r _ [18, 19, 20, 10, 11, 12, 13, 14, 65, 66, 67] (by decide +kernel) (by decide +kernel)
set_option maxRecDepth 20000 in
theorem gX1_findEnds_X4_label : GoodIn wsX1_findEnds (wsV RX1 47 RX4 yX4_label wsX4_label) := goodIn_app (goodIn_of _ (by decide +kernel)) ggX1_findEnds_X4_label
set_option maxRecDepth 20000 in
theorem ggX1_findEnds_X1_rank : GoodIn wsX1_findEnds wsX1_rank := goodIn_r _ [25, 4, 26, 27, 28, 24, 29, 3, 30, 31, 32, 33, 59, 60, 61, 62, 63, 64] (by decide +kernel) (by decide +kernel)
set_option maxRecDepth 20000 in
theorem gX1_findEnds_X1_rank : GoodIn wsX1_findEnds (wsV RX1 63 RX1 yX1_rank wsX1_rank) := goodIn_app (goodIn_of _ (by decide +kernel)) ggX1_findEnds_X1_rank
set_option maxRecDepth 20000 in
theorem ggX1_findEnds_X4_goesOut : GoodIn wsX1_findEnds wsX4_goesOut := goodIn_r _ [37, 38, 39, 12, 40, 41, 42, 43, 44, 45, 46, 47, 48, 49, 50, 51, 52, 53, 14, 65, 66, 67] (by decide +kernel) (by decide +kernel)
set_option maxRecDepth 20000 in
theorem gX1_findEnds_X4_goesOut : GoodIn wsX1_findEnds (wsV RX1 66 RX4 yX4_goesOut wsX4_goesOut) := goodIn_app (goodIn_of _ (by decide +kernel)) ggX1_findEnds_X4_goesOut
set_option maxRecDepth 20000 in
theorem ggX1_findEnds_X1_noteEnd : GoodIn wsX1_findEnds wsX1_noteEnd := goodIn_r _ [57, 58, 1, 2, 30, 31, 32, 24, 33, 3, 59, 60, 61, 62, 63, 64] (by decide +kernel) (by decide +kernel)
set_option maxRecDepth 20000 in
theorem gX1_findEnds_X1_noteEnd : GoodIn wsX1_findEnds (wsV RX1 69 RX1 yX1_noteEnd wsX1_noteEnd) := goodIn_app (goodIn_of _ (by decide +kernel)) ggX1_findEnds_X1_noteEnd
theorem dX1_findEnds_0 : decode cX1_findEnds 0 = .ok (.aload_n 0, 1) := by decide +kernel
theorem dX1_findEnds_1 : decode cX1_findEnds 1 = .ok (.getfield 18, 3) := by decide +kernel
theorem dX1_findEnds_4 : decode cX1_findEnds 4 = .ok (.iconst (-1), 1) := by decide +kernel
theorem dX1_findEnds_5 : decode cX1_findEnds 5 = .ok (.invokestatic 57, 3) := by decide +kernel
theorem dX1_findEnds_8 : decode cX1_findEnds 8 = .ok (.aload_n 0, 1) := by decide +kernel
theorem dX1_findEnds_9 : decode cX1_findEnds 9 = .ok (.getfield 21, 3) := by decide +kernel
theorem dX1_findEnds_12 : decode cX1_findEnds 12 = .ok (.iconst (-1), 1) := by decide +kernel
theorem dX1_findEnds_13 : decode cX1_findEnds 13 = .ok (.invokestatic 57, 3) := by decide +kernel
theorem dX1_findEnds_16 : decode cX1_findEnds 16 = .ok (.iconst 0, 1) := by decide +kernel
theorem dX1_findEnds_17 : decode cX1_findEnds 17 = .ok (.istore_n 2, 1) := by decide +kernel
theorem dX1_findEnds_18 : decode cX1_findEnds 18 = .ok (.iload_n 2, 1) := by decide +kernel
theorem dX1_findEnds_19 : decode cX1_findEnds 19 = .ok (.aload_n 1, 1) := by decide +kernel
theorem dX1_findEnds_20 : decode cX1_findEnds 20 = .ok (.invokevirtual 41, 3) := by decide +kernel
theorem dX1_findEnds_23 : decode cX1_findEnds 23 = .ok (.if_icmp .ge 28, 3) := by decide +kernel
theorem dX1_findEnds_26 : decode cX1_findEnds 26 = .ok (.aload_n 0, 1) := by decide +kernel
theorem dX1_findEnds_27 : decode cX1_findEnds 27 = .ok (.iload_n 2, 1) := by decide +kernel
theorem dX1_findEnds_28 : decode cX1_findEnds 28 = .ok (.aload_n 0, 1) := by decide +kernel
theorem dX1_findEnds_29 : decode cX1_findEnds 29 = .ok (.aload_n 1, 1) := by decide +kernel
theorem dX1_findEnds_30 : decode cX1_findEnds 30 = .ok (.iload_n 2, 1) := by decide +kernel
theorem dX1_findEnds_31 : decode cX1_findEnds 31 = .ok (.invokevirtual 47, 3) := by decide +kernel
theorem dX1_findEnds_34 : decode cX1_findEnds 34 = .ok (.invokevirtual 63, 3) := by decide +kernel
theorem dX1_findEnds_37 : decode cX1_findEnds 37 = .ok (.aload_n 1, 1) := by decide +kernel
theorem dX1_findEnds_38 : decode cX1_findEnds 38 = .ok (.iload_n 2, 1) := by decide +kernel
theorem dX1_findEnds_39 : decode cX1_findEnds 39 = .ok (.invokevirtual 66, 3) := by decide +kernel
theorem dX1_findEnds_42 : decode cX1_findEnds 42 = .ok (.invokevirtual 69, 3) := by decide +kernel
theorem dX1_findEnds_45 : decode cX1_findEnds 45 = .ok (.iinc 2 1, 3) := by decide +kernel
theorem dX1_findEnds_48 : decode cX1_findEnds 48 = .ok (.goto (-30), 3) := by decide +kernel
theorem dX1_findEnds_51 : decode cX1_findEnds 51 = .ok (.iconst 0, 1) := by decide +kernel
theorem dX1_findEnds_52 : decode cX1_findEnds 52 = .ok (.istore_n 2, 1) := by decide +kernel
theorem dX1_findEnds_53 : decode cX1_findEnds 53 = .ok (.iload_n 2, 1) := by decide +kernel
theorem dX1_findEnds_54 : decode cX1_findEnds 54 = .ok (.aload_n 0, 1) := by decide +kernel
theorem dX1_findEnds_55 : decode cX1_findEnds 55 = .ok (.getfield 27, 3) := by decide +kernel
theorem dX1_findEnds_58 : decode cX1_findEnds 58 = .ok (.if_icmp .ge 36, 3) := by decide +kernel
theorem dX1_findEnds_61 : decode cX1_findEnds 61 = .ok (.aload_n 0, 1) := by decide +kernel
theorem dX1_findEnds_62 : decode cX1_findEnds 62 = .ok (.getfield 18, 3) := by decide +kernel
theorem dX1_findEnds_65 : decode cX1_findEnds 65 = .ok (.iload_n 2, 1) := by decide +kernel
theorem dX1_findEnds_66 : decode cX1_findEnds 66 = .ok (.iaload, 1) := by decide +kernel
theorem dX1_findEnds_67 : decode cX1_findEnds 67 = .ok (.iconst (-1), 1) := by decide +kernel
theorem dX1_findEnds_68 : decode cX1_findEnds 68 = .ok (.if_icmp .eq 13, 3) := by decide +kernel
theorem dX1_findEnds_71 : decode cX1_findEnds 71 = .ok (.aload_n 0, 1) := by decide +kernel
theorem dX1_findEnds_72 : decode cX1_findEnds 72 = .ok (.getfield 21, 3) := by decide +kernel
theorem dX1_findEnds_75 : decode cX1_findEnds 75 = .ok (.iload_n 2, 1) := by decide +kernel
theorem dX1_findEnds_76 : decode cX1_findEnds 76 = .ok (.iaload, 1) := by decide +kernel
theorem dX1_findEnds_77 : decode cX1_findEnds 77 = .ok (.iconst (-1), 1) := by decide +kernel
theorem dX1_findEnds_78 : decode cX1_findEnds 78 = .ok (.if_icmp .ne 10, 3) := by decide +kernel
theorem dX1_findEnds_81 : decode cX1_findEnds 81 = .ok (.aload_n 0, 1) := by decide +kernel
theorem dX1_findEnds_82 : decode cX1_findEnds 82 = .ok (.getfield 9, 3) := by decide +kernel
theorem dX1_findEnds_85 : decode cX1_findEnds 85 = .ok (.iload_n 2, 1) := by decide +kernel
theorem dX1_findEnds_86 : decode cX1_findEnds 86 = .ok (.iaload, 1) := by decide +kernel
theorem dX1_findEnds_87 : decode cX1_findEnds 87 = .ok (.ireturn, 1) := by decide +kernel
theorem dX1_findEnds_88 : decode cX1_findEnds 88 = .ok (.iinc 2 1, 3) := by decide +kernel
theorem dX1_findEnds_91 : decode cX1_findEnds 91 = .ok (.goto (-38), 3) := by decide +kernel
theorem dX1_findEnds_94 : decode cX1_findEnds 94 = .ok (.iconst (-1), 1) := by decide +kernel
theorem dX1_findEnds_95 : decode cX1_findEnds 95 = .ok (.ireturn, 1) := by decide +kernel
set_option maxRecDepth 20000 in
theorem ggX1_noteEnd_X1_has : GoodIn wsX1_noteEnd wsX1_has := goodIn_r _ [8, 9, 10, 11, 12, 13, 14, 15] (by decide +kernel) (by decide +kernel)
set_option maxRecDepth 20000 in
theorem gX1_noteEnd_X1_has : GoodIn wsX1_noteEnd (wsV RX1 31 RX1 yX1_has wsX1_has) := goodIn_app (goodIn_of _ (by decide +kernel)) ggX1_noteEnd_X1_has
theorem dX1_noteEnd_0 : decode cX1_noteEnd 0 = .ok (.iload_n 1, 1) := by decide +kernel
theorem dX1_noteEnd_1 : decode cX1_noteEnd 1 = .ok (.ifCond .lt 17, 3) := by decide +kernel
theorem dX1_noteEnd_4 : decode cX1_noteEnd 4 = .ok (.iload_n 1, 1) := by decide +kernel
theorem dX1_noteEnd_5 : decode cX1_noteEnd 5 = .ok (.bipush 80, 2) := by decide +kernel
theorem dX1_noteEnd_7 : decode cX1_noteEnd 7 = .ok (.if_icmp .ge 11, 3) := by decide +kernel
theorem dX1_noteEnd_10 : decode cX1_noteEnd 10 = .ok (.aload_n 0, 1) := by decide +kernel
theorem dX1_noteEnd_11 : decode cX1_noteEnd 11 = .ok (.iload_n 2, 1) := by decide +kernel
theorem dX1_noteEnd_12 : decode cX1_noteEnd 12 = .ok (.invokevirtual 31, 3) := by decide +kernel
theorem dX1_noteEnd_15 : decode cX1_noteEnd 15 = .ok (.ifCond .ne 4, 3) := by decide +kernel
theorem dX1_noteEnd_18 : decode cX1_noteEnd 18 = .ok (.return_, 1) := by decide +kernel
theorem dX1_noteEnd_19 : decode cX1_noteEnd 19 = .ok (.aload_n 0, 1) := by decide +kernel
theorem dX1_noteEnd_20 : decode cX1_noteEnd 20 = .ok (.getfield 24, 3) := by decide +kernel
theorem dX1_noteEnd_23 : decode cX1_noteEnd 23 = .ok (.iload_n 1, 1) := by decide +kernel
theorem dX1_noteEnd_24 : decode cX1_noteEnd 24 = .ok (.iload_n 2, 1) := by decide +kernel
theorem dX1_noteEnd_25 : decode cX1_noteEnd 25 = .ok (.iastore, 1) := by decide +kernel
theorem dX1_noteEnd_26 : decode cX1_noteEnd 26 = .ok (.iload_n 3, 1) := by decide +kernel
theorem dX1_noteEnd_27 : decode cX1_noteEnd 27 = .ok (.ifCond .eq 13, 3) := by decide +kernel
theorem dX1_noteEnd_30 : decode cX1_noteEnd 30 = .ok (.aload_n 0, 1) := by decide +kernel
theorem dX1_noteEnd_31 : decode cX1_noteEnd 31 = .ok (.getfield 18, 3) := by decide +kernel
theorem dX1_noteEnd_34 : decode cX1_noteEnd 34 = .ok (.iload_n 2, 1) := by decide +kernel
theorem dX1_noteEnd_35 : decode cX1_noteEnd 35 = .ok (.iload_n 1, 1) := by decide +kernel
theorem dX1_noteEnd_36 : decode cX1_noteEnd 36 = .ok (.iastore, 1) := by decide +kernel
theorem dX1_noteEnd_37 : decode cX1_noteEnd 37 = .ok (.goto 10, 3) := by decide +kernel
theorem dX1_noteEnd_40 : decode cX1_noteEnd 40 = .ok (.aload_n 0, 1) := by decide +kernel
theorem dX1_noteEnd_41 : decode cX1_noteEnd 41 = .ok (.getfield 21, 3) := by decide +kernel
theorem dX1_noteEnd_44 : decode cX1_noteEnd 44 = .ok (.iload_n 2, 1) := by decide +kernel
theorem dX1_noteEnd_45 : decode cX1_noteEnd 45 = .ok (.iload_n 1, 1) := by decide +kernel
theorem dX1_noteEnd_46 : decode cX1_noteEnd 46 = .ok (.iastore, 1) := by decide +kernel
theorem dX1_noteEnd_47 : decode cX1_noteEnd 47 = .ok (.return_, 1) := by decide +kernel
set_option maxRecDepth 20000 in
theorem ggX1_rank_X1_countLess : GoodIn wsX1_rank wsX1_countLess := goodIn_r _ [6, 7, 1, 12, 13, 14, 15, 16, 17] (by decide +kernel) (by decide +kernel)
set_option maxRecDepth 20000 in
theorem gX1_rank_X1_countLess : GoodIn wsX1_rank (wsV RX1 54 RX1 yX1_countLess wsX1_countLess) := goodIn_app (goodIn_of _ (by decide +kernel)) ggX1_rank_X1_countLess
set_option maxRecDepth 20000 in
theorem ggX1_rank_X1_has : GoodIn wsX1_rank wsX1_has := goodIn_r _ [11, 7, 12, 13, 14, 15, 16, 17] (by decide +kernel) (by decide +kernel)
set_option maxRecDepth 20000 in
theorem gX1_rank_X1_has : GoodIn wsX1_rank (wsV RX1 31 RX1 yX1_has wsX1_has) := goodIn_app (goodIn_of _ (by decide +kernel)) ggX1_rank_X1_has
theorem dX1_rank_0 : decode cX1_rank 0 = .ok (.aload_n 0, 1) := by decide +kernel
theorem dX1_rank_1 : decode cX1_rank 1 = .ok (.iload_n 1, 1) := by decide +kernel
theorem dX1_rank_2 : decode cX1_rank 2 = .ok (.invokevirtual 54, 3) := by decide +kernel
theorem dX1_rank_5 : decode cX1_rank 5 = .ok (.istore_n 2, 1) := by decide +kernel
theorem dX1_rank_6 : decode cX1_rank 6 = .ok (.aload_n 0, 1) := by decide +kernel
theorem dX1_rank_7 : decode cX1_rank 7 = .ok (.iload_n 2, 1) := by decide +kernel
theorem dX1_rank_8 : decode cX1_rank 8 = .ok (.invokevirtual 31, 3) := by decide +kernel
theorem dX1_rank_11 : decode cX1_rank 11 = .ok (.ifCond .eq 17, 3) := by decide +kernel
theorem dX1_rank_14 : decode cX1_rank 14 = .ok (.aload_n 0, 1) := by decide +kernel
theorem dX1_rank_15 : decode cX1_rank 15 = .ok (.getfield 9, 3) := by decide +kernel
theorem dX1_rank_18 : decode cX1_rank 18 = .ok (.iload_n 2, 1) := by decide +kernel
theorem dX1_rank_19 : decode cX1_rank 19 = .ok (.iaload, 1) := by decide +kernel
theorem dX1_rank_20 : decode cX1_rank 20 = .ok (.iload_n 1, 1) := by decide +kernel
theorem dX1_rank_21 : decode cX1_rank 21 = .ok (.if_icmp .ne 7, 3) := by decide +kernel
theorem dX1_rank_24 : decode cX1_rank 24 = .ok (.iload_n 2, 1) := by decide +kernel
theorem dX1_rank_25 : decode cX1_rank 25 = .ok (.goto 4, 3) := by decide +kernel
theorem dX1_rank_28 : decode cX1_rank 28 = .ok (.iconst (-1), 1) := by decide +kernel
theorem dX1_rank_29 : decode cX1_rank 29 = .ok (.ireturn, 1) := by decide +kernel
theorem dX1_countLess_0 : decode cX1_countLess 0 = .ok (.iconst 0, 1) := by decide +kernel
theorem dX1_countLess_1 : decode cX1_countLess 1 = .ok (.istore_n 2, 1) := by decide +kernel
theorem dX1_countLess_2 : decode cX1_countLess 2 = .ok (.iload_n 2, 1) := by decide +kernel
theorem dX1_countLess_3 : decode cX1_countLess 3 = .ok (.aload_n 0, 1) := by decide +kernel
theorem dX1_countLess_4 : decode cX1_countLess 4 = .ok (.getfield 27, 3) := by decide +kernel
theorem dX1_countLess_7 : decode cX1_countLess 7 = .ok (.if_icmp .ge 19, 3) := by decide +kernel
theorem dX1_countLess_10 : decode cX1_countLess 10 = .ok (.aload_n 0, 1) := by decide +kernel
theorem dX1_countLess_11 : decode cX1_countLess 11 = .ok (.getfield 9, 3) := by decide +kernel
theorem dX1_countLess_14 : decode cX1_countLess 14 = .ok (.iload_n 2, 1) := by decide +kernel
theorem dX1_countLess_15 : decode cX1_countLess 15 = .ok (.iaload, 1) := by decide +kernel
theorem dX1_countLess_16 : decode cX1_countLess 16 = .ok (.iload_n 1, 1) := by decide +kernel
theorem dX1_countLess_17 : decode cX1_countLess 17 = .ok (.if_icmp .ge 9, 3) := by decide +kernel
theorem dX1_countLess_20 : decode cX1_countLess 20 = .ok (.iinc 2 1, 3) := by decide +kernel
theorem dX1_countLess_23 : decode cX1_countLess 23 = .ok (.goto (-21), 3) := by decide +kernel
theorem dX1_countLess_26 : decode cX1_countLess 26 = .ok (.iload_n 2, 1) := by decide +kernel
theorem dX1_countLess_27 : decode cX1_countLess 27 = .ok (.ireturn, 1) := by decide +kernel
set_option maxRecDepth 20000 in
theorem ggX1_alternate_X4_isUpper : GoodIn wsX1_alternate wsX4_isUpper := goodIn_r _ [7] (by decide +kernel) (by decide +kernel)
set_option maxRecDepth 20000 in
theorem gX1_alternate_X4_isUpper : GoodIn wsX1_alternate (va_wsS RX1 73 yX4_isUpper wsX4_isUpper) := goodIn_app (goodIn_of _ (by decide +kernel)) ggX1_alternate_X4_isUpper
theorem dX1_alternate_0 : decode cX1_alternate 0 = .ok (.iconst 0, 1) := by decide +kernel
theorem dX1_alternate_1 : decode cX1_alternate 1 = .ok (.istore_n 1, 1) := by decide +kernel
theorem dX1_alternate_2 : decode cX1_alternate 2 = .ok (.iload_n 1, 1) := by decide +kernel
theorem dX1_alternate_3 : decode cX1_alternate 3 = .ok (.aload_n 0, 1) := by decide +kernel
theorem dX1_alternate_4 : decode cX1_alternate 4 = .ok (.getfield 27, 3) := by decide +kernel
theorem dX1_alternate_7 : decode cX1_alternate 7 = .ok (.if_icmp .ge 32, 3) := by decide +kernel
theorem dX1_alternate_10 : decode cX1_alternate 10 = .ok (.aload_n 0, 1) := by decide +kernel
theorem dX1_alternate_11 : decode cX1_alternate 11 = .ok (.getfield 18, 3) := by decide +kernel
theorem dX1_alternate_14 : decode cX1_alternate 14 = .ok (.iload_n 1, 1) := by decide +kernel
theorem dX1_alternate_15 : decode cX1_alternate 15 = .ok (.iaload, 1) := by decide +kernel
theorem dX1_alternate_16 : decode cX1_alternate 16 = .ok (.invokestatic 73, 3) := by decide +kernel
theorem dX1_alternate_19 : decode cX1_alternate 19 = .ok (.aload_n 0, 1) := by decide +kernel
theorem dX1_alternate_20 : decode cX1_alternate 20 = .ok (.getfield 21, 3) := by decide +kernel
theorem dX1_alternate_23 : decode cX1_alternate 23 = .ok (.iload_n 1, 1) := by decide +kernel
theorem dX1_alternate_24 : decode cX1_alternate 24 = .ok (.iaload, 1) := by decide +kernel
theorem dX1_alternate_25 : decode cX1_alternate 25 = .ok (.invokestatic 73, 3) := by decide +kernel
theorem dX1_alternate_28 : decode cX1_alternate 28 = .ok (.if_icmp .ne 5, 3) := by decide +kernel
theorem dX1_alternate_31 : decode cX1_alternate 31 = .ok (.iconst 0, 1) := by decide +kernel
theorem dX1_alternate_32 : decode cX1_alternate 32 = .ok (.ireturn, 1) := by decide +kernel
theorem dX1_alternate_33 : decode cX1_alternate 33 = .ok (.iinc 1 1, 3) := by decide +kernel
theorem dX1_alternate_36 : decode cX1_alternate 36 = .ok (.goto (-34), 3) := by decide +kernel
theorem dX1_alternate_39 : decode cX1_alternate 39 = .ok (.iconst 1, 1) := by decide +kernel
theorem dX1_alternate_40 : decode cX1_alternate 40 = .ok (.ireturn, 1) := by decide +kernel
theorem dX2_init_0 : decode cX2_init 0 = .ok (.aload_n 0, 1) := by decide +kernel
theorem dX2_init_1 : decode cX2_init 1 = .ok (.invokespecial 3, 3) := by decide +kernel
theorem dX2_init_4 : decode cX2_init 4 = .ok (.aload_n 0, 1) := by decide +kernel
theorem dX2_init_5 : decode cX2_init 5 = .ok (.bipush 40, 2) := by decide +kernel
theorem dX2_init_7 : decode cX2_init 7 = .ok (.newarray .int, 2) := by decide +kernel
theorem dX2_init_9 : decode cX2_init 9 = .ok (.putfield 9, 3) := by decide +kernel
theorem dX2_init_12 : decode cX2_init 12 = .ok (.aload_n 0, 1) := by decide +kernel
theorem dX2_init_13 : decode cX2_init 13 = .ok (.bipush 40, 2) := by decide +kernel
theorem dX2_init_15 : decode cX2_init 15 = .ok (.newarray .int, 2) := by decide +kernel
theorem dX2_init_17 : decode cX2_init 17 = .ok (.putfield 15, 3) := by decide +kernel
theorem dX2_init_20 : decode cX2_init 20 = .ok (.aload_n 0, 1) := by decide +kernel
theorem dX2_init_21 : decode cX2_init 21 = .ok (.iconst 0, 1) := by decide +kernel
theorem dX2_init_22 : decode cX2_init 22 = .ok (.putfield 18, 3) := by decide +kernel
theorem dX2_init_25 : decode cX2_init 25 = .ok (.aload_n 0, 1) := by decide +kernel
theorem dX2_init_26 : decode cX2_init 26 = .ok (.iconst 0, 1) := by decide +kernel
theorem dX2_init_27 : decode cX2_init 27 = .ok (.putfield 22, 3) := by decide +kernel
theorem dX2_init_30 : decode cX2_init 30 = .ok (.return_, 1) := by decide +kernel
theorem dX2_count_0 : decode cX2_count 0 = .ok (.aload_n 0, 1) := by decide +kernel
theorem dX2_count_1 : decode cX2_count 1 = .ok (.getfield 22, 3) := by decide +kernel
theorem dX2_count_4 : decode cX2_count 4 = .ok (.ireturn, 1) := by decide +kernel
theorem dX2_hasMember_0 : decode cX2_hasMember 0 = .ok (.iload_n 1, 1) := by decide +kernel
theorem dX2_hasMember_1 : decode cX2_hasMember 1 = .ok (.ifCond .lt 15, 3) := by decide +kernel
theorem dX2_hasMember_4 : decode cX2_hasMember 4 = .ok (.iload_n 1, 1) := by decide +kernel
theorem dX2_hasMember_5 : decode cX2_hasMember 5 = .ok (.aload_n 0, 1) := by decide +kernel
theorem dX2_hasMember_6 : decode cX2_hasMember 6 = .ok (.getfield 18, 3) := by decide +kernel
theorem dX2_hasMember_9 : decode cX2_hasMember 9 = .ok (.if_icmp .ge 7, 3) := by decide +kernel
theorem dX2_hasMember_12 : decode cX2_hasMember 12 = .ok (.iconst 1, 1) := by decide +kernel
theorem dX2_hasMember_13 : decode cX2_hasMember 13 = .ok (.goto 4, 3) := by decide +kernel
theorem dX2_hasMember_16 : decode cX2_hasMember 16 = .ok (.iconst 0, 1) := by decide +kernel
theorem dX2_hasMember_17 : decode cX2_hasMember 17 = .ok (.ireturn, 1) := by decide +kernel
set_option maxRecDepth 20000 in
theorem ggX2_least_X2_hasMember : GoodIn wsX2_least wsX2_hasMember := goodIn_r _ [6, 7, 8, 9, 10, 11] (by decide +kernel) (by decide +kernel)
set_option maxRecDepth 20000 in
theorem gX2_least_X2_hasMember : GoodIn wsX2_least (wsV RX2 25 RX2 yX2_hasMember wsX2_hasMember) := goodIn_app (goodIn_of _ (by decide +kernel)) ggX2_least_X2_hasMember
theorem dX2_least_0 : decode cX2_least 0 = .ok (.aload_n 0, 1) := by decide +kernel
theorem dX2_least_1 : decode cX2_least 1 = .ok (.iload_n 1, 1) := by decide +kernel
theorem dX2_least_2 : decode cX2_least 2 = .ok (.invokevirtual 25, 3) := by decide +kernel
theorem dX2_least_5 : decode cX2_least 5 = .ok (.ifCond .eq 12, 3) := by decide +kernel
theorem dX2_least_8 : decode cX2_least 8 = .ok (.aload_n 0, 1) := by decide +kernel
theorem dX2_least_9 : decode cX2_least 9 = .ok (.getfield 9, 3) := by decide +kernel
theorem dX2_least_12 : decode cX2_least 12 = .ok (.iload_n 1, 1) := by decide +kernel
theorem dX2_least_13 : decode cX2_least 13 = .ok (.iaload, 1) := by decide +kernel
theorem dX2_least_14 : decode cX2_least 14 = .ok (.goto 4, 3) := by decide +kernel
theorem dX2_least_17 : decode cX2_least 17 = .ok (.iconst (-1), 1) := by decide +kernel
theorem dX2_least_18 : decode cX2_least 18 = .ok (.ireturn, 1) := by decide +kernel
set_option maxRecDepth 20000 in
theorem ggX2_numberOf_X2_hasMember : GoodIn wsX2_numberOf wsX2_hasMember := goodIn_r _ [6, 7, 8, 9, 10, 11] (by decide +kernel) (by decide +kernel)
set_option maxRecDepth 20000 in
theorem gX2_numberOf_X2_hasMember : GoodIn wsX2_numberOf (wsV RX2 25 RX2 yX2_hasMember wsX2_hasMember) := goodIn_app (goodIn_of _ (by decide +kernel)) ggX2_numberOf_X2_hasMember
theorem dX2_numberOf_0 : decode cX2_numberOf 0 = .ok (.aload_n 0, 1) := by decide +kernel
theorem dX2_numberOf_1 : decode cX2_numberOf 1 = .ok (.iload_n 1, 1) := by decide +kernel
theorem dX2_numberOf_2 : decode cX2_numberOf 2 = .ok (.invokevirtual 25, 3) := by decide +kernel
theorem dX2_numberOf_5 : decode cX2_numberOf 5 = .ok (.ifCond .eq 12, 3) := by decide +kernel
theorem dX2_numberOf_8 : decode cX2_numberOf 8 = .ok (.aload_n 0, 1) := by decide +kernel
theorem dX2_numberOf_9 : decode cX2_numberOf 9 = .ok (.getfield 15, 3) := by decide +kernel
theorem dX2_numberOf_12 : decode cX2_numberOf 12 = .ok (.iload_n 1, 1) := by decide +kernel
theorem dX2_numberOf_13 : decode cX2_numberOf 13 = .ok (.iaload, 1) := by decide +kernel
theorem dX2_numberOf_14 : decode cX2_numberOf 14 = .ok (.goto 4, 3) := by decide +kernel
theorem dX2_numberOf_17 : decode cX2_numberOf 17 = .ok (.iconst (-1), 1) := by decide +kernel
theorem dX2_numberOf_18 : decode cX2_numberOf 18 = .ok (.ireturn, 1) := by decide +kernel
theorem dX2_begin_0 : decode cX2_begin 0 = .ok (.aload_n 0, 1) := by decide +kernel
theorem dX2_begin_1 : decode cX2_begin 1 = .ok (.iload_n 1, 1) := by decide +kernel
theorem dX2_begin_2 : decode cX2_begin 2 = .ok (.bipush 40, 2) := by decide +kernel
theorem dX2_begin_4 : decode cX2_begin 4 = .ok (.invokestatic 29, 3) := by decide +kernel
theorem dX2_begin_7 : decode cX2_begin 7 = .ok (.putfield 18, 3) := by decide +kernel
theorem dX2_begin_10 : decode cX2_begin 10 = .ok (.iconst 0, 1) := by decide +kernel
theorem dX2_begin_11 : decode cX2_begin 11 = .ok (.istore_n 2, 1) := by decide +kernel
theorem dX2_begin_12 : decode cX2_begin 12 = .ok (.iload_n 2, 1) := by decide +kernel
theorem dX2_begin_13 : decode cX2_begin 13 = .ok (.aload_n 0, 1) := by decide +kernel
theorem dX2_begin_14 : decode cX2_begin 14 = .ok (.getfield 18, 3) := by decide +kernel
theorem dX2_begin_17 : decode cX2_begin 17 = .ok (.if_icmp .ge 16, 3) := by decide +kernel
theorem dX2_begin_20 : decode cX2_begin 20 = .ok (.aload_n 0, 1) := by decide +kernel
theorem dX2_begin_21 : decode cX2_begin 21 = .ok (.getfield 9, 3) := by decide +kernel
theorem dX2_begin_24 : decode cX2_begin 24 = .ok (.iload_n 2, 1) := by decide +kernel
theorem dX2_begin_25 : decode cX2_begin 25 = .ok (.iload_n 2, 1) := by decide +kernel
theorem dX2_begin_26 : decode cX2_begin 26 = .ok (.iastore, 1) := by decide +kernel
theorem dX2_begin_27 : decode cX2_begin 27 = .ok (.iinc 2 1, 3) := by decide +kernel
theorem dX2_begin_30 : decode cX2_begin 30 = .ok (.goto (-18), 3) := by decide +kernel
theorem dX2_begin_33 : decode cX2_begin 33 = .ok (.return_, 1) := by decide +kernel
set_option maxRecDepth 20000 in
theorem ggX2_join_X2_least : GoodIn wsX2_join wsX2_least := goodIn_r _ [14, 9, 15, 16, 17, 13, 18, 8, 19, 20, 21, 22] (by decide +kernel) (by decide +kernel)
set_option maxRecDepth 20000 in
theorem gX2_join_X2_least : GoodIn wsX2_join (wsV RX2 35 RX2 yX2_least wsX2_least) := goodIn_app (goodIn_of _ (by decide +kernel)) ggX2_join_X2_least
theorem dX2_join_0 : decode cX2_join 0 = .ok (.aload_n 0, 1) := by decide +kernel
theorem dX2_join_1 : decode cX2_join 1 = .ok (.iload_n 1, 1) := by decide +kernel
theorem dX2_join_2 : decode cX2_join 2 = .ok (.invokevirtual 35, 3) := by decide +kernel
theorem dX2_join_5 : decode cX2_join 5 = .ok (.aload_n 0, 1) := by decide +kernel
theorem dX2_join_6 : decode cX2_join 6 = .ok (.iload_n 2, 1) := by decide +kernel
theorem dX2_join_7 : decode cX2_join 7 = .ok (.invokevirtual 35, 3) := by decide +kernel
theorem dX2_join_10 : decode cX2_join 10 = .ok (.invokestatic 29, 3) := by decide +kernel
theorem dX2_join_13 : decode cX2_join 13 = .ok (.istore_n 3, 1) := by decide +kernel
theorem dX2_join_14 : decode cX2_join 14 = .ok (.aload_n 0, 1) := by decide +kernel
theorem dX2_join_15 : decode cX2_join 15 = .ok (.iload_n 1, 1) := by decide +kernel
theorem dX2_join_16 : decode cX2_join 16 = .ok (.invokevirtual 35, 3) := by decide +kernel
theorem dX2_join_19 : decode cX2_join 19 = .ok (.aload_n 0, 1) := by decide +kernel
theorem dX2_join_20 : decode cX2_join 20 = .ok (.iload_n 2, 1) := by decide +kernel
theorem dX2_join_21 : decode cX2_join 21 = .ok (.invokevirtual 35, 3) := by decide +kernel
theorem dX2_join_24 : decode cX2_join 24 = .ok (.invokestatic 38, 3) := by decide +kernel
theorem dX2_join_27 : decode cX2_join 27 = .ok (.istore 4, 2) := by decide +kernel
theorem dX2_join_29 : decode cX2_join 29 = .ok (.iload_n 3, 1) := by decide +kernel
theorem dX2_join_30 : decode cX2_join 30 = .ok (.ifCond .lt 9, 3) := by decide +kernel
theorem dX2_join_33 : decode cX2_join 33 = .ok (.iload_n 3, 1) := by decide +kernel
theorem dX2_join_34 : decode cX2_join 34 = .ok (.iload 4, 2) := by decide +kernel
theorem dX2_join_36 : decode cX2_join 36 = .ok (.if_icmp .ne 4, 3) := by decide +kernel
theorem dX2_join_39 : decode cX2_join 39 = .ok (.return_, 1) := by decide +kernel
theorem dX2_join_40 : decode cX2_join 40 = .ok (.iconst 0, 1) := by decide +kernel
theorem dX2_join_41 : decode cX2_join 41 = .ok (.istore 5, 2) := by decide +kernel
theorem dX2_join_43 : decode cX2_join 43 = .ok (.iload 5, 2) := by decide +kernel
theorem dX2_join_45 : decode cX2_join 45 = .ok (.aload_n 0, 1) := by decide +kernel
theorem dX2_join_46 : decode cX2_join 46 = .ok (.getfield 18, 3) := by decide +kernel
theorem dX2_join_49 : decode cX2_join 49 = .ok (.if_icmp .ge 29, 3) := by decide +kernel
theorem dX2_join_52 : decode cX2_join 52 = .ok (.aload_n 0, 1) := by decide +kernel
theorem dX2_join_53 : decode cX2_join 53 = .ok (.getfield 9, 3) := by decide +kernel
theorem dX2_join_56 : decode cX2_join 56 = .ok (.iload 5, 2) := by decide +kernel
theorem dX2_join_58 : decode cX2_join 58 = .ok (.iaload, 1) := by decide +kernel
theorem dX2_join_59 : decode cX2_join 59 = .ok (.iload 4, 2) := by decide +kernel
theorem dX2_join_61 : decode cX2_join 61 = .ok (.if_icmp .ne 11, 3) := by decide +kernel
theorem dX2_join_64 : decode cX2_join 64 = .ok (.aload_n 0, 1) := by decide +kernel
theorem dX2_join_65 : decode cX2_join 65 = .ok (.getfield 9, 3) := by decide +kernel
theorem dX2_join_68 : decode cX2_join 68 = .ok (.iload 5, 2) := by decide +kernel
theorem dX2_join_70 : decode cX2_join 70 = .ok (.iload_n 3, 1) := by decide +kernel
theorem dX2_join_71 : decode cX2_join 71 = .ok (.iastore, 1) := by decide +kernel
theorem dX2_join_72 : decode cX2_join 72 = .ok (.iinc 5 1, 3) := by decide +kernel
theorem dX2_join_75 : decode cX2_join 75 = .ok (.goto (-32), 3) := by decide +kernel
theorem dX2_join_78 : decode cX2_join 78 = .ok (.return_, 1) := by decide +kernel
set_option maxRecDepth 20000 in
theorem ggX2_numberGroups_X2_numberOf : GoodIn wsX2_numberGroups wsX2_numberOf := goodIn_r _ [9, 4, 10, 11, 12, 8, 13, 2, 14, 15, 16, 17] (by decide +kernel) (by decide +kernel)
set_option maxRecDepth 20000 in
theorem gX2_numberGroups_X2_numberOf : GoodIn wsX2_numberGroups (wsV RX2 41 RX2 yX2_numberOf wsX2_numberOf) := goodIn_app (goodIn_of _ (by decide +kernel)) ggX2_numberGroups_X2_numberOf
theorem dX2_numberGroups_0 : decode cX2_numberGroups 0 = .ok (.aload_n 0, 1) := by decide +kernel
theorem dX2_numberGroups_1 : decode cX2_numberGroups 1 = .ok (.iconst 0, 1) := by decide +kernel
theorem dX2_numberGroups_2 : decode cX2_numberGroups 2 = .ok (.putfield 22, 3) := by decide +kernel
theorem dX2_numberGroups_5 : decode cX2_numberGroups 5 = .ok (.iconst 0, 1) := by decide +kernel
theorem dX2_numberGroups_6 : decode cX2_numberGroups 6 = .ok (.istore_n 1, 1) := by decide +kernel
theorem dX2_numberGroups_7 : decode cX2_numberGroups 7 = .ok (.iload_n 1, 1) := by decide +kernel
theorem dX2_numberGroups_8 : decode cX2_numberGroups 8 = .ok (.aload_n 0, 1) := by decide +kernel
theorem dX2_numberGroups_9 : decode cX2_numberGroups 9 = .ok (.getfield 18, 3) := by decide +kernel
theorem dX2_numberGroups_12 : decode cX2_numberGroups 12 = .ok (.if_icmp .ge 58, 3) := by decide +kernel
theorem dX2_numberGroups_15 : decode cX2_numberGroups 15 = .ok (.aload_n 0, 1) := by decide +kernel
theorem dX2_numberGroups_16 : decode cX2_numberGroups 16 = .ok (.getfield 9, 3) := by decide +kernel
theorem dX2_numberGroups_19 : decode cX2_numberGroups 19 = .ok (.iload_n 1, 1) := by decide +kernel
theorem dX2_numberGroups_20 : decode cX2_numberGroups 20 = .ok (.iaload, 1) := by decide +kernel
theorem dX2_numberGroups_21 : decode cX2_numberGroups 21 = .ok (.iload_n 1, 1) := by decide +kernel
theorem dX2_numberGroups_22 : decode cX2_numberGroups 22 = .ok (.if_icmp .ne 26, 3) := by decide +kernel
theorem dX2_numberGroups_25 : decode cX2_numberGroups 25 = .ok (.aload_n 0, 1) := by decide +kernel
theorem dX2_numberGroups_26 : decode cX2_numberGroups 26 = .ok (.getfield 15, 3) := by decide +kernel
theorem dX2_numberGroups_29 : decode cX2_numberGroups 29 = .ok (.iload_n 1, 1) := by decide +kernel
theorem dX2_numberGroups_30 : decode cX2_numberGroups 30 = .ok (.aload_n 0, 1) := by decide +kernel
theorem dX2_numberGroups_31 : decode cX2_numberGroups 31 = .ok (.getfield 22, 3) := by decide +kernel
theorem dX2_numberGroups_34 : decode cX2_numberGroups 34 = .ok (.iastore, 1) := by decide +kernel
theorem dX2_numberGroups_35 : decode cX2_numberGroups 35 = .ok (.aload_n 0, 1) := by decide +kernel
theorem dX2_numberGroups_36 : decode cX2_numberGroups 36 = .ok (.dup, 1) := by decide +kernel
theorem dX2_numberGroups_37 : decode cX2_numberGroups 37 = .ok (.getfield 22, 3) := by decide +kernel
theorem dX2_numberGroups_40 : decode cX2_numberGroups 40 = .ok (.iconst 1, 1) := by decide +kernel
theorem dX2_numberGroups_41 : decode cX2_numberGroups 41 = .ok (.iadd, 1) := by decide +kernel
theorem dX2_numberGroups_42 : decode cX2_numberGroups 42 = .ok (.putfield 22, 3) := by decide +kernel
theorem dX2_numberGroups_45 : decode cX2_numberGroups 45 = .ok (.goto 19, 3) := by decide +kernel
theorem dX2_numberGroups_48 : decode cX2_numberGroups 48 = .ok (.aload_n 0, 1) := by decide +kernel
theorem dX2_numberGroups_49 : decode cX2_numberGroups 49 = .ok (.getfield 15, 3) := by decide +kernel
theorem dX2_numberGroups_52 : decode cX2_numberGroups 52 = .ok (.iload_n 1, 1) := by decide +kernel
theorem dX2_numberGroups_53 : decode cX2_numberGroups 53 = .ok (.aload_n 0, 1) := by decide +kernel
theorem dX2_numberGroups_54 : decode cX2_numberGroups 54 = .ok (.aload_n 0, 1) := by decide +kernel
theorem dX2_numberGroups_55 : decode cX2_numberGroups 55 = .ok (.getfield 9, 3) := by decide +kernel
theorem dX2_numberGroups_58 : decode cX2_numberGroups 58 = .ok (.iload_n 1, 1) := by decide +kernel
theorem dX2_numberGroups_59 : decode cX2_numberGroups 59 = .ok (.iaload, 1) := by decide +kernel
theorem dX2_numberGroups_60 : decode cX2_numberGroups 60 = .ok (.invokevirtual 41, 3) := by decide +kernel
theorem dX2_numberGroups_63 : decode cX2_numberGroups 63 = .ok (.iastore, 1) := by decide +kernel
theorem dX2_numberGroups_64 : decode cX2_numberGroups 64 = .ok (.iinc 1 1, 3) := by decide +kernel
theorem dX2_numberGroups_67 : decode cX2_numberGroups 67 = .ok (.goto (-60), 3) := by decide +kernel
theorem dX2_numberGroups_70 : decode cX2_numberGroups 70 = .ok (.return_, 1) := by decide +kernel
theorem dX3_init_0 : decode cX3_init 0 = .ok (.aload_n 0, 1) := by decide +kernel
theorem dX3_init_1 : decode cX3_init 1 = .ok (.invokespecial 3, 3) := by decide +kernel
theorem dX3_init_4 : decode cX3_init 4 = .ok (.aload_n 0, 1) := by decide +kernel
theorem dX3_init_5 : decode cX3_init 5 = .ok (.bipush 80, 2) := by decide +kernel
theorem dX3_init_7 : decode cX3_init 7 = .ok (.newarray .int, 2) := by decide +kernel
theorem dX3_init_9 : decode cX3_init 9 = .ok (.putfield 9, 3) := by decide +kernel
theorem dX3_init_12 : decode cX3_init 12 = .ok (.aload_n 0, 1) := by decide +kernel
theorem dX3_init_13 : decode cX3_init 13 = .ok (.bipush 80, 2) := by decide +kernel
theorem dX3_init_15 : decode cX3_init 15 = .ok (.newarray .int, 2) := by decide +kernel
theorem dX3_init_17 : decode cX3_init 17 = .ok (.putfield 15, 3) := by decide +kernel
theorem dX3_init_20 : decode cX3_init 20 = .ok (.aload_n 0, 1) := by decide +kernel
theorem dX3_init_21 : decode cX3_init 21 = .ok (.bipush 80, 2) := by decide +kernel
theorem dX3_init_23 : decode cX3_init 23 = .ok (.newarray .int, 2) := by decide +kernel
theorem dX3_init_25 : decode cX3_init 25 = .ok (.putfield 18, 3) := by decide +kernel
theorem dX3_init_28 : decode cX3_init 28 = .ok (.aload_n 0, 1) := by decide +kernel
theorem dX3_init_29 : decode cX3_init 29 = .ok (.bipush 80, 2) := by decide +kernel
theorem dX3_init_31 : decode cX3_init 31 = .ok (.newarray .int, 2) := by decide +kernel
theorem dX3_init_33 : decode cX3_init 33 = .ok (.putfield 21, 3) := by decide +kernel
theorem dX3_init_36 : decode cX3_init 36 = .ok (.aload_n 0, 1) := by decide +kernel
theorem dX3_init_37 : decode cX3_init 37 = .ok (.iconst 0, 1) := by decide +kernel
theorem dX3_init_38 : decode cX3_init 38 = .ok (.putfield 24, 3) := by decide +kernel
theorem dX3_init_41 : decode cX3_init 41 = .ok (.aload_n 0, 1) := by decide +kernel
theorem dX3_init_42 : decode cX3_init 42 = .ok (.iconst 0, 1) := by decide +kernel
theorem dX3_init_43 : decode cX3_init 43 = .ok (.putfield 28, 3) := by decide +kernel
theorem dX3_init_46 : decode cX3_init 46 = .ok (.return_, 1) := by decide +kernel
theorem dX3_count_0 : decode cX3_count 0 = .ok (.aload_n 0, 1) := by decide +kernel
theorem dX3_count_1 : decode cX3_count 1 = .ok (.getfield 28, 3) := by decide +kernel
theorem dX3_count_4 : decode cX3_count 4 = .ok (.ireturn, 1) := by decide +kernel
theorem dX3_hasMember_0 : decode cX3_hasMember 0 = .ok (.iload_n 1, 1) := by decide +kernel
theorem dX3_hasMember_1 : decode cX3_hasMember 1 = .ok (.ifCond .lt 15, 3) := by decide +kernel
theorem dX3_hasMember_4 : decode cX3_hasMember 4 = .ok (.iload_n 1, 1) := by decide +kernel
theorem dX3_hasMember_5 : decode cX3_hasMember 5 = .ok (.aload_n 0, 1) := by decide +kernel
theorem dX3_hasMember_6 : decode cX3_hasMember 6 = .ok (.getfield 24, 3) := by decide +kernel
theorem dX3_hasMember_9 : decode cX3_hasMember 9 = .ok (.if_icmp .ge 7, 3) := by decide +kernel
theorem dX3_hasMember_12 : decode cX3_hasMember 12 = .ok (.iconst 1, 1) := by decide +kernel
theorem dX3_hasMember_13 : decode cX3_hasMember 13 = .ok (.goto 4, 3) := by decide +kernel
theorem dX3_hasMember_16 : decode cX3_hasMember 16 = .ok (.iconst 0, 1) := by decide +kernel
theorem dX3_hasMember_17 : decode cX3_hasMember 17 = .ok (.ireturn, 1) := by decide +kernel
theorem dX3_hasRound_0 : decode cX3_hasRound 0 = .ok (.iload_n 1, 1) := by decide +kernel
theorem dX3_hasRound_1 : decode cX3_hasRound 1 = .ok (.ifCond .lt 15, 3) := by decide +kernel
theorem dX3_hasRound_4 : decode cX3_hasRound 4 = .ok (.iload_n 1, 1) := by decide +kernel
theorem dX3_hasRound_5 : decode cX3_hasRound 5 = .ok (.aload_n 0, 1) := by decide +kernel
theorem dX3_hasRound_6 : decode cX3_hasRound 6 = .ok (.getfield 28, 3) := by decide +kernel
theorem dX3_hasRound_9 : decode cX3_hasRound 9 = .ok (.if_icmp .ge 7, 3) := by decide +kernel
theorem dX3_hasRound_12 : decode cX3_hasRound 12 = .ok (.iconst 1, 1) := by decide +kernel
theorem dX3_hasRound_13 : decode cX3_hasRound 13 = .ok (.goto 4, 3) := by decide +kernel
theorem dX3_hasRound_16 : decode cX3_hasRound 16 = .ok (.iconst 0, 1) := by decide +kernel
theorem dX3_hasRound_17 : decode cX3_hasRound 17 = .ok (.ireturn, 1) := by decide +kernel
set_option maxRecDepth 20000 in
theorem ggX3_next_X3_hasMember : GoodIn wsX3_next wsX3_hasMember := goodIn_r _ [6, 7, 8, 9, 10, 11, 12, 13] (by decide +kernel) (by decide +kernel)
set_option maxRecDepth 20000 in
theorem gX3_next_X3_hasMember : GoodIn wsX3_next (wsV RX3 31 RX3 yX3_hasMember wsX3_hasMember) := goodIn_app (goodIn_of _ (by decide +kernel)) ggX3_next_X3_hasMember
theorem dX3_next_0 : decode cX3_next 0 = .ok (.aload_n 0, 1) := by decide +kernel
theorem dX3_next_1 : decode cX3_next 1 = .ok (.iload_n 1, 1) := by decide +kernel
theorem dX3_next_2 : decode cX3_next 2 = .ok (.invokevirtual 31, 3) := by decide +kernel
theorem dX3_next_5 : decode cX3_next 5 = .ok (.ifCond .eq 12, 3) := by decide +kernel
theorem dX3_next_8 : decode cX3_next 8 = .ok (.aload_n 0, 1) := by decide +kernel
theorem dX3_next_9 : decode cX3_next 9 = .ok (.getfield 9, 3) := by decide +kernel
theorem dX3_next_12 : decode cX3_next 12 = .ok (.iload_n 1, 1) := by decide +kernel
theorem dX3_next_13 : decode cX3_next 13 = .ok (.iaload, 1) := by decide +kernel
theorem dX3_next_14 : decode cX3_next 14 = .ok (.goto 4, 3) := by decide +kernel
theorem dX3_next_17 : decode cX3_next 17 = .ok (.iconst (-1), 1) := by decide +kernel
theorem dX3_next_18 : decode cX3_next 18 = .ok (.ireturn, 1) := by decide +kernel
set_option maxRecDepth 20000 in
theorem ggX3_roundOf_X3_hasMember : GoodIn wsX3_roundOf wsX3_hasMember := goodIn_r _ [6, 7, 8, 9, 10, 11, 12, 13] (by decide +kernel) (by decide +kernel)
set_option maxRecDepth 20000 in
theorem gX3_roundOf_X3_hasMember : GoodIn wsX3_roundOf (wsV RX3 31 RX3 yX3_hasMember wsX3_hasMember) := goodIn_app (goodIn_of _ (by decide +kernel)) ggX3_roundOf_X3_hasMember
theorem dX3_roundOf_0 : decode cX3_roundOf 0 = .ok (.aload_n 0, 1) := by decide +kernel
theorem dX3_roundOf_1 : decode cX3_roundOf 1 = .ok (.iload_n 1, 1) := by decide +kernel
theorem dX3_roundOf_2 : decode cX3_roundOf 2 = .ok (.invokevirtual 31, 3) := by decide +kernel
theorem dX3_roundOf_5 : decode cX3_roundOf 5 = .ok (.ifCond .eq 12, 3) := by decide +kernel
theorem dX3_roundOf_8 : decode cX3_roundOf 8 = .ok (.aload_n 0, 1) := by decide +kernel
theorem dX3_roundOf_9 : decode cX3_roundOf 9 = .ok (.getfield 15, 3) := by decide +kernel
theorem dX3_roundOf_12 : decode cX3_roundOf 12 = .ok (.iload_n 1, 1) := by decide +kernel
theorem dX3_roundOf_13 : decode cX3_roundOf 13 = .ok (.iaload, 1) := by decide +kernel
theorem dX3_roundOf_14 : decode cX3_roundOf 14 = .ok (.goto 4, 3) := by decide +kernel
theorem dX3_roundOf_17 : decode cX3_roundOf 17 = .ok (.iconst (-1), 1) := by decide +kernel
theorem dX3_roundOf_18 : decode cX3_roundOf 18 = .ok (.ireturn, 1) := by decide +kernel
set_option maxRecDepth 20000 in
theorem ggX3_first_X3_hasRound : GoodIn wsX3_first wsX3_hasRound := goodIn_r _ [6, 7, 8, 9, 10, 11, 12, 13] (by decide +kernel) (by decide +kernel)
set_option maxRecDepth 20000 in
theorem gX3_first_X3_hasRound : GoodIn wsX3_first (wsV RX3 35 RX3 yX3_hasRound wsX3_hasRound) := goodIn_app (goodIn_of _ (by decide +kernel)) ggX3_first_X3_hasRound
theorem dX3_first_0 : decode cX3_first 0 = .ok (.aload_n 0, 1) := by decide +kernel
theorem dX3_first_1 : decode cX3_first 1 = .ok (.iload_n 1, 1) := by decide +kernel
theorem dX3_first_2 : decode cX3_first 2 = .ok (.invokevirtual 35, 3) := by decide +kernel
theorem dX3_first_5 : decode cX3_first 5 = .ok (.ifCond .eq 12, 3) := by decide +kernel
theorem dX3_first_8 : decode cX3_first 8 = .ok (.aload_n 0, 1) := by decide +kernel
theorem dX3_first_9 : decode cX3_first 9 = .ok (.getfield 18, 3) := by decide +kernel
theorem dX3_first_12 : decode cX3_first 12 = .ok (.iload_n 1, 1) := by decide +kernel
theorem dX3_first_13 : decode cX3_first 13 = .ok (.iaload, 1) := by decide +kernel
theorem dX3_first_14 : decode cX3_first 14 = .ok (.goto 4, 3) := by decide +kernel
theorem dX3_first_17 : decode cX3_first 17 = .ok (.iconst (-1), 1) := by decide +kernel
theorem dX3_first_18 : decode cX3_first 18 = .ok (.ireturn, 1) := by decide +kernel
set_option maxRecDepth 20000 in
theorem ggX3_size_X3_hasRound : GoodIn wsX3_size wsX3_hasRound := goodIn_r _ [6, 7, 8, 9, 10, 11, 12, 13] (by decide +kernel) (by decide +kernel)
set_option maxRecDepth 20000 in
theorem gX3_size_X3_hasRound : GoodIn wsX3_size (wsV RX3 35 RX3 yX3_hasRound wsX3_hasRound) := goodIn_app (goodIn_of _ (by decide +kernel)) ggX3_size_X3_hasRound
theorem dX3_size_0 : decode cX3_size 0 = .ok (.aload_n 0, 1) := by decide +kernel
theorem dX3_size_1 : decode cX3_size 1 = .ok (.iload_n 1, 1) := by decide +kernel
theorem dX3_size_2 : decode cX3_size 2 = .ok (.invokevirtual 35, 3) := by decide +kernel
theorem dX3_size_5 : decode cX3_size 5 = .ok (.ifCond .eq 12, 3) := by decide +kernel
theorem dX3_size_8 : decode cX3_size 8 = .ok (.aload_n 0, 1) := by decide +kernel
theorem dX3_size_9 : decode cX3_size 9 = .ok (.getfield 21, 3) := by decide +kernel
theorem dX3_size_12 : decode cX3_size 12 = .ok (.iload_n 1, 1) := by decide +kernel
theorem dX3_size_13 : decode cX3_size 13 = .ok (.iaload, 1) := by decide +kernel
theorem dX3_size_14 : decode cX3_size 14 = .ok (.goto 4, 3) := by decide +kernel
theorem dX3_size_17 : decode cX3_size 17 = .ok (.iconst 0, 1) := by decide +kernel
theorem dX3_size_18 : decode cX3_size 18 = .ok (.ireturn, 1) := by decide +kernel
set_option maxRecDepth 20000 in
theorem ggX3_member_X3_first : GoodIn wsX3_member wsX3_first := goodIn_r _ [5, 6, 7, 8, 9, 4, 10, 11, 22, 23, 24, 25, 26, 27] (by decide +kernel) (by decide +kernel)
set_option maxRecDepth 20000 in
theorem gX3_member_X3_first : GoodIn wsX3_member (wsV RX3 38 RX3 yX3_first wsX3_first) := goodIn_app (goodIn_of _ (by decide +kernel)) ggX3_member_X3_first
set_option maxRecDepth 20000 in
theorem ggX3_member_X3_next : GoodIn wsX3_member wsX3_next := goodIn_r _ [15, 16, 17, 18, 19, 4, 20, 21, 22, 23, 24, 25, 26, 27] (by decide +kernel) (by decide +kernel)
set_option maxRecDepth 20000 in
theorem gX3_member_X3_next : GoodIn wsX3_member (wsV RX3 41 RX3 yX3_next wsX3_next) := goodIn_app (goodIn_of _ (by decide +kernel)) ggX3_member_X3_next
theorem dX3_member_0 : decode cX3_member 0 = .ok (.aload_n 0, 1) := by decide +kernel
theorem dX3_member_1 : decode cX3_member 1 = .ok (.iload_n 1, 1) := by decide +kernel
theorem dX3_member_2 : decode cX3_member 2 = .ok (.invokevirtual 38, 3) := by decide +kernel
theorem dX3_member_5 : decode cX3_member 5 = .ok (.istore_n 3, 1) := by decide +kernel
theorem dX3_member_6 : decode cX3_member 6 = .ok (.iconst 0, 1) := by decide +kernel
theorem dX3_member_7 : decode cX3_member 7 = .ok (.istore 4, 2) := by decide +kernel
theorem dX3_member_9 : decode cX3_member 9 = .ok (.iload 4, 2) := by decide +kernel
theorem dX3_member_11 : decode cX3_member 11 = .ok (.iload_n 2, 1) := by decide +kernel
theorem dX3_member_12 : decode cX3_member 12 = .ok (.if_icmp .ge 22, 3) := by decide +kernel
theorem dX3_member_15 : decode cX3_member 15 = .ok (.iload 4, 2) := by decide +kernel
theorem dX3_member_17 : decode cX3_member 17 = .ok (.bipush 80, 2) := by decide +kernel
theorem dX3_member_19 : decode cX3_member 19 = .ok (.if_icmp .ge 15, 3) := by decide +kernel
theorem dX3_member_22 : decode cX3_member 22 = .ok (.aload_n 0, 1) := by decide +kernel
theorem dX3_member_23 : decode cX3_member 23 = .ok (.iload_n 3, 1) := by decide +kernel
theorem dX3_member_24 : decode cX3_member 24 = .ok (.invokevirtual 41, 3) := by decide +kernel
theorem dX3_member_27 : decode cX3_member 27 = .ok (.istore_n 3, 1) := by decide +kernel
theorem dX3_member_28 : decode cX3_member 28 = .ok (.iinc 4 1, 3) := by decide +kernel
theorem dX3_member_31 : decode cX3_member 31 = .ok (.goto (-22), 3) := by decide +kernel
theorem dX3_member_34 : decode cX3_member 34 = .ok (.iload_n 3, 1) := by decide +kernel
theorem dX3_member_35 : decode cX3_member 35 = .ok (.ireturn, 1) := by decide +kernel
theorem dX3_begin_0 : decode cX3_begin 0 = .ok (.aload_n 0, 1) := by decide +kernel
theorem dX3_begin_1 : decode cX3_begin 1 = .ok (.iload_n 1, 1) := by decide +kernel
theorem dX3_begin_2 : decode cX3_begin 2 = .ok (.bipush 80, 2) := by decide +kernel
theorem dX3_begin_4 : decode cX3_begin 4 = .ok (.invokestatic 43, 3) := by decide +kernel
theorem dX3_begin_7 : decode cX3_begin 7 = .ok (.putfield 24, 3) := by decide +kernel
theorem dX3_begin_10 : decode cX3_begin 10 = .ok (.aload_n 0, 1) := by decide +kernel
theorem dX3_begin_11 : decode cX3_begin 11 = .ok (.iconst 0, 1) := by decide +kernel
theorem dX3_begin_12 : decode cX3_begin 12 = .ok (.putfield 28, 3) := by decide +kernel
theorem dX3_begin_15 : decode cX3_begin 15 = .ok (.return_, 1) := by decide +kernel
set_option maxRecDepth 20000 in
theorem ggX3_link_X3_hasMember : GoodIn wsX3_link wsX3_hasMember := goodIn_r _ [6, 7, 8, 9, 10, 11, 12, 13] (by decide +kernel) (by decide +kernel)
set_option maxRecDepth 20000 in
theorem gX3_link_X3_hasMember : GoodIn wsX3_link (wsV RX3 31 RX3 yX3_hasMember wsX3_hasMember) := goodIn_app (goodIn_of _ (by decide +kernel)) ggX3_link_X3_hasMember
theorem dX3_link_0 : decode cX3_link 0 = .ok (.aload_n 0, 1) := by decide +kernel
theorem dX3_link_1 : decode cX3_link 1 = .ok (.iload_n 1, 1) := by decide +kernel
theorem dX3_link_2 : decode cX3_link 2 = .ok (.invokevirtual 31, 3) := by decide +kernel
theorem dX3_link_5 : decode cX3_link 5 = .ok (.ifCond .eq 10, 3) := by decide +kernel
theorem dX3_link_8 : decode cX3_link 8 = .ok (.aload_n 0, 1) := by decide +kernel
theorem dX3_link_9 : decode cX3_link 9 = .ok (.getfield 9, 3) := by decide +kernel
theorem dX3_link_12 : decode cX3_link 12 = .ok (.iload_n 1, 1) := by decide +kernel
theorem dX3_link_13 : decode cX3_link 13 = .ok (.iload_n 2, 1) := by decide +kernel
theorem dX3_link_14 : decode cX3_link 14 = .ok (.iastore, 1) := by decide +kernel
theorem dX3_link_15 : decode cX3_link 15 = .ok (.return_, 1) := by decide +kernel
set_option maxRecDepth 20000 in
theorem ggX3_trace_J7_fill_53178 : GoodIn wsX3_trace wsJ7_fill_53178 := goodIn_r _ [6] (by decide +kernel) (by decide +kernel)
set_option maxRecDepth 20000 in
theorem gX3_trace_J7_fill_53178 : GoodIn wsX3_trace (va_wsS RX3 49 yJ7_fill_53178 wsJ7_fill_53178) := goodIn_app (goodIn_of _ (by decide +kernel)) ggX3_trace_J7_fill_53178
set_option maxRecDepth 20000 in
theorem ggX3_trace_X3_walk : GoodIn wsX3_trace wsX3_walk := goodIn_r _ [11, 12, 2, 1, 13, 14, 15, 16, 17, 18, 10, 19, 20, 21, 22, 23, 24, 25] (by decide +kernel) (by decide +kernel)
set_option maxRecDepth 20000 in
theorem gX3_trace_X3_walk : GoodIn wsX3_trace (wsV RX3 55 RX3 yX3_walk wsX3_walk) := goodIn_app (goodIn_of _ (by decide +kernel)) ggX3_trace_X3_walk
theorem dX3_trace_0 : decode cX3_trace 0 = .ok (.aload_n 0, 1) := by decide +kernel
theorem dX3_trace_1 : decode cX3_trace 1 = .ok (.getfield 15, 3) := by decide +kernel
theorem dX3_trace_4 : decode cX3_trace 4 = .ok (.iconst (-1), 1) := by decide +kernel
theorem dX3_trace_5 : decode cX3_trace 5 = .ok (.invokestatic 49, 3) := by decide +kernel
theorem dX3_trace_8 : decode cX3_trace 8 = .ok (.iconst 0, 1) := by decide +kernel
theorem dX3_trace_9 : decode cX3_trace 9 = .ok (.istore_n 1, 1) := by decide +kernel
theorem dX3_trace_10 : decode cX3_trace 10 = .ok (.iload_n 1, 1) := by decide +kernel
theorem dX3_trace_11 : decode cX3_trace 11 = .ok (.aload_n 0, 1) := by decide +kernel
theorem dX3_trace_12 : decode cX3_trace 12 = .ok (.getfield 24, 3) := by decide +kernel
theorem dX3_trace_15 : decode cX3_trace 15 = .ok (.if_icmp .ge 23, 3) := by decide +kernel
theorem dX3_trace_18 : decode cX3_trace 18 = .ok (.aload_n 0, 1) := by decide +kernel
theorem dX3_trace_19 : decode cX3_trace 19 = .ok (.getfield 15, 3) := by decide +kernel
theorem dX3_trace_22 : decode cX3_trace 22 = .ok (.iload_n 1, 1) := by decide +kernel
theorem dX3_trace_23 : decode cX3_trace 23 = .ok (.iaload, 1) := by decide +kernel
theorem dX3_trace_24 : decode cX3_trace 24 = .ok (.ifCond .ge 8, 3) := by decide +kernel
theorem dX3_trace_27 : decode cX3_trace 27 = .ok (.aload_n 0, 1) := by decide +kernel
theorem dX3_trace_28 : decode cX3_trace 28 = .ok (.iload_n 1, 1) := by decide +kernel
theorem dX3_trace_29 : decode cX3_trace 29 = .ok (.invokevirtual 55, 3) := by decide +kernel
theorem dX3_trace_32 : decode cX3_trace 32 = .ok (.iinc 1 1, 3) := by decide +kernel
theorem dX3_trace_35 : decode cX3_trace 35 = .ok (.goto (-25), 3) := by decide +kernel
theorem dX3_trace_38 : decode cX3_trace 38 = .ok (.return_, 1) := by decide +kernel
set_option maxRecDepth 20000 in
theorem ggX3_walk_X3_hasMember : GoodIn wsX3_walk wsX3_hasMember := goodIn_r _ [11, 2, 12, 13, 14, 15, 16, 17] (by decide +kernel) (by decide +kernel)
set_option maxRecDepth 20000 in
theorem gX3_walk_X3_hasMember : GoodIn wsX3_walk (wsV RX3 31 RX3 yX3_hasMember wsX3_hasMember) := goodIn_app (goodIn_of _ (by decide +kernel)) ggX3_walk_X3_hasMember
theorem dX3_walk_0 : decode cX3_walk 0 = .ok (.aload_n 0, 1) := by decide +kernel
theorem dX3_walk_1 : decode cX3_walk 1 = .ok (.getfield 28, 3) := by decide +kernel
theorem dX3_walk_4 : decode cX3_walk 4 = .ok (.bipush 80, 2) := by decide +kernel
theorem dX3_walk_6 : decode cX3_walk 6 = .ok (.if_icmp .lt 4, 3) := by decide +kernel
theorem dX3_walk_9 : decode cX3_walk 9 = .ok (.return_, 1) := by decide +kernel
theorem dX3_walk_10 : decode cX3_walk 10 = .ok (.iconst 0, 1) := by decide +kernel
theorem dX3_walk_11 : decode cX3_walk 11 = .ok (.istore_n 2, 1) := by decide +kernel
theorem dX3_walk_12 : decode cX3_walk 12 = .ok (.iload_n 1, 1) := by decide +kernel
theorem dX3_walk_13 : decode cX3_walk 13 = .ok (.istore_n 3, 1) := by decide +kernel
theorem dX3_walk_14 : decode cX3_walk 14 = .ok (.iload_n 2, 1) := by decide +kernel
theorem dX3_walk_15 : decode cX3_walk 15 = .ok (.aload_n 0, 1) := by decide +kernel
theorem dX3_walk_16 : decode cX3_walk 16 = .ok (.getfield 24, 3) := by decide +kernel
theorem dX3_walk_19 : decode cX3_walk 19 = .ok (.if_icmp .ge 43, 3) := by decide +kernel
theorem dX3_walk_22 : decode cX3_walk 22 = .ok (.aload_n 0, 1) := by decide +kernel
theorem dX3_walk_23 : decode cX3_walk 23 = .ok (.iload_n 3, 1) := by decide +kernel
theorem dX3_walk_24 : decode cX3_walk 24 = .ok (.invokevirtual 31, 3) := by decide +kernel
theorem dX3_walk_27 : decode cX3_walk 27 = .ok (.ifCond .eq 35, 3) := by decide +kernel
theorem dX3_walk_30 : decode cX3_walk 30 = .ok (.aload_n 0, 1) := by decide +kernel
theorem dX3_walk_31 : decode cX3_walk 31 = .ok (.getfield 15, 3) := by decide +kernel
theorem dX3_walk_34 : decode cX3_walk 34 = .ok (.iload_n 3, 1) := by decide +kernel
theorem dX3_walk_35 : decode cX3_walk 35 = .ok (.iaload, 1) := by decide +kernel
theorem dX3_walk_36 : decode cX3_walk 36 = .ok (.ifCond .ge 26, 3) := by decide +kernel
theorem dX3_walk_39 : decode cX3_walk 39 = .ok (.aload_n 0, 1) := by decide +kernel
theorem dX3_walk_40 : decode cX3_walk 40 = .ok (.getfield 15, 3) := by decide +kernel
theorem dX3_walk_43 : decode cX3_walk 43 = .ok (.iload_n 3, 1) := by decide +kernel
theorem dX3_walk_44 : decode cX3_walk 44 = .ok (.aload_n 0, 1) := by decide +kernel
theorem dX3_walk_45 : decode cX3_walk 45 = .ok (.getfield 28, 3) := by decide +kernel
theorem dX3_walk_48 : decode cX3_walk 48 = .ok (.iastore, 1) := by decide +kernel
theorem dX3_walk_49 : decode cX3_walk 49 = .ok (.aload_n 0, 1) := by decide +kernel
theorem dX3_walk_50 : decode cX3_walk 50 = .ok (.getfield 9, 3) := by decide +kernel
theorem dX3_walk_53 : decode cX3_walk 53 = .ok (.iload_n 3, 1) := by decide +kernel
theorem dX3_walk_54 : decode cX3_walk 54 = .ok (.iaload, 1) := by decide +kernel
theorem dX3_walk_55 : decode cX3_walk 55 = .ok (.istore_n 3, 1) := by decide +kernel
theorem dX3_walk_56 : decode cX3_walk 56 = .ok (.iinc 2 1, 3) := by decide +kernel
theorem dX3_walk_59 : decode cX3_walk 59 = .ok (.goto (-45), 3) := by decide +kernel
theorem dX3_walk_62 : decode cX3_walk 62 = .ok (.aload_n 0, 1) := by decide +kernel
theorem dX3_walk_63 : decode cX3_walk 63 = .ok (.getfield 18, 3) := by decide +kernel
theorem dX3_walk_66 : decode cX3_walk 66 = .ok (.aload_n 0, 1) := by decide +kernel
theorem dX3_walk_67 : decode cX3_walk 67 = .ok (.getfield 28, 3) := by decide +kernel
theorem dX3_walk_70 : decode cX3_walk 70 = .ok (.iload_n 1, 1) := by decide +kernel
theorem dX3_walk_71 : decode cX3_walk 71 = .ok (.iastore, 1) := by decide +kernel
theorem dX3_walk_72 : decode cX3_walk 72 = .ok (.aload_n 0, 1) := by decide +kernel
theorem dX3_walk_73 : decode cX3_walk 73 = .ok (.getfield 21, 3) := by decide +kernel
theorem dX3_walk_76 : decode cX3_walk 76 = .ok (.aload_n 0, 1) := by decide +kernel
theorem dX3_walk_77 : decode cX3_walk 77 = .ok (.getfield 28, 3) := by decide +kernel
theorem dX3_walk_80 : decode cX3_walk 80 = .ok (.iload_n 2, 1) := by decide +kernel
theorem dX3_walk_81 : decode cX3_walk 81 = .ok (.iastore, 1) := by decide +kernel
theorem dX3_walk_82 : decode cX3_walk 82 = .ok (.aload_n 0, 1) := by decide +kernel
theorem dX3_walk_83 : decode cX3_walk 83 = .ok (.dup, 1) := by decide +kernel
theorem dX3_walk_84 : decode cX3_walk 84 = .ok (.getfield 28, 3) := by decide +kernel
theorem dX3_walk_87 : decode cX3_walk 87 = .ok (.iconst 1, 1) := by decide +kernel
theorem dX3_walk_88 : decode cX3_walk 88 = .ok (.iadd, 1) := by decide +kernel
theorem dX3_walk_89 : decode cX3_walk 89 = .ok (.putfield 28, 3) := by decide +kernel
theorem dX3_walk_92 : decode cX3_walk 92 = .ok (.return_, 1) := by decide +kernel
theorem dX4_init_0 : decode cX4_init 0 = .ok (.aload_n 0, 1) := by decide +kernel
theorem dX4_init_1 : decode cX4_init 1 = .ok (.invokespecial 3, 3) := by decide +kernel
theorem dX4_init_4 : decode cX4_init 4 = .ok (.aload_n 0, 1) := by decide +kernel
theorem dX4_init_5 : decode cX4_init 5 = .ok (.bipush 20, 2) := by decide +kernel
theorem dX4_init_7 : decode cX4_init 7 = .ok (.newarray .int, 2) := by decide +kernel
theorem dX4_init_9 : decode cX4_init 9 = .ok (.putfield 9, 3) := by decide +kernel
theorem dX4_init_12 : decode cX4_init 12 = .ok (.aload_n 0, 1) := by decide +kernel
theorem dX4_init_13 : decode cX4_init 13 = .ok (.bipush 80, 2) := by decide +kernel
theorem dX4_init_15 : decode cX4_init 15 = .ok (.newarray .int, 2) := by decide +kernel
theorem dX4_init_17 : decode cX4_init 17 = .ok (.putfield 15, 3) := by decide +kernel
theorem dX4_init_20 : decode cX4_init 20 = .ok (.aload_n 0, 1) := by decide +kernel
theorem dX4_init_21 : decode cX4_init 21 = .ok (.iconst 0, 1) := by decide +kernel
theorem dX4_init_22 : decode cX4_init 22 = .ok (.putfield 18, 3) := by decide +kernel
theorem dX4_init_25 : decode cX4_init 25 = .ok (.return_, 1) := by decide +kernel
theorem dX4_crossings_0 : decode cX4_crossings 0 = .ok (.aload_n 0, 1) := by decide +kernel
theorem dX4_crossings_1 : decode cX4_crossings 1 = .ok (.getfield 18, 3) := by decide +kernel
theorem dX4_crossings_4 : decode cX4_crossings 4 = .ok (.ireturn, 1) := by decide +kernel
theorem dX4_spots_0 : decode cX4_spots 0 = .ok (.iconst 4, 1) := by decide +kernel
theorem dX4_spots_1 : decode cX4_spots 1 = .ok (.aload_n 0, 1) := by decide +kernel
theorem dX4_spots_2 : decode cX4_spots 2 = .ok (.getfield 18, 3) := by decide +kernel
theorem dX4_spots_5 : decode cX4_spots 5 = .ok (.imul, 1) := by decide +kernel
theorem dX4_spots_6 : decode cX4_spots 6 = .ok (.ireturn, 1) := by decide +kernel
theorem dX4_has_0 : decode cX4_has 0 = .ok (.iload_n 1, 1) := by decide +kernel
theorem dX4_has_1 : decode cX4_has 1 = .ok (.ifCond .lt 15, 3) := by decide +kernel
theorem dX4_has_4 : decode cX4_has 4 = .ok (.iload_n 1, 1) := by decide +kernel
theorem dX4_has_5 : decode cX4_has 5 = .ok (.aload_n 0, 1) := by decide +kernel
theorem dX4_has_6 : decode cX4_has 6 = .ok (.getfield 18, 3) := by decide +kernel
theorem dX4_has_9 : decode cX4_has 9 = .ok (.if_icmp .ge 7, 3) := by decide +kernel
theorem dX4_has_12 : decode cX4_has 12 = .ok (.iconst 1, 1) := by decide +kernel
theorem dX4_has_13 : decode cX4_has 13 = .ok (.goto 4, 3) := by decide +kernel
theorem dX4_has_16 : decode cX4_has 16 = .ok (.iconst 0, 1) := by decide +kernel
theorem dX4_has_17 : decode cX4_has 17 = .ok (.ireturn, 1) := by decide +kernel
set_option maxRecDepth 20000 in
theorem ggX4_sign_X4_has : GoodIn wsX4_sign wsX4_has := goodIn_r _ [6, 7, 8, 9, 10] (by decide +kernel) (by decide +kernel)
set_option maxRecDepth 20000 in
theorem gX4_sign_X4_has : GoodIn wsX4_sign (wsV RX4 22 RX4 yX4_has wsX4_has) := goodIn_app (goodIn_of _ (by decide +kernel)) ggX4_sign_X4_has
theorem dX4_sign_0 : decode cX4_sign 0 = .ok (.aload_n 0, 1) := by decide +kernel
theorem dX4_sign_1 : decode cX4_sign 1 = .ok (.iload_n 1, 1) := by decide +kernel
theorem dX4_sign_2 : decode cX4_sign 2 = .ok (.invokevirtual 22, 3) := by decide +kernel
theorem dX4_sign_5 : decode cX4_sign 5 = .ok (.ifCond .eq 12, 3) := by decide +kernel
theorem dX4_sign_8 : decode cX4_sign 8 = .ok (.aload_n 0, 1) := by decide +kernel
theorem dX4_sign_9 : decode cX4_sign 9 = .ok (.getfield 9, 3) := by decide +kernel
theorem dX4_sign_12 : decode cX4_sign 12 = .ok (.iload_n 1, 1) := by decide +kernel
theorem dX4_sign_13 : decode cX4_sign 13 = .ok (.iaload, 1) := by decide +kernel
theorem dX4_sign_14 : decode cX4_sign 14 = .ok (.goto 4, 3) := by decide +kernel
theorem dX4_sign_17 : decode cX4_sign 17 = .ok (.iconst 0, 1) := by decide +kernel
theorem dX4_sign_18 : decode cX4_sign 18 = .ok (.ireturn, 1) := by decide +kernel
set_option maxRecDepth 20000 in
theorem ggX4_label_X4_spots : GoodIn wsX4_label wsX4_spots := goodIn_r _ [6, 7, 8, 9, 10] (by decide +kernel) (by decide +kernel)
set_option maxRecDepth 20000 in
theorem gX4_label_X4_spots : GoodIn wsX4_label (wsV RX4 26 RX4 yX4_spots wsX4_spots) := goodIn_app (goodIn_of _ (by decide +kernel)) ggX4_label_X4_spots
theorem dX4_label_0 : decode cX4_label 0 = .ok (.iload_n 1, 1) := by decide +kernel
theorem dX4_label_1 : decode cX4_label 1 = .ok (.ifCond .lt 20, 3) := by decide +kernel
theorem dX4_label_4 : decode cX4_label 4 = .ok (.iload_n 1, 1) := by decide +kernel
theorem dX4_label_5 : decode cX4_label 5 = .ok (.aload_n 0, 1) := by decide +kernel
theorem dX4_label_6 : decode cX4_label 6 = .ok (.invokevirtual 26, 3) := by decide +kernel
theorem dX4_label_9 : decode cX4_label 9 = .ok (.if_icmp .ge 12, 3) := by decide +kernel
theorem dX4_label_12 : decode cX4_label 12 = .ok (.aload_n 0, 1) := by decide +kernel
theorem dX4_label_13 : decode cX4_label 13 = .ok (.getfield 15, 3) := by decide +kernel
theorem dX4_label_16 : decode cX4_label 16 = .ok (.iload_n 1, 1) := by decide +kernel
theorem dX4_label_17 : decode cX4_label 17 = .ok (.iaload, 1) := by decide +kernel
theorem dX4_label_18 : decode cX4_label 18 = .ok (.goto 4, 3) := by decide +kernel
theorem dX4_label_21 : decode cX4_label 21 = .ok (.iconst 0, 1) := by decide +kernel
theorem dX4_label_22 : decode cX4_label 22 = .ok (.ireturn, 1) := by decide +kernel
set_option maxRecDepth 20000 in
theorem ggX4_setLabel_X4_spots : GoodIn wsX4_setLabel wsX4_spots := goodIn_r _ [6, 7, 8, 9, 10] (by decide +kernel) (by decide +kernel)
set_option maxRecDepth 20000 in
theorem gX4_setLabel_X4_spots : GoodIn wsX4_setLabel (wsV RX4 26 RX4 yX4_spots wsX4_spots) := goodIn_app (goodIn_of _ (by decide +kernel)) ggX4_setLabel_X4_spots
theorem dX4_setLabel_0 : decode cX4_setLabel 0 = .ok (.iload_n 1, 1) := by decide +kernel
theorem dX4_setLabel_1 : decode cX4_setLabel 1 = .ok (.ifCond .lt 18, 3) := by decide +kernel
theorem dX4_setLabel_4 : decode cX4_setLabel 4 = .ok (.iload_n 1, 1) := by decide +kernel
theorem dX4_setLabel_5 : decode cX4_setLabel 5 = .ok (.aload_n 0, 1) := by decide +kernel
theorem dX4_setLabel_6 : decode cX4_setLabel 6 = .ok (.invokevirtual 26, 3) := by decide +kernel
theorem dX4_setLabel_9 : decode cX4_setLabel 9 = .ok (.if_icmp .ge 10, 3) := by decide +kernel
theorem dX4_setLabel_12 : decode cX4_setLabel 12 = .ok (.aload_n 0, 1) := by decide +kernel
theorem dX4_setLabel_13 : decode cX4_setLabel 13 = .ok (.getfield 15, 3) := by decide +kernel
theorem dX4_setLabel_16 : decode cX4_setLabel 16 = .ok (.iload_n 1, 1) := by decide +kernel
theorem dX4_setLabel_17 : decode cX4_setLabel 17 = .ok (.iload_n 2, 1) := by decide +kernel
theorem dX4_setLabel_18 : decode cX4_setLabel 18 = .ok (.iastore, 1) := by decide +kernel
theorem dX4_setLabel_19 : decode cX4_setLabel 19 = .ok (.return_, 1) := by decide +kernel
theorem dX4_clear_0 : decode cX4_clear 0 = .ok (.aload_n 0, 1) := by decide +kernel
theorem dX4_clear_1 : decode cX4_clear 1 = .ok (.iconst 0, 1) := by decide +kernel
theorem dX4_clear_2 : decode cX4_clear 2 = .ok (.putfield 18, 3) := by decide +kernel
theorem dX4_clear_5 : decode cX4_clear 5 = .ok (.return_, 1) := by decide +kernel
theorem dX4_append_0 : decode cX4_append 0 = .ok (.aload_n 0, 1) := by decide +kernel
theorem dX4_append_1 : decode cX4_append 1 = .ok (.getfield 18, 3) := by decide +kernel
theorem dX4_append_4 : decode cX4_append 4 = .ok (.bipush 20, 2) := by decide +kernel
theorem dX4_append_6 : decode cX4_append 6 = .ok (.if_icmp .lt 5, 3) := by decide +kernel
theorem dX4_append_9 : decode cX4_append 9 = .ok (.iconst 0, 1) := by decide +kernel
theorem dX4_append_10 : decode cX4_append 10 = .ok (.ireturn, 1) := by decide +kernel
theorem dX4_append_11 : decode cX4_append 11 = .ok (.iconst 4, 1) := by decide +kernel
theorem dX4_append_12 : decode cX4_append 12 = .ok (.aload_n 0, 1) := by decide +kernel
theorem dX4_append_13 : decode cX4_append 13 = .ok (.getfield 18, 3) := by decide +kernel
theorem dX4_append_16 : decode cX4_append 16 = .ok (.imul, 1) := by decide +kernel
theorem dX4_append_17 : decode cX4_append 17 = .ok (.istore 6, 2) := by decide +kernel
theorem dX4_append_19 : decode cX4_append 19 = .ok (.aload_n 0, 1) := by decide +kernel
theorem dX4_append_20 : decode cX4_append 20 = .ok (.getfield 9, 3) := by decide +kernel
theorem dX4_append_23 : decode cX4_append 23 = .ok (.aload_n 0, 1) := by decide +kernel
theorem dX4_append_24 : decode cX4_append 24 = .ok (.getfield 18, 3) := by decide +kernel
theorem dX4_append_27 : decode cX4_append 27 = .ok (.iload_n 1, 1) := by decide +kernel
theorem dX4_append_28 : decode cX4_append 28 = .ok (.iastore, 1) := by decide +kernel
theorem dX4_append_29 : decode cX4_append 29 = .ok (.aload_n 0, 1) := by decide +kernel
theorem dX4_append_30 : decode cX4_append 30 = .ok (.getfield 15, 3) := by decide +kernel
theorem dX4_append_33 : decode cX4_append 33 = .ok (.iload 6, 2) := by decide +kernel
theorem dX4_append_35 : decode cX4_append 35 = .ok (.iload_n 2, 1) := by decide +kernel
theorem dX4_append_36 : decode cX4_append 36 = .ok (.iastore, 1) := by decide +kernel
theorem dX4_append_37 : decode cX4_append 37 = .ok (.aload_n 0, 1) := by decide +kernel
theorem dX4_append_38 : decode cX4_append 38 = .ok (.getfield 15, 3) := by decide +kernel
theorem dX4_append_41 : decode cX4_append 41 = .ok (.iload 6, 2) := by decide +kernel
theorem dX4_append_43 : decode cX4_append 43 = .ok (.iconst 1, 1) := by decide +kernel
theorem dX4_append_44 : decode cX4_append 44 = .ok (.iadd, 1) := by decide +kernel
theorem dX4_append_45 : decode cX4_append 45 = .ok (.iload_n 3, 1) := by decide +kernel
theorem dX4_append_46 : decode cX4_append 46 = .ok (.iastore, 1) := by decide +kernel
theorem dX4_append_47 : decode cX4_append 47 = .ok (.aload_n 0, 1) := by decide +kernel
theorem dX4_append_48 : decode cX4_append 48 = .ok (.getfield 15, 3) := by decide +kernel
theorem dX4_append_51 : decode cX4_append 51 = .ok (.iload 6, 2) := by decide +kernel
theorem dX4_append_53 : decode cX4_append 53 = .ok (.iconst 2, 1) := by decide +kernel
theorem dX4_append_54 : decode cX4_append 54 = .ok (.iadd, 1) := by decide +kernel
theorem dX4_append_55 : decode cX4_append 55 = .ok (.iload 4, 2) := by decide +kernel
theorem dX4_append_57 : decode cX4_append 57 = .ok (.iastore, 1) := by decide +kernel
theorem dX4_append_58 : decode cX4_append 58 = .ok (.aload_n 0, 1) := by decide +kernel
theorem dX4_append_59 : decode cX4_append 59 = .ok (.getfield 15, 3) := by decide +kernel
theorem dX4_append_62 : decode cX4_append 62 = .ok (.iload 6, 2) := by decide +kernel
theorem dX4_append_64 : decode cX4_append 64 = .ok (.iconst 3, 1) := by decide +kernel
theorem dX4_append_65 : decode cX4_append 65 = .ok (.iadd, 1) := by decide +kernel
theorem dX4_append_66 : decode cX4_append 66 = .ok (.iload 5, 2) := by decide +kernel
theorem dX4_append_68 : decode cX4_append 68 = .ok (.iastore, 1) := by decide +kernel
theorem dX4_append_69 : decode cX4_append 69 = .ok (.aload_n 0, 1) := by decide +kernel
theorem dX4_append_70 : decode cX4_append 70 = .ok (.dup, 1) := by decide +kernel
theorem dX4_append_71 : decode cX4_append 71 = .ok (.getfield 18, 3) := by decide +kernel
theorem dX4_append_74 : decode cX4_append 74 = .ok (.iconst 1, 1) := by decide +kernel
theorem dX4_append_75 : decode cX4_append 75 = .ok (.iadd, 1) := by decide +kernel
theorem dX4_append_76 : decode cX4_append 76 = .ok (.putfield 18, 3) := by decide +kernel
theorem dX4_append_79 : decode cX4_append 79 = .ok (.iconst 1, 1) := by decide +kernel
theorem dX4_append_80 : decode cX4_append 80 = .ok (.ireturn, 1) := by decide +kernel
set_option maxRecDepth 20000 in
theorem ggX4_upperIn_X4_sign : GoodIn wsX4_upperIn wsX4_sign := goodIn_r _ [5, 6, 7, 8, 9, 4, 10, 11, 12, 13, 14] (by decide +kernel) (by decide +kernel)
set_option maxRecDepth 20000 in
theorem gX4_upperIn_X4_sign : GoodIn wsX4_upperIn (wsV RX4 30 RX4 yX4_sign wsX4_sign) := goodIn_app (goodIn_of _ (by decide +kernel)) ggX4_upperIn_X4_sign
theorem dX4_upperIn_0 : decode cX4_upperIn 0 = .ok (.iconst 4, 1) := by decide +kernel
theorem dX4_upperIn_1 : decode cX4_upperIn 1 = .ok (.iload_n 1, 1) := by decide +kernel
theorem dX4_upperIn_2 : decode cX4_upperIn 2 = .ok (.imul, 1) := by decide +kernel
theorem dX4_upperIn_3 : decode cX4_upperIn 3 = .ok (.aload_n 0, 1) := by decide +kernel
theorem dX4_upperIn_4 : decode cX4_upperIn 4 = .ok (.iload_n 1, 1) := by decide +kernel
theorem dX4_upperIn_5 : decode cX4_upperIn 5 = .ok (.invokevirtual 30, 3) := by decide +kernel
theorem dX4_upperIn_8 : decode cX4_upperIn 8 = .ok (.iconst 1, 1) := by decide +kernel
theorem dX4_upperIn_9 : decode cX4_upperIn 9 = .ok (.if_icmp .ne 7, 3) := by decide +kernel
theorem dX4_upperIn_12 : decode cX4_upperIn 12 = .ok (.iconst 3, 1) := by decide +kernel
theorem dX4_upperIn_13 : decode cX4_upperIn 13 = .ok (.goto 4, 3) := by decide +kernel
theorem dX4_upperIn_16 : decode cX4_upperIn 16 = .ok (.iconst 1, 1) := by decide +kernel
theorem dX4_upperIn_17 : decode cX4_upperIn 17 = .ok (.iadd, 1) := by decide +kernel
theorem dX4_upperIn_18 : decode cX4_upperIn 18 = .ok (.ireturn, 1) := by decide +kernel
set_option maxRecDepth 20000 in
theorem ggX4_upperOut_X4_sign : GoodIn wsX4_upperOut wsX4_sign := goodIn_r _ [5, 6, 7, 8, 9, 4, 10, 11, 12, 13, 14] (by decide +kernel) (by decide +kernel)
set_option maxRecDepth 20000 in
theorem gX4_upperOut_X4_sign : GoodIn wsX4_upperOut (wsV RX4 30 RX4 yX4_sign wsX4_sign) := goodIn_app (goodIn_of _ (by decide +kernel)) ggX4_upperOut_X4_sign
theorem dX4_upperOut_0 : decode cX4_upperOut 0 = .ok (.iconst 4, 1) := by decide +kernel
theorem dX4_upperOut_1 : decode cX4_upperOut 1 = .ok (.iload_n 1, 1) := by decide +kernel
theorem dX4_upperOut_2 : decode cX4_upperOut 2 = .ok (.imul, 1) := by decide +kernel
theorem dX4_upperOut_3 : decode cX4_upperOut 3 = .ok (.aload_n 0, 1) := by decide +kernel
theorem dX4_upperOut_4 : decode cX4_upperOut 4 = .ok (.iload_n 1, 1) := by decide +kernel
theorem dX4_upperOut_5 : decode cX4_upperOut 5 = .ok (.invokevirtual 30, 3) := by decide +kernel
theorem dX4_upperOut_8 : decode cX4_upperOut 8 = .ok (.iconst 1, 1) := by decide +kernel
theorem dX4_upperOut_9 : decode cX4_upperOut 9 = .ok (.if_icmp .ne 7, 3) := by decide +kernel
theorem dX4_upperOut_12 : decode cX4_upperOut 12 = .ok (.iconst 1, 1) := by decide +kernel
theorem dX4_upperOut_13 : decode cX4_upperOut 13 = .ok (.goto 4, 3) := by decide +kernel
theorem dX4_upperOut_16 : decode cX4_upperOut 16 = .ok (.iconst 3, 1) := by decide +kernel
theorem dX4_upperOut_17 : decode cX4_upperOut 17 = .ok (.iadd, 1) := by decide +kernel
theorem dX4_upperOut_18 : decode cX4_upperOut 18 = .ok (.ireturn, 1) := by decide +kernel
set_option maxRecDepth 20000 in
theorem ggX4_goesOut_X4_lowerOut : GoodIn wsX4_goesOut wsX4_lowerOut := goodIn_r _ [4] (by decide +kernel) (by decide +kernel)
set_option maxRecDepth 20000 in
theorem gX4_goesOut_X4_lowerOut : GoodIn wsX4_goesOut (va_wsS RX4 34 yX4_lowerOut wsX4_lowerOut) := goodIn_app (goodIn_of _ (by decide +kernel)) ggX4_goesOut_X4_lowerOut
set_option maxRecDepth 20000 in
theorem ggX4_goesOut_X4_upperOut : GoodIn wsX4_goesOut wsX4_upperOut := goodIn_r _ [8, 9, 10, 11, 3, 12, 13, 14, 15, 16, 17, 18, 19, 20, 21] (by decide +kernel) (by decide +kernel)
set_option maxRecDepth 20000 in
theorem gX4_goesOut_X4_upperOut : GoodIn wsX4_goesOut (wsV RX4 37 RX4 yX4_upperOut wsX4_upperOut) := goodIn_app (goodIn_of _ (by decide +kernel)) ggX4_goesOut_X4_upperOut
theorem dX4_goesOut_0 : decode cX4_goesOut 0 = .ok (.iload_n 1, 1) := by decide +kernel
theorem dX4_goesOut_1 : decode cX4_goesOut 1 = .ok (.iconst 4, 1) := by decide +kernel
theorem dX4_goesOut_2 : decode cX4_goesOut 2 = .ok (.idiv, 1) := by decide +kernel
theorem dX4_goesOut_3 : decode cX4_goesOut 3 = .ok (.istore_n 2, 1) := by decide +kernel
theorem dX4_goesOut_4 : decode cX4_goesOut 4 = .ok (.iload_n 1, 1) := by decide +kernel
theorem dX4_goesOut_5 : decode cX4_goesOut 5 = .ok (.iload_n 2, 1) := by decide +kernel
theorem dX4_goesOut_6 : decode cX4_goesOut 6 = .ok (.invokestatic 34, 3) := by decide +kernel
theorem dX4_goesOut_9 : decode cX4_goesOut 9 = .ok (.if_icmp .eq 12, 3) := by decide +kernel
theorem dX4_goesOut_12 : decode cX4_goesOut 12 = .ok (.iload_n 1, 1) := by decide +kernel
theorem dX4_goesOut_13 : decode cX4_goesOut 13 = .ok (.aload_n 0, 1) := by decide +kernel
theorem dX4_goesOut_14 : decode cX4_goesOut 14 = .ok (.iload_n 2, 1) := by decide +kernel
theorem dX4_goesOut_15 : decode cX4_goesOut 15 = .ok (.invokevirtual 37, 3) := by decide +kernel
theorem dX4_goesOut_18 : decode cX4_goesOut 18 = .ok (.if_icmp .ne 7, 3) := by decide +kernel
theorem dX4_goesOut_21 : decode cX4_goesOut 21 = .ok (.iconst 1, 1) := by decide +kernel
theorem dX4_goesOut_22 : decode cX4_goesOut 22 = .ok (.goto 4, 3) := by decide +kernel
theorem dX4_goesOut_25 : decode cX4_goesOut 25 = .ok (.iconst 0, 1) := by decide +kernel
theorem dX4_goesOut_26 : decode cX4_goesOut 26 = .ok (.ireturn, 1) := by decide +kernel
set_option maxRecDepth 20000 in
theorem ggX4_seifertOut_X4_isUpper : GoodIn wsX4_seifertOut wsX4_isUpper := goodIn_r _ [4] (by decide +kernel) (by decide +kernel)
set_option maxRecDepth 20000 in
theorem gX4_seifertOut_X4_isUpper : GoodIn wsX4_seifertOut (va_wsS RX4 40 yX4_isUpper wsX4_isUpper) := goodIn_app (goodIn_of _ (by decide +kernel)) ggX4_seifertOut_X4_isUpper
set_option maxRecDepth 20000 in
theorem ggX4_seifertOut_X4_lowerOut : GoodIn wsX4_seifertOut wsX4_lowerOut := goodIn_r _ [7] (by decide +kernel) (by decide +kernel)
set_option maxRecDepth 20000 in
theorem gX4_seifertOut_X4_lowerOut : GoodIn wsX4_seifertOut (va_wsS RX4 34 yX4_lowerOut wsX4_lowerOut) := goodIn_app (goodIn_of _ (by decide +kernel)) ggX4_seifertOut_X4_lowerOut
set_option maxRecDepth 20000 in
theorem ggX4_seifertOut_X4_upperOut : GoodIn wsX4_seifertOut wsX4_upperOut := goodIn_r _ [11, 12, 13, 14, 3, 15, 16, 17, 18, 19, 20, 21, 22, 23, 24] (by decide +kernel) (by decide +kernel)
set_option maxRecDepth 20000 in
theorem gX4_seifertOut_X4_upperOut : GoodIn wsX4_seifertOut (wsV RX4 37 RX4 yX4_upperOut wsX4_upperOut) := goodIn_app (goodIn_of _ (by decide +kernel)) ggX4_seifertOut_X4_upperOut
theorem dX4_seifertOut_0 : decode cX4_seifertOut 0 = .ok (.iload_n 1, 1) := by decide +kernel
theorem dX4_seifertOut_1 : decode cX4_seifertOut 1 = .ok (.iconst 4, 1) := by decide +kernel
theorem dX4_seifertOut_2 : decode cX4_seifertOut 2 = .ok (.idiv, 1) := by decide +kernel
theorem dX4_seifertOut_3 : decode cX4_seifertOut 3 = .ok (.istore_n 2, 1) := by decide +kernel
theorem dX4_seifertOut_4 : decode cX4_seifertOut 4 = .ok (.iload_n 1, 1) := by decide +kernel
theorem dX4_seifertOut_5 : decode cX4_seifertOut 5 = .ok (.invokestatic 40, 3) := by decide +kernel
theorem dX4_seifertOut_8 : decode cX4_seifertOut 8 = .ok (.ifCond .eq 10, 3) := by decide +kernel
theorem dX4_seifertOut_11 : decode cX4_seifertOut 11 = .ok (.iload_n 2, 1) := by decide +kernel
theorem dX4_seifertOut_12 : decode cX4_seifertOut 12 = .ok (.invokestatic 34, 3) := by decide +kernel
theorem dX4_seifertOut_15 : decode cX4_seifertOut 15 = .ok (.goto 8, 3) := by decide +kernel
theorem dX4_seifertOut_18 : decode cX4_seifertOut 18 = .ok (.aload_n 0, 1) := by decide +kernel
theorem dX4_seifertOut_19 : decode cX4_seifertOut 19 = .ok (.iload_n 2, 1) := by decide +kernel
theorem dX4_seifertOut_20 : decode cX4_seifertOut 20 = .ok (.invokevirtual 37, 3) := by decide +kernel
theorem dX4_seifertOut_23 : decode cX4_seifertOut 23 = .ok (.ireturn, 1) := by decide +kernel
theorem dX4_sumOfSigns_0 : decode cX4_sumOfSigns 0 = .ok (.iconst 0, 1) := by decide +kernel
theorem dX4_sumOfSigns_1 : decode cX4_sumOfSigns 1 = .ok (.istore_n 1, 1) := by decide +kernel
theorem dX4_sumOfSigns_2 : decode cX4_sumOfSigns 2 = .ok (.iconst 0, 1) := by decide +kernel
theorem dX4_sumOfSigns_3 : decode cX4_sumOfSigns 3 = .ok (.istore_n 2, 1) := by decide +kernel
theorem dX4_sumOfSigns_4 : decode cX4_sumOfSigns 4 = .ok (.iload_n 2, 1) := by decide +kernel
theorem dX4_sumOfSigns_5 : decode cX4_sumOfSigns 5 = .ok (.aload_n 0, 1) := by decide +kernel
theorem dX4_sumOfSigns_6 : decode cX4_sumOfSigns 6 = .ok (.getfield 18, 3) := by decide +kernel
theorem dX4_sumOfSigns_9 : decode cX4_sumOfSigns 9 = .ok (.if_icmp .ge 18, 3) := by decide +kernel
theorem dX4_sumOfSigns_12 : decode cX4_sumOfSigns 12 = .ok (.iload_n 1, 1) := by decide +kernel
theorem dX4_sumOfSigns_13 : decode cX4_sumOfSigns 13 = .ok (.aload_n 0, 1) := by decide +kernel
theorem dX4_sumOfSigns_14 : decode cX4_sumOfSigns 14 = .ok (.getfield 9, 3) := by decide +kernel
theorem dX4_sumOfSigns_17 : decode cX4_sumOfSigns 17 = .ok (.iload_n 2, 1) := by decide +kernel
theorem dX4_sumOfSigns_18 : decode cX4_sumOfSigns 18 = .ok (.iaload, 1) := by decide +kernel
theorem dX4_sumOfSigns_19 : decode cX4_sumOfSigns 19 = .ok (.iadd, 1) := by decide +kernel
theorem dX4_sumOfSigns_20 : decode cX4_sumOfSigns 20 = .ok (.istore_n 1, 1) := by decide +kernel
theorem dX4_sumOfSigns_21 : decode cX4_sumOfSigns 21 = .ok (.iinc 2 1, 3) := by decide +kernel
theorem dX4_sumOfSigns_24 : decode cX4_sumOfSigns 24 = .ok (.goto (-20), 3) := by decide +kernel
theorem dX4_sumOfSigns_27 : decode cX4_sumOfSigns 27 = .ok (.iload_n 1, 1) := by decide +kernel
theorem dX4_sumOfSigns_28 : decode cX4_sumOfSigns 28 = .ok (.ireturn, 1) := by decide +kernel
set_option maxRecDepth 20000 in
theorem ggX4_exchangeStrands_X4_upperIn : GoodIn wsX4_exchangeStrands wsX4_upperIn := goodIn_r _ [5, 6, 7, 8, 4, 9, 10, 11, 12, 13, 14, 15, 25, 26, 27] (by decide +kernel) (by decide +kernel)
set_option maxRecDepth 20000 in
theorem gX4_exchangeStrands_X4_upperIn : GoodIn wsX4_exchangeStrands (wsV RX4 43 RX4 yX4_upperIn wsX4_upperIn) := goodIn_app (goodIn_of _ (by decide +kernel)) ggX4_exchangeStrands_X4_upperIn
set_option maxRecDepth 20000 in
theorem ggX4_exchangeStrands_X4_beginPlacesAt : GoodIn wsX4_exchangeStrands wsX4_beginPlacesAt := goodIn_r _ [19, 20, 11, 12, 13, 4, 14, 15, 25, 26, 27] (by decide +kernel) (by decide +kernel)
set_option maxRecDepth 20000 in
theorem gX4_exchangeStrands_X4_beginPlacesAt : GoodIn wsX4_exchangeStrands (wsV RX4 46 RX4 yX4_beginPlacesAt wsX4_beginPlacesAt) := goodIn_app (goodIn_of _ (by decide +kernel)) ggX4_exchangeStrands_X4_beginPlacesAt
set_option maxRecDepth 20000 in
theorem ggX4_exchangeStrands_X4_flipSign : GoodIn wsX4_exchangeStrands wsX4_flipSign := goodIn_r _ [24, 10, 11, 12, 13, 4, 14, 15, 25, 26, 27] (by decide +kernel) (by decide +kernel)
set_option maxRecDepth 20000 in
theorem gX4_exchangeStrands_X4_flipSign : GoodIn wsX4_exchangeStrands (wsV RX4 50 RX4 yX4_flipSign wsX4_flipSign) := goodIn_app (goodIn_of _ (by decide +kernel)) ggX4_exchangeStrands_X4_flipSign
theorem dX4_exchangeStrands_0 : decode cX4_exchangeStrands 0 = .ok (.aload_n 0, 1) := by decide +kernel
theorem dX4_exchangeStrands_1 : decode cX4_exchangeStrands 1 = .ok (.iload_n 1, 1) := by decide +kernel
theorem dX4_exchangeStrands_2 : decode cX4_exchangeStrands 2 = .ok (.aload_n 0, 1) := by decide +kernel
theorem dX4_exchangeStrands_3 : decode cX4_exchangeStrands 3 = .ok (.iload_n 1, 1) := by decide +kernel
theorem dX4_exchangeStrands_4 : decode cX4_exchangeStrands 4 = .ok (.invokevirtual 43, 3) := by decide +kernel
theorem dX4_exchangeStrands_7 : decode cX4_exchangeStrands 7 = .ok (.iconst 4, 1) := by decide +kernel
theorem dX4_exchangeStrands_8 : decode cX4_exchangeStrands 8 = .ok (.irem, 1) := by decide +kernel
theorem dX4_exchangeStrands_9 : decode cX4_exchangeStrands 9 = .ok (.invokevirtual 46, 3) := by decide +kernel
theorem dX4_exchangeStrands_12 : decode cX4_exchangeStrands 12 = .ok (.aload_n 0, 1) := by decide +kernel
theorem dX4_exchangeStrands_13 : decode cX4_exchangeStrands 13 = .ok (.iload_n 1, 1) := by decide +kernel
theorem dX4_exchangeStrands_14 : decode cX4_exchangeStrands 14 = .ok (.invokevirtual 50, 3) := by decide +kernel
theorem dX4_exchangeStrands_17 : decode cX4_exchangeStrands 17 = .ok (.return_, 1) := by decide +kernel
set_option maxRecDepth 20000 in
theorem ggX4_exchangeAllStrands_X4_exchangeStrands : GoodIn wsX4_exchangeAllStrands wsX4_exchangeStrands := goodIn_r _ [6, 7, 8, 9, 5, 10, 11, 12, 13, 14, 15, 16, 17, 18, 19, 1, 20, 21, 22, 23, 24, 25, 26, 27, 28, 29, 30, 31] (by decide +kernel) (by decide +kernel)
end
section
set_option maxRecDepth 20000 in
theorem gX4_exchangeAllStrands_X4_exchangeStrands : GoodIn wsX4_exchangeAllStrands (wsV RX4 54 RX4 yX4_exchangeStrands wsX4_exchangeStrands) := goodIn_app (goodIn_of _ (by decide +kernel)) ggX4_exchangeAllStrands_X4_exchangeStrands
theorem dX4_exchangeAllStrands_0 : decode cX4_exchangeAllStrands 0 = .ok (.iconst 0, 1) := by decide +kernel
theorem dX4_exchangeAllStrands_1 : decode cX4_exchangeAllStrands 1 = .ok (.istore_n 1, 1) := by decide +kernel
theorem dX4_exchangeAllStrands_2 : decode cX4_exchangeAllStrands 2 = .ok (.iload_n 1, 1) := by decide +kernel
theorem dX4_exchangeAllStrands_3 : decode cX4_exchangeAllStrands 3 = .ok (.aload_n 0, 1) := by decide +kernel
theorem dX4_exchangeAllStrands_4 : decode cX4_exchangeAllStrands 4 = .ok (.getfield 18, 3) := by decide +kernel
theorem dX4_exchangeAllStrands_7 : decode cX4_exchangeAllStrands 7 = .ok (.if_icmp .ge 14, 3) := by decide +kernel
theorem dX4_exchangeAllStrands_10 : decode cX4_exchangeAllStrands 10 = .ok (.aload_n 0, 1) := by decide +kernel
theorem dX4_exchangeAllStrands_11 : decode cX4_exchangeAllStrands 11 = .ok (.iload_n 1, 1) := by decide +kernel
theorem dX4_exchangeAllStrands_12 : decode cX4_exchangeAllStrands 12 = .ok (.invokevirtual 54, 3) := by decide +kernel
theorem dX4_exchangeAllStrands_15 : decode cX4_exchangeAllStrands 15 = .ok (.iinc 1 1, 3) := by decide +kernel
theorem dX4_exchangeAllStrands_18 : decode cX4_exchangeAllStrands 18 = .ok (.goto (-16), 3) := by decide +kernel
theorem dX4_exchangeAllStrands_21 : decode cX4_exchangeAllStrands 21 = .ok (.return_, 1) := by decide +kernel
set_option maxRecDepth 20000 in
theorem ggX4_turnStrands_X4_beginPlacesAt : GoodIn wsX4_turnStrands wsX4_beginPlacesAt := goodIn_r _ [5, 6, 7, 8, 9, 4, 10, 11, 17, 18, 19] (by decide +kernel) (by decide +kernel)
set_option maxRecDepth 20000 in
theorem gX4_turnStrands_X4_beginPlacesAt : GoodIn wsX4_turnStrands (wsV RX4 46 RX4 yX4_beginPlacesAt wsX4_beginPlacesAt) := goodIn_app (goodIn_of _ (by decide +kernel)) ggX4_turnStrands_X4_beginPlacesAt
set_option maxRecDepth 20000 in
theorem ggX4_turnStrands_X4_flipSign : GoodIn wsX4_turnStrands wsX4_flipSign := goodIn_r _ [15, 16, 7, 8, 9, 4, 10, 11, 17, 18, 19] (by decide +kernel) (by decide +kernel)
set_option maxRecDepth 20000 in
theorem gX4_turnStrands_X4_flipSign : GoodIn wsX4_turnStrands (wsV RX4 50 RX4 yX4_flipSign wsX4_flipSign) := goodIn_app (goodIn_of _ (by decide +kernel)) ggX4_turnStrands_X4_flipSign
theorem dX4_turnStrands_0 : decode cX4_turnStrands 0 = .ok (.iload_n 2, 1) := by decide +kernel
theorem dX4_turnStrands_1 : decode cX4_turnStrands 1 = .ok (.ifCond .eq 9, 3) := by decide +kernel
theorem dX4_turnStrands_4 : decode cX4_turnStrands 4 = .ok (.aload_n 0, 1) := by decide +kernel
theorem dX4_turnStrands_5 : decode cX4_turnStrands 5 = .ok (.iload_n 1, 1) := by decide +kernel
theorem dX4_turnStrands_6 : decode cX4_turnStrands 6 = .ok (.iconst 2, 1) := by decide +kernel
theorem dX4_turnStrands_7 : decode cX4_turnStrands 7 = .ok (.invokevirtual 46, 3) := by decide +kernel
theorem dX4_turnStrands_10 : decode cX4_turnStrands 10 = .ok (.iload_n 2, 1) := by decide +kernel
theorem dX4_turnStrands_11 : decode cX4_turnStrands 11 = .ok (.iload_n 3, 1) := by decide +kernel
theorem dX4_turnStrands_12 : decode cX4_turnStrands 12 = .ok (.if_icmp .eq 8, 3) := by decide +kernel
theorem dX4_turnStrands_15 : decode cX4_turnStrands 15 = .ok (.aload_n 0, 1) := by decide +kernel
theorem dX4_turnStrands_16 : decode cX4_turnStrands 16 = .ok (.iload_n 1, 1) := by decide +kernel
theorem dX4_turnStrands_17 : decode cX4_turnStrands 17 = .ok (.invokevirtual 50, 3) := by decide +kernel
theorem dX4_turnStrands_20 : decode cX4_turnStrands 20 = .ok (.return_, 1) := by decide +kernel
set_option maxRecDepth 20000 in
theorem ggX4_flipSign_X4_has : GoodIn wsX4_flipSign wsX4_has := goodIn_r _ [6, 7, 8, 9, 10] (by decide +kernel) (by decide +kernel)
set_option maxRecDepth 20000 in
theorem gX4_flipSign_X4_has : GoodIn wsX4_flipSign (wsV RX4 22 RX4 yX4_has wsX4_has) := goodIn_app (goodIn_of _ (by decide +kernel)) ggX4_flipSign_X4_has
theorem dX4_flipSign_0 : decode cX4_flipSign 0 = .ok (.aload_n 0, 1) := by decide +kernel
theorem dX4_flipSign_1 : decode cX4_flipSign 1 = .ok (.iload_n 1, 1) := by decide +kernel
theorem dX4_flipSign_2 : decode cX4_flipSign 2 = .ok (.invokevirtual 22, 3) := by decide +kernel
theorem dX4_flipSign_5 : decode cX4_flipSign 5 = .ok (.ifCond .eq 16, 3) := by decide +kernel
theorem dX4_flipSign_8 : decode cX4_flipSign 8 = .ok (.aload_n 0, 1) := by decide +kernel
theorem dX4_flipSign_9 : decode cX4_flipSign 9 = .ok (.getfield 9, 3) := by decide +kernel
theorem dX4_flipSign_12 : decode cX4_flipSign 12 = .ok (.iload_n 1, 1) := by decide +kernel
theorem dX4_flipSign_13 : decode cX4_flipSign 13 = .ok (.aload_n 0, 1) := by decide +kernel
theorem dX4_flipSign_14 : decode cX4_flipSign 14 = .ok (.getfield 9, 3) := by decide +kernel
theorem dX4_flipSign_17 : decode cX4_flipSign 17 = .ok (.iload_n 1, 1) := by decide +kernel
theorem dX4_flipSign_18 : decode cX4_flipSign 18 = .ok (.iaload, 1) := by decide +kernel
theorem dX4_flipSign_19 : decode cX4_flipSign 19 = .ok (.ineg, 1) := by decide +kernel
theorem dX4_flipSign_20 : decode cX4_flipSign 20 = .ok (.iastore, 1) := by decide +kernel
theorem dX4_flipSign_21 : decode cX4_flipSign 21 = .ok (.return_, 1) := by decide +kernel
set_option maxRecDepth 20000 in
theorem ggX4_beginPlacesAt_X4_has : GoodIn wsX4_beginPlacesAt wsX4_has := goodIn_r _ [6, 7, 8, 9, 10] (by decide +kernel) (by decide +kernel)
set_option maxRecDepth 20000 in
theorem gX4_beginPlacesAt_X4_has : GoodIn wsX4_beginPlacesAt (wsV RX4 22 RX4 yX4_has wsX4_has) := goodIn_app (goodIn_of _ (by decide +kernel)) ggX4_beginPlacesAt_X4_has
theorem dX4_beginPlacesAt_0 : decode cX4_beginPlacesAt 0 = .ok (.aload_n 0, 1) := by decide +kernel
theorem dX4_beginPlacesAt_1 : decode cX4_beginPlacesAt 1 = .ok (.iload_n 1, 1) := by decide +kernel
theorem dX4_beginPlacesAt_2 : decode cX4_beginPlacesAt 2 = .ok (.invokevirtual 22, 3) := by decide +kernel
theorem dX4_beginPlacesAt_5 : decode cX4_beginPlacesAt 5 = .ok (.ifCond .ne 4, 3) := by decide +kernel
theorem dX4_beginPlacesAt_8 : decode cX4_beginPlacesAt 8 = .ok (.return_, 1) := by decide +kernel
theorem dX4_beginPlacesAt_9 : decode cX4_beginPlacesAt 9 = .ok (.iconst 4, 1) := by decide +kernel
theorem dX4_beginPlacesAt_10 : decode cX4_beginPlacesAt 10 = .ok (.iload_n 1, 1) := by decide +kernel
theorem dX4_beginPlacesAt_11 : decode cX4_beginPlacesAt 11 = .ok (.imul, 1) := by decide +kernel
theorem dX4_beginPlacesAt_12 : decode cX4_beginPlacesAt 12 = .ok (.istore_n 3, 1) := by decide +kernel
theorem dX4_beginPlacesAt_13 : decode cX4_beginPlacesAt 13 = .ok (.iconst 0, 1) := by decide +kernel
theorem dX4_beginPlacesAt_14 : decode cX4_beginPlacesAt 14 = .ok (.istore 4, 2) := by decide +kernel
theorem dX4_beginPlacesAt_16 : decode cX4_beginPlacesAt 16 = .ok (.iload 4, 2) := by decide +kernel
theorem dX4_beginPlacesAt_18 : decode cX4_beginPlacesAt 18 = .ok (.iload_n 2, 1) := by decide +kernel
theorem dX4_beginPlacesAt_19 : decode cX4_beginPlacesAt 19 = .ok (.if_icmp .ge 73, 3) := by decide +kernel
theorem dX4_beginPlacesAt_22 : decode cX4_beginPlacesAt 22 = .ok (.aload_n 0, 1) := by decide +kernel
theorem dX4_beginPlacesAt_23 : decode cX4_beginPlacesAt 23 = .ok (.getfield 15, 3) := by decide +kernel
theorem dX4_beginPlacesAt_26 : decode cX4_beginPlacesAt 26 = .ok (.iload_n 3, 1) := by decide +kernel
theorem dX4_beginPlacesAt_27 : decode cX4_beginPlacesAt 27 = .ok (.iaload, 1) := by decide +kernel
theorem dX4_beginPlacesAt_28 : decode cX4_beginPlacesAt 28 = .ok (.istore 5, 2) := by decide +kernel
theorem dX4_beginPlacesAt_30 : decode cX4_beginPlacesAt 30 = .ok (.aload_n 0, 1) := by decide +kernel
theorem dX4_beginPlacesAt_31 : decode cX4_beginPlacesAt 31 = .ok (.getfield 15, 3) := by decide +kernel
theorem dX4_beginPlacesAt_34 : decode cX4_beginPlacesAt 34 = .ok (.iload_n 3, 1) := by decide +kernel
theorem dX4_beginPlacesAt_35 : decode cX4_beginPlacesAt 35 = .ok (.aload_n 0, 1) := by decide +kernel
theorem dX4_beginPlacesAt_36 : decode cX4_beginPlacesAt 36 = .ok (.getfield 15, 3) := by decide +kernel
theorem dX4_beginPlacesAt_39 : decode cX4_beginPlacesAt 39 = .ok (.iload_n 3, 1) := by decide +kernel
theorem dX4_beginPlacesAt_40 : decode cX4_beginPlacesAt 40 = .ok (.iconst 1, 1) := by decide +kernel
theorem dX4_beginPlacesAt_41 : decode cX4_beginPlacesAt 41 = .ok (.iadd, 1) := by decide +kernel
theorem dX4_beginPlacesAt_42 : decode cX4_beginPlacesAt 42 = .ok (.iaload, 1) := by decide +kernel
theorem dX4_beginPlacesAt_43 : decode cX4_beginPlacesAt 43 = .ok (.iastore, 1) := by decide +kernel
theorem dX4_beginPlacesAt_44 : decode cX4_beginPlacesAt 44 = .ok (.aload_n 0, 1) := by decide +kernel
theorem dX4_beginPlacesAt_45 : decode cX4_beginPlacesAt 45 = .ok (.getfield 15, 3) := by decide +kernel
theorem dX4_beginPlacesAt_48 : decode cX4_beginPlacesAt 48 = .ok (.iload_n 3, 1) := by decide +kernel
theorem dX4_beginPlacesAt_49 : decode cX4_beginPlacesAt 49 = .ok (.iconst 1, 1) := by decide +kernel
theorem dX4_beginPlacesAt_50 : decode cX4_beginPlacesAt 50 = .ok (.iadd, 1) := by decide +kernel
theorem dX4_beginPlacesAt_51 : decode cX4_beginPlacesAt 51 = .ok (.aload_n 0, 1) := by decide +kernel
theorem dX4_beginPlacesAt_52 : decode cX4_beginPlacesAt 52 = .ok (.getfield 15, 3) := by decide +kernel
theorem dX4_beginPlacesAt_55 : decode cX4_beginPlacesAt 55 = .ok (.iload_n 3, 1) := by decide +kernel
theorem dX4_beginPlacesAt_56 : decode cX4_beginPlacesAt 56 = .ok (.iconst 2, 1) := by decide +kernel
theorem dX4_beginPlacesAt_57 : decode cX4_beginPlacesAt 57 = .ok (.iadd, 1) := by decide +kernel
theorem dX4_beginPlacesAt_58 : decode cX4_beginPlacesAt 58 = .ok (.iaload, 1) := by decide +kernel
theorem dX4_beginPlacesAt_59 : decode cX4_beginPlacesAt 59 = .ok (.iastore, 1) := by decide +kernel
theorem dX4_beginPlacesAt_60 : decode cX4_beginPlacesAt 60 = .ok (.aload_n 0, 1) := by decide +kernel
theorem dX4_beginPlacesAt_61 : decode cX4_beginPlacesAt 61 = .ok (.getfield 15, 3) := by decide +kernel
theorem dX4_beginPlacesAt_64 : decode cX4_beginPlacesAt 64 = .ok (.iload_n 3, 1) := by decide +kernel
theorem dX4_beginPlacesAt_65 : decode cX4_beginPlacesAt 65 = .ok (.iconst 2, 1) := by decide +kernel
theorem dX4_beginPlacesAt_66 : decode cX4_beginPlacesAt 66 = .ok (.iadd, 1) := by decide +kernel
theorem dX4_beginPlacesAt_67 : decode cX4_beginPlacesAt 67 = .ok (.aload_n 0, 1) := by decide +kernel
theorem dX4_beginPlacesAt_68 : decode cX4_beginPlacesAt 68 = .ok (.getfield 15, 3) := by decide +kernel
theorem dX4_beginPlacesAt_71 : decode cX4_beginPlacesAt 71 = .ok (.iload_n 3, 1) := by decide +kernel
theorem dX4_beginPlacesAt_72 : decode cX4_beginPlacesAt 72 = .ok (.iconst 3, 1) := by decide +kernel
theorem dX4_beginPlacesAt_73 : decode cX4_beginPlacesAt 73 = .ok (.iadd, 1) := by decide +kernel
theorem dX4_beginPlacesAt_74 : decode cX4_beginPlacesAt 74 = .ok (.iaload, 1) := by decide +kernel
theorem dX4_beginPlacesAt_75 : decode cX4_beginPlacesAt 75 = .ok (.iastore, 1) := by decide +kernel
theorem dX4_beginPlacesAt_76 : decode cX4_beginPlacesAt 76 = .ok (.aload_n 0, 1) := by decide +kernel
theorem dX4_beginPlacesAt_77 : decode cX4_beginPlacesAt 77 = .ok (.getfield 15, 3) := by decide +kernel
theorem dX4_beginPlacesAt_80 : decode cX4_beginPlacesAt 80 = .ok (.iload_n 3, 1) := by decide +kernel
theorem dX4_beginPlacesAt_81 : decode cX4_beginPlacesAt 81 = .ok (.iconst 3, 1) := by decide +kernel
theorem dX4_beginPlacesAt_82 : decode cX4_beginPlacesAt 82 = .ok (.iadd, 1) := by decide +kernel
theorem dX4_beginPlacesAt_83 : decode cX4_beginPlacesAt 83 = .ok (.iload 5, 2) := by decide +kernel
theorem dX4_beginPlacesAt_85 : decode cX4_beginPlacesAt 85 = .ok (.iastore, 1) := by decide +kernel
theorem dX4_beginPlacesAt_86 : decode cX4_beginPlacesAt 86 = .ok (.iinc 4 1, 3) := by decide +kernel
theorem dX4_beginPlacesAt_89 : decode cX4_beginPlacesAt 89 = .ok (.goto (-73), 3) := by decide +kernel
theorem dX4_beginPlacesAt_92 : decode cX4_beginPlacesAt 92 = .ok (.return_, 1) := by decide +kernel
set_option maxRecDepth 20000 in
theorem ggX4_smoothAway_X4_has : GoodIn wsX4_smoothAway wsX4_has := goodIn_r _ [5, 6, 50, 51, 52] (by decide +kernel) (by decide +kernel)
set_option maxRecDepth 20000 in
theorem gX4_smoothAway_X4_has : GoodIn wsX4_smoothAway (wsV RX4 22 RX4 yX4_has wsX4_has) := goodIn_app (goodIn_of _ (by decide +kernel)) ggX4_smoothAway_X4_has
set_option maxRecDepth 20000 in
theorem ggX4_smoothAway_X4_lowerIn : GoodIn wsX4_smoothAway wsX4_lowerIn := goodIn_r _ [9] (by decide +kernel) (by decide +kernel)
set_option maxRecDepth 20000 in
theorem gX4_smoothAway_X4_lowerIn : GoodIn wsX4_smoothAway (va_wsS RX4 57 yX4_lowerIn wsX4_lowerIn) := goodIn_app (goodIn_of _ (by decide +kernel)) ggX4_smoothAway_X4_lowerIn
set_option maxRecDepth 20000 in
theorem ggX4_smoothAway_X4_label : GoodIn wsX4_smoothAway wsX4_label := goodIn_r _ [13, 14, 15, 16, 17, 4, 18, 6, 50, 51, 52] (by decide +kernel) (by decide +kernel)
set_option maxRecDepth 20000 in
theorem gX4_smoothAway_X4_label : GoodIn wsX4_smoothAway (wsV RX4 60 RX4 yX4_label wsX4_label) := goodIn_app (goodIn_of _ (by decide +kernel)) ggX4_smoothAway_X4_label
set_option maxRecDepth 20000 in
theorem ggX4_smoothAway_X4_upperOut : GoodIn wsX4_smoothAway wsX4_upperOut := goodIn_r _ [22, 23, 24, 25, 4, 26, 27, 1, 2, 3, 5, 6, 50, 51, 52] (by decide +kernel) (by decide +kernel)
set_option maxRecDepth 20000 in
theorem gX4_smoothAway_X4_upperOut : GoodIn wsX4_smoothAway (wsV RX4 37 RX4 yX4_upperOut wsX4_upperOut) := goodIn_app (goodIn_of _ (by decide +kernel)) ggX4_smoothAway_X4_upperOut
set_option maxRecDepth 20000 in
theorem ggX4_smoothAway_X4_joinEdges : GoodIn wsX4_smoothAway wsX4_joinEdges := goodIn_r _ [31, 32, 33, 34, 35, 36, 37, 38, 14, 15, 16, 17, 4, 18, 6, 50, 51, 52] (by decide +kernel) (by decide +kernel)
set_option maxRecDepth 20000 in
theorem gX4_smoothAway_X4_joinEdges : GoodIn wsX4_smoothAway (wsV RX4 63 RX4 yX4_joinEdges wsX4_joinEdges) := goodIn_app (goodIn_of _ (by decide +kernel)) ggX4_smoothAway_X4_joinEdges
set_option maxRecDepth 20000 in
theorem ggX4_smoothAway_X4_upperIn : GoodIn wsX4_smoothAway wsX4_upperIn := goodIn_r _ [42, 23, 24, 25, 4, 26, 27, 1, 2, 3, 5, 6, 50, 51, 52] (by decide +kernel) (by decide +kernel)
set_option maxRecDepth 20000 in
theorem gX4_smoothAway_X4_upperIn : GoodIn wsX4_smoothAway (wsV RX4 43 RX4 yX4_upperIn wsX4_upperIn) := goodIn_app (goodIn_of _ (by decide +kernel)) ggX4_smoothAway_X4_upperIn
set_option maxRecDepth 20000 in
theorem ggX4_smoothAway_X4_lowerOut : GoodIn wsX4_smoothAway wsX4_lowerOut := goodIn_r _ [45] (by decide +kernel) (by decide +kernel)
set_option maxRecDepth 20000 in
theorem gX4_smoothAway_X4_lowerOut : GoodIn wsX4_smoothAway (va_wsS RX4 34 yX4_lowerOut wsX4_lowerOut) := goodIn_app (goodIn_of _ (by decide +kernel)) ggX4_smoothAway_X4_lowerOut
set_option maxRecDepth 20000 in
theorem ggX4_smoothAway_X4_dropCrossing : GoodIn wsX4_smoothAway wsX4_dropCrossing := goodIn_r _ [49, 6, 27, 14, 15, 16, 17, 4, 18, 50, 51, 52] (by decide +kernel) (by decide +kernel)
set_option maxRecDepth 20000 in
theorem gX4_smoothAway_X4_dropCrossing : GoodIn wsX4_smoothAway (wsV RX4 67 RX4 yX4_dropCrossing wsX4_dropCrossing) := goodIn_app (goodIn_of _ (by decide +kernel)) ggX4_smoothAway_X4_dropCrossing
theorem dX4_smoothAway_0 : decode cX4_smoothAway 0 = .ok (.aload_n 0, 1) := by decide +kernel
theorem dX4_smoothAway_1 : decode cX4_smoothAway 1 = .ok (.iload_n 1, 1) := by decide +kernel
theorem dX4_smoothAway_2 : decode cX4_smoothAway 2 = .ok (.invokevirtual 22, 3) := by decide +kernel
theorem dX4_smoothAway_5 : decode cX4_smoothAway 5 = .ok (.ifCond .ne 5, 3) := by decide +kernel
theorem dX4_smoothAway_8 : decode cX4_smoothAway 8 = .ok (.iconst 0, 1) := by decide +kernel
theorem dX4_smoothAway_9 : decode cX4_smoothAway 9 = .ok (.ireturn, 1) := by decide +kernel
theorem dX4_smoothAway_10 : decode cX4_smoothAway 10 = .ok (.iconst 0, 1) := by decide +kernel
theorem dX4_smoothAway_11 : decode cX4_smoothAway 11 = .ok (.istore_n 2, 1) := by decide +kernel
theorem dX4_smoothAway_12 : decode cX4_smoothAway 12 = .ok (.iload_n 2, 1) := by decide +kernel
theorem dX4_smoothAway_13 : decode cX4_smoothAway 13 = .ok (.aload_n 0, 1) := by decide +kernel
theorem dX4_smoothAway_14 : decode cX4_smoothAway 14 = .ok (.aload_n 0, 1) := by decide +kernel
theorem dX4_smoothAway_15 : decode cX4_smoothAway 15 = .ok (.iload_n 1, 1) := by decide +kernel
theorem dX4_smoothAway_16 : decode cX4_smoothAway 16 = .ok (.invokestatic 57, 3) := by decide +kernel
theorem dX4_smoothAway_19 : decode cX4_smoothAway 19 = .ok (.invokevirtual 60, 3) := by decide +kernel
theorem dX4_smoothAway_22 : decode cX4_smoothAway 22 = .ok (.aload_n 0, 1) := by decide +kernel
theorem dX4_smoothAway_23 : decode cX4_smoothAway 23 = .ok (.aload_n 0, 1) := by decide +kernel
theorem dX4_smoothAway_24 : decode cX4_smoothAway 24 = .ok (.iload_n 1, 1) := by decide +kernel
theorem dX4_smoothAway_25 : decode cX4_smoothAway 25 = .ok (.invokevirtual 37, 3) := by decide +kernel
theorem dX4_smoothAway_28 : decode cX4_smoothAway 28 = .ok (.invokevirtual 60, 3) := by decide +kernel
theorem dX4_smoothAway_31 : decode cX4_smoothAway 31 = .ok (.invokevirtual 63, 3) := by decide +kernel
theorem dX4_smoothAway_34 : decode cX4_smoothAway 34 = .ok (.iadd, 1) := by decide +kernel
theorem dX4_smoothAway_35 : decode cX4_smoothAway 35 = .ok (.istore_n 2, 1) := by decide +kernel
theorem dX4_smoothAway_36 : decode cX4_smoothAway 36 = .ok (.iload_n 2, 1) := by decide +kernel
theorem dX4_smoothAway_37 : decode cX4_smoothAway 37 = .ok (.aload_n 0, 1) := by decide +kernel
theorem dX4_smoothAway_38 : decode cX4_smoothAway 38 = .ok (.aload_n 0, 1) := by decide +kernel
theorem dX4_smoothAway_39 : decode cX4_smoothAway 39 = .ok (.aload_n 0, 1) := by decide +kernel
theorem dX4_smoothAway_40 : decode cX4_smoothAway 40 = .ok (.iload_n 1, 1) := by decide +kernel
theorem dX4_smoothAway_41 : decode cX4_smoothAway 41 = .ok (.invokevirtual 43, 3) := by decide +kernel
theorem dX4_smoothAway_44 : decode cX4_smoothAway 44 = .ok (.invokevirtual 60, 3) := by decide +kernel
theorem dX4_smoothAway_47 : decode cX4_smoothAway 47 = .ok (.aload_n 0, 1) := by decide +kernel
theorem dX4_smoothAway_48 : decode cX4_smoothAway 48 = .ok (.iload_n 1, 1) := by decide +kernel
theorem dX4_smoothAway_49 : decode cX4_smoothAway 49 = .ok (.invokestatic 34, 3) := by decide +kernel
theorem dX4_smoothAway_52 : decode cX4_smoothAway 52 = .ok (.invokevirtual 60, 3) := by decide +kernel
theorem dX4_smoothAway_55 : decode cX4_smoothAway 55 = .ok (.invokevirtual 63, 3) := by decide +kernel
theorem dX4_smoothAway_58 : decode cX4_smoothAway 58 = .ok (.iadd, 1) := by decide +kernel
theorem dX4_smoothAway_59 : decode cX4_smoothAway 59 = .ok (.istore_n 2, 1) := by decide +kernel
theorem dX4_smoothAway_60 : decode cX4_smoothAway 60 = .ok (.aload_n 0, 1) := by decide +kernel
theorem dX4_smoothAway_61 : decode cX4_smoothAway 61 = .ok (.iload_n 1, 1) := by decide +kernel
theorem dX4_smoothAway_62 : decode cX4_smoothAway 62 = .ok (.invokevirtual 67, 3) := by decide +kernel
theorem dX4_smoothAway_65 : decode cX4_smoothAway 65 = .ok (.iload_n 2, 1) := by decide +kernel
theorem dX4_smoothAway_66 : decode cX4_smoothAway 66 = .ok (.ireturn, 1) := by decide +kernel
set_option maxRecDepth 20000 in
theorem ggX4_joinEdges_X4_spots : GoodIn wsX4_joinEdges wsX4_spots := goodIn_r _ [13, 14, 15, 16, 17] (by decide +kernel) (by decide +kernel)
set_option maxRecDepth 20000 in
theorem gX4_joinEdges_X4_spots : GoodIn wsX4_joinEdges (wsV RX4 26 RX4 yX4_spots wsX4_spots) := goodIn_app (goodIn_of _ (by decide +kernel)) ggX4_joinEdges_X4_spots
theorem dX4_joinEdges_0 : decode cX4_joinEdges 0 = .ok (.iload_n 1, 1) := by decide +kernel
theorem dX4_joinEdges_1 : decode cX4_joinEdges 1 = .ok (.iload_n 2, 1) := by decide +kernel
theorem dX4_joinEdges_2 : decode cX4_joinEdges 2 = .ok (.if_icmp .ne 5, 3) := by decide +kernel
theorem dX4_joinEdges_5 : decode cX4_joinEdges 5 = .ok (.iconst 1, 1) := by decide +kernel
theorem dX4_joinEdges_6 : decode cX4_joinEdges 6 = .ok (.ireturn, 1) := by decide +kernel
theorem dX4_joinEdges_7 : decode cX4_joinEdges 7 = .ok (.iload_n 1, 1) := by decide +kernel
theorem dX4_joinEdges_8 : decode cX4_joinEdges 8 = .ok (.iload_n 2, 1) := by decide +kernel
theorem dX4_joinEdges_9 : decode cX4_joinEdges 9 = .ok (.invokestatic 70, 3) := by decide +kernel
theorem dX4_joinEdges_12 : decode cX4_joinEdges 12 = .ok (.istore_n 3, 1) := by decide +kernel
theorem dX4_joinEdges_13 : decode cX4_joinEdges 13 = .ok (.iload_n 1, 1) := by decide +kernel
theorem dX4_joinEdges_14 : decode cX4_joinEdges 14 = .ok (.iload_n 2, 1) := by decide +kernel
theorem dX4_joinEdges_15 : decode cX4_joinEdges 15 = .ok (.invokestatic 75, 3) := by decide +kernel
theorem dX4_joinEdges_18 : decode cX4_joinEdges 18 = .ok (.istore 4, 2) := by decide +kernel
theorem dX4_joinEdges_20 : decode cX4_joinEdges 20 = .ok (.iconst 0, 1) := by decide +kernel
theorem dX4_joinEdges_21 : decode cX4_joinEdges 21 = .ok (.istore 5, 2) := by decide +kernel
theorem dX4_joinEdges_23 : decode cX4_joinEdges 23 = .ok (.iload 5, 2) := by decide +kernel
theorem dX4_joinEdges_25 : decode cX4_joinEdges 25 = .ok (.aload_n 0, 1) := by decide +kernel
theorem dX4_joinEdges_26 : decode cX4_joinEdges 26 = .ok (.invokevirtual 26, 3) := by decide +kernel
theorem dX4_joinEdges_29 : decode cX4_joinEdges 29 = .ok (.if_icmp .ge 29, 3) := by decide +kernel
theorem dX4_joinEdges_32 : decode cX4_joinEdges 32 = .ok (.aload_n 0, 1) := by decide +kernel
theorem dX4_joinEdges_33 : decode cX4_joinEdges 33 = .ok (.getfield 15, 3) := by decide +kernel
theorem dX4_joinEdges_36 : decode cX4_joinEdges 36 = .ok (.iload 5, 2) := by decide +kernel
theorem dX4_joinEdges_38 : decode cX4_joinEdges 38 = .ok (.iaload, 1) := by decide +kernel
theorem dX4_joinEdges_39 : decode cX4_joinEdges 39 = .ok (.iload 4, 2) := by decide +kernel
theorem dX4_joinEdges_41 : decode cX4_joinEdges 41 = .ok (.if_icmp .ne 11, 3) := by decide +kernel
theorem dX4_joinEdges_44 : decode cX4_joinEdges 44 = .ok (.aload_n 0, 1) := by decide +kernel
theorem dX4_joinEdges_45 : decode cX4_joinEdges 45 = .ok (.getfield 15, 3) := by decide +kernel
theorem dX4_joinEdges_48 : decode cX4_joinEdges 48 = .ok (.iload 5, 2) := by decide +kernel
theorem dX4_joinEdges_50 : decode cX4_joinEdges 50 = .ok (.iload_n 3, 1) := by decide +kernel
theorem dX4_joinEdges_51 : decode cX4_joinEdges 51 = .ok (.iastore, 1) := by decide +kernel
theorem dX4_joinEdges_52 : decode cX4_joinEdges 52 = .ok (.iinc 5 1, 3) := by decide +kernel
theorem dX4_joinEdges_55 : decode cX4_joinEdges 55 = .ok (.goto (-32), 3) := by decide +kernel
theorem dX4_joinEdges_58 : decode cX4_joinEdges 58 = .ok (.iconst 0, 1) := by decide +kernel
theorem dX4_joinEdges_59 : decode cX4_joinEdges 59 = .ok (.ireturn, 1) := by decide +kernel
set_option maxRecDepth 20000 in
theorem ggX4_dropCrossing_X4_spots : GoodIn wsX4_dropCrossing wsX4_spots := goodIn_r _ [8, 1, 9, 10, 11] (by decide +kernel) (by decide +kernel)
set_option maxRecDepth 20000 in
theorem gX4_dropCrossing_X4_spots : GoodIn wsX4_dropCrossing (wsV RX4 26 RX4 yX4_spots wsX4_spots) := goodIn_app (goodIn_of _ (by decide +kernel)) ggX4_dropCrossing_X4_spots
theorem dX4_dropCrossing_0 : decode cX4_dropCrossing 0 = .ok (.iload_n 1, 1) := by decide +kernel
theorem dX4_dropCrossing_1 : decode cX4_dropCrossing 1 = .ok (.iconst 1, 1) := by decide +kernel
theorem dX4_dropCrossing_2 : decode cX4_dropCrossing 2 = .ok (.iadd, 1) := by decide +kernel
theorem dX4_dropCrossing_3 : decode cX4_dropCrossing 3 = .ok (.istore_n 2, 1) := by decide +kernel
theorem dX4_dropCrossing_4 : decode cX4_dropCrossing 4 = .ok (.iload_n 2, 1) := by decide +kernel
theorem dX4_dropCrossing_5 : decode cX4_dropCrossing 5 = .ok (.aload_n 0, 1) := by decide +kernel
theorem dX4_dropCrossing_6 : decode cX4_dropCrossing 6 = .ok (.getfield 18, 3) := by decide +kernel
theorem dX4_dropCrossing_9 : decode cX4_dropCrossing 9 = .ok (.if_icmp .ge 23, 3) := by decide +kernel
theorem dX4_dropCrossing_12 : decode cX4_dropCrossing 12 = .ok (.aload_n 0, 1) := by decide +kernel
theorem dX4_dropCrossing_13 : decode cX4_dropCrossing 13 = .ok (.getfield 9, 3) := by decide +kernel
theorem dX4_dropCrossing_16 : decode cX4_dropCrossing 16 = .ok (.iload_n 2, 1) := by decide +kernel
theorem dX4_dropCrossing_17 : decode cX4_dropCrossing 17 = .ok (.iconst 1, 1) := by decide +kernel
theorem dX4_dropCrossing_18 : decode cX4_dropCrossing 18 = .ok (.isub, 1) := by decide +kernel
theorem dX4_dropCrossing_19 : decode cX4_dropCrossing 19 = .ok (.aload_n 0, 1) := by decide +kernel
theorem dX4_dropCrossing_20 : decode cX4_dropCrossing 20 = .ok (.getfield 9, 3) := by decide +kernel
theorem dX4_dropCrossing_23 : decode cX4_dropCrossing 23 = .ok (.iload_n 2, 1) := by decide +kernel
theorem dX4_dropCrossing_24 : decode cX4_dropCrossing 24 = .ok (.iaload, 1) := by decide +kernel
theorem dX4_dropCrossing_25 : decode cX4_dropCrossing 25 = .ok (.iastore, 1) := by decide +kernel
theorem dX4_dropCrossing_26 : decode cX4_dropCrossing 26 = .ok (.iinc 2 1, 3) := by decide +kernel
theorem dX4_dropCrossing_29 : decode cX4_dropCrossing 29 = .ok (.goto (-25), 3) := by decide +kernel
theorem dX4_dropCrossing_32 : decode cX4_dropCrossing 32 = .ok (.iconst 4, 1) := by decide +kernel
theorem dX4_dropCrossing_33 : decode cX4_dropCrossing 33 = .ok (.iload_n 1, 1) := by decide +kernel
theorem dX4_dropCrossing_34 : decode cX4_dropCrossing 34 = .ok (.imul, 1) := by decide +kernel
theorem dX4_dropCrossing_35 : decode cX4_dropCrossing 35 = .ok (.iconst 4, 1) := by decide +kernel
theorem dX4_dropCrossing_36 : decode cX4_dropCrossing 36 = .ok (.iadd, 1) := by decide +kernel
theorem dX4_dropCrossing_37 : decode cX4_dropCrossing 37 = .ok (.istore_n 2, 1) := by decide +kernel
theorem dX4_dropCrossing_38 : decode cX4_dropCrossing 38 = .ok (.iload_n 2, 1) := by decide +kernel
theorem dX4_dropCrossing_39 : decode cX4_dropCrossing 39 = .ok (.aload_n 0, 1) := by decide +kernel
theorem dX4_dropCrossing_40 : decode cX4_dropCrossing 40 = .ok (.invokevirtual 26, 3) := by decide +kernel
theorem dX4_dropCrossing_43 : decode cX4_dropCrossing 43 = .ok (.if_icmp .ge 23, 3) := by decide +kernel
theorem dX4_dropCrossing_46 : decode cX4_dropCrossing 46 = .ok (.aload_n 0, 1) := by decide +kernel
theorem dX4_dropCrossing_47 : decode cX4_dropCrossing 47 = .ok (.getfield 15, 3) := by decide +kernel
theorem dX4_dropCrossing_50 : decode cX4_dropCrossing 50 = .ok (.iload_n 2, 1) := by decide +kernel
theorem dX4_dropCrossing_51 : decode cX4_dropCrossing 51 = .ok (.iconst 4, 1) := by decide +kernel
theorem dX4_dropCrossing_52 : decode cX4_dropCrossing 52 = .ok (.isub, 1) := by decide +kernel
theorem dX4_dropCrossing_53 : decode cX4_dropCrossing 53 = .ok (.aload_n 0, 1) := by decide +kernel
theorem dX4_dropCrossing_54 : decode cX4_dropCrossing 54 = .ok (.getfield 15, 3) := by decide +kernel
theorem dX4_dropCrossing_57 : decode cX4_dropCrossing 57 = .ok (.iload_n 2, 1) := by decide +kernel
theorem dX4_dropCrossing_58 : decode cX4_dropCrossing 58 = .ok (.iaload, 1) := by decide +kernel
theorem dX4_dropCrossing_59 : decode cX4_dropCrossing 59 = .ok (.iastore, 1) := by decide +kernel
theorem dX4_dropCrossing_60 : decode cX4_dropCrossing 60 = .ok (.iinc 2 1, 3) := by decide +kernel
theorem dX4_dropCrossing_63 : decode cX4_dropCrossing 63 = .ok (.goto (-25), 3) := by decide +kernel
theorem dX4_dropCrossing_66 : decode cX4_dropCrossing 66 = .ok (.aload_n 0, 1) := by decide +kernel
theorem dX4_dropCrossing_67 : decode cX4_dropCrossing 67 = .ok (.dup, 1) := by decide +kernel
theorem dX4_dropCrossing_68 : decode cX4_dropCrossing 68 = .ok (.getfield 18, 3) := by decide +kernel
theorem dX4_dropCrossing_71 : decode cX4_dropCrossing 71 = .ok (.iconst 1, 1) := by decide +kernel
theorem dX4_dropCrossing_72 : decode cX4_dropCrossing 72 = .ok (.isub, 1) := by decide +kernel
theorem dX4_dropCrossing_73 : decode cX4_dropCrossing 73 = .ok (.putfield 18, 3) := by decide +kernel
theorem dX4_dropCrossing_76 : decode cX4_dropCrossing 76 = .ok (.return_, 1) := by decide +kernel
theorem dX4_lowerIn_0 : decode cX4_lowerIn 0 = .ok (.iconst 4, 1) := by decide +kernel
theorem dX4_lowerIn_1 : decode cX4_lowerIn 1 = .ok (.iload_n 0, 1) := by decide +kernel
theorem dX4_lowerIn_2 : decode cX4_lowerIn 2 = .ok (.imul, 1) := by decide +kernel
theorem dX4_lowerIn_3 : decode cX4_lowerIn 3 = .ok (.ireturn, 1) := by decide +kernel
theorem dX4_lowerOut_0 : decode cX4_lowerOut 0 = .ok (.iconst 4, 1) := by decide +kernel
theorem dX4_lowerOut_1 : decode cX4_lowerOut 1 = .ok (.iload_n 0, 1) := by decide +kernel
theorem dX4_lowerOut_2 : decode cX4_lowerOut 2 = .ok (.imul, 1) := by decide +kernel
theorem dX4_lowerOut_3 : decode cX4_lowerOut 3 = .ok (.iconst 2, 1) := by decide +kernel
theorem dX4_lowerOut_4 : decode cX4_lowerOut 4 = .ok (.iadd, 1) := by decide +kernel
theorem dX4_lowerOut_5 : decode cX4_lowerOut 5 = .ok (.ireturn, 1) := by decide +kernel
theorem dX4_isUpper_0 : decode cX4_isUpper 0 = .ok (.iload_n 0, 1) := by decide +kernel
theorem dX4_isUpper_1 : decode cX4_isUpper 1 = .ok (.iconst 2, 1) := by decide +kernel
theorem dX4_isUpper_2 : decode cX4_isUpper 2 = .ok (.irem, 1) := by decide +kernel
theorem dX4_isUpper_3 : decode cX4_isUpper 3 = .ok (.ifCond .eq 7, 3) := by decide +kernel
theorem dX4_isUpper_6 : decode cX4_isUpper 6 = .ok (.iconst 1, 1) := by decide +kernel
theorem dX4_isUpper_7 : decode cX4_isUpper 7 = .ok (.goto 4, 3) := by decide +kernel
theorem dX4_isUpper_10 : decode cX4_isUpper 10 = .ok (.iconst 0, 1) := by decide +kernel
theorem dX4_isUpper_11 : decode cX4_isUpper 11 = .ok (.ireturn, 1) := by decide +kernel
theorem dX4_across_0 : decode cX4_across 0 = .ok (.iload_n 0, 1) := by decide +kernel
theorem dX4_across_1 : decode cX4_across 1 = .ok (.iload_n 0, 1) := by decide +kernel
theorem dX4_across_2 : decode cX4_across 2 = .ok (.iconst 4, 1) := by decide +kernel
theorem dX4_across_3 : decode cX4_across 3 = .ok (.irem, 1) := by decide +kernel
theorem dX4_across_4 : decode cX4_across 4 = .ok (.isub, 1) := by decide +kernel
theorem dX4_across_5 : decode cX4_across 5 = .ok (.iload_n 0, 1) := by decide +kernel
theorem dX4_across_6 : decode cX4_across 6 = .ok (.iconst 2, 1) := by decide +kernel
theorem dX4_across_7 : decode cX4_across 7 = .ok (.iadd, 1) := by decide +kernel
theorem dX4_across_8 : decode cX4_across 8 = .ok (.iconst 4, 1) := by decide +kernel
theorem dX4_across_9 : decode cX4_across 9 = .ok (.irem, 1) := by decide +kernel
theorem dX4_across_10 : decode cX4_across 10 = .ok (.iadd, 1) := by decide +kernel
theorem dX4_across_11 : decode cX4_across 11 = .ok (.ireturn, 1) := by decide +kernel
theorem dX4_beside_0 : decode cX4_beside 0 = .ok (.iload_n 0, 1) := by decide +kernel
theorem dX4_beside_1 : decode cX4_beside 1 = .ok (.iload_n 0, 1) := by decide +kernel
theorem dX4_beside_2 : decode cX4_beside 2 = .ok (.iconst 4, 1) := by decide +kernel
theorem dX4_beside_3 : decode cX4_beside 3 = .ok (.irem, 1) := by decide +kernel
theorem dX4_beside_4 : decode cX4_beside 4 = .ok (.isub, 1) := by decide +kernel
theorem dX4_beside_5 : decode cX4_beside 5 = .ok (.iload_n 0, 1) := by decide +kernel
theorem dX4_beside_6 : decode cX4_beside 6 = .ok (.iconst 3, 1) := by decide +kernel
theorem dX4_beside_7 : decode cX4_beside 7 = .ok (.iadd, 1) := by decide +kernel
theorem dX4_beside_8 : decode cX4_beside 8 = .ok (.iconst 4, 1) := by decide +kernel
theorem dX4_beside_9 : decode cX4_beside 9 = .ok (.irem, 1) := by decide +kernel
theorem dX4_beside_10 : decode cX4_beside 10 = .ok (.iadd, 1) := by decide +kernel
theorem dX4_beside_11 : decode cX4_beside 11 = .ok (.ireturn, 1) := by decide +kernel
set_option maxRecDepth 20000 in
theorem ggX5_init_X0_init : GoodIn wsX5_init wsX0_init := goodIn_r _ [12, 13, 2, 3, 14, 15, 16, 17, 18, 19, 20, 21, 22, 23, 24, 25, 26, 27, 28, 29, 30, 31, 32, 33, 34, 35, 36, 37, 38, 39, 40, 41, 42, 43, 44, 45, 46, 47, 48, 49, 50, 51, 52, 53, 54, 55, 56, 57, 58, 59, 60, 61, 62, 63, 64, 65, 66, 80, 81, 82, 67, 68, 69, 70, 71, 72, 73, 74, 75, 83, 84, 85, 86, 87, 88, 89, 90, 91, 92, 93, 94, 95, 96, 97, 98] (by decide +kernel) (by decide +kernel)
set_option maxRecDepth 20000 in
theorem gX5_init_X0_init_n11 : GoodIn wsX5_init (wsX0_init) := ggX5_init_X0_init
theorem dX5_init_0 : decode cX5_init 0 = .ok (.aload_n 0, 1) := by decide +kernel
theorem dX5_init_1 : decode cX5_init 1 = .ok (.invokespecial 3, 3) := by decide +kernel
theorem dX5_init_4 : decode cX5_init 4 = .ok (.aload_n 0, 1) := by decide +kernel
theorem dX5_init_5 : decode cX5_init 5 = .ok (.new 9, 3) := by decide +kernel
theorem dX5_init_8 : decode cX5_init 8 = .ok (.dup, 1) := by decide +kernel
theorem dX5_init_9 : decode cX5_init 9 = .ok (.invokespecial 11, 3) := by decide +kernel
theorem dX5_init_12 : decode cX5_init 12 = .ok (.putfield 12, 3) := by decide +kernel
theorem dX5_init_15 : decode cX5_init 15 = .ok (.aload_n 0, 1) := by decide +kernel
theorem dX5_init_16 : decode cX5_init 16 = .ok (.new 9, 3) := by decide +kernel
theorem dX5_init_19 : decode cX5_init 19 = .ok (.dup, 1) := by decide +kernel
theorem dX5_init_20 : decode cX5_init 20 = .ok (.invokespecial 11, 3) := by decide +kernel
theorem dX5_init_23 : decode cX5_init 23 = .ok (.putfield 16, 3) := by decide +kernel
theorem dX5_init_26 : decode cX5_init 26 = .ok (.aload_n 0, 1) := by decide +kernel
theorem dX5_init_27 : decode cX5_init 27 = .ok (.iconst 0, 1) := by decide +kernel
theorem dX5_init_28 : decode cX5_init 28 = .ok (.putfield 19, 3) := by decide +kernel
theorem dX5_init_31 : decode cX5_init 31 = .ok (.aload_n 0, 1) := by decide +kernel
theorem dX5_init_32 : decode cX5_init 32 = .ok (.iconst (-1), 1) := by decide +kernel
theorem dX5_init_33 : decode cX5_init 33 = .ok (.putfield 23, 3) := by decide +kernel
theorem dX5_init_36 : decode cX5_init 36 = .ok (.return_, 1) := by decide +kernel
set_option maxRecDepth 20000 in
theorem ggX5_crossing_X5_isLabel : GoodIn wsX5_crossing wsX5_isLabel := goodIn_r _ [6] (by decide +kernel) (by decide +kernel)
set_option maxRecDepth 20000 in
theorem gX5_crossing_X5_isLabel : GoodIn wsX5_crossing (va_wsS RX5 26 yX5_isLabel wsX5_isLabel) := goodIn_app (goodIn_of _ (by decide +kernel)) ggX5_crossing_X5_isLabel
set_option maxRecDepth 20000 in
theorem ggX5_crossing_X4_append : GoodIn wsX5_crossing wsX4_append := goodIn_r _ [11, 12, 13, 14, 32, 33, 34] (by decide +kernel) (by decide +kernel)
set_option maxRecDepth 20000 in
theorem gX5_crossing_X4_append : GoodIn wsX5_crossing (wsV RX5 34 RX4 yX4_append wsX4_append) := goodIn_app (goodIn_of _ (by decide +kernel)) ggX5_crossing_X4_append
set_option maxRecDepth 20000 in
theorem ggX5_crossing_X4_crossings : GoodIn wsX5_crossing wsX4_crossings := goodIn_r _ [18, 12, 32, 33, 34] (by decide +kernel) (by decide +kernel)
set_option maxRecDepth 20000 in
theorem gX5_crossing_X4_crossings : GoodIn wsX5_crossing (wsV RX5 40 RX4 yX4_crossings wsX4_crossings) := goodIn_app (goodIn_of _ (by decide +kernel)) ggX5_crossing_X4_crossings
theorem dX5_crossing_0 : decode cX5_crossing 0 = .ok (.iload_n 1, 1) := by decide +kernel
theorem dX5_crossing_1 : decode cX5_crossing 1 = .ok (.iconst 1, 1) := by decide +kernel
theorem dX5_crossing_2 : decode cX5_crossing 2 = .ok (.if_icmp .eq 10, 3) := by decide +kernel
theorem dX5_crossing_5 : decode cX5_crossing 5 = .ok (.iload_n 1, 1) := by decide +kernel
theorem dX5_crossing_6 : decode cX5_crossing 6 = .ok (.iconst (-1), 1) := by decide +kernel
theorem dX5_crossing_7 : decode cX5_crossing 7 = .ok (.if_icmp .eq 5, 3) := by decide +kernel
theorem dX5_crossing_10 : decode cX5_crossing 10 = .ok (.iconst (-1), 1) := by decide +kernel
theorem dX5_crossing_11 : decode cX5_crossing 11 = .ok (.ireturn, 1) := by decide +kernel
theorem dX5_crossing_12 : decode cX5_crossing 12 = .ok (.iload_n 2, 1) := by decide +kernel
theorem dX5_crossing_13 : decode cX5_crossing 13 = .ok (.invokestatic 26, 3) := by decide +kernel
theorem dX5_crossing_16 : decode cX5_crossing 16 = .ok (.ifCond .eq 26, 3) := by decide +kernel
theorem dX5_crossing_19 : decode cX5_crossing 19 = .ok (.iload_n 3, 1) := by decide +kernel
theorem dX5_crossing_20 : decode cX5_crossing 20 = .ok (.invokestatic 26, 3) := by decide +kernel
theorem dX5_crossing_23 : decode cX5_crossing 23 = .ok (.ifCond .eq 19, 3) := by decide +kernel
theorem dX5_crossing_26 : decode cX5_crossing 26 = .ok (.iload 4, 2) := by decide +kernel
theorem dX5_crossing_28 : decode cX5_crossing 28 = .ok (.invokestatic 26, 3) := by decide +kernel
theorem dX5_crossing_31 : decode cX5_crossing 31 = .ok (.ifCond .eq 11, 3) := by decide +kernel
theorem dX5_crossing_34 : decode cX5_crossing 34 = .ok (.iload 5, 2) := by decide +kernel
theorem dX5_crossing_36 : decode cX5_crossing 36 = .ok (.invokestatic 26, 3) := by decide +kernel
theorem dX5_crossing_39 : decode cX5_crossing 39 = .ok (.ifCond .ne 5, 3) := by decide +kernel
theorem dX5_crossing_42 : decode cX5_crossing 42 = .ok (.iconst (-1), 1) := by decide +kernel
theorem dX5_crossing_43 : decode cX5_crossing 43 = .ok (.ireturn, 1) := by decide +kernel
theorem dX5_crossing_44 : decode cX5_crossing 44 = .ok (.aload_n 0, 1) := by decide +kernel
theorem dX5_crossing_45 : decode cX5_crossing 45 = .ok (.getfield 12, 3) := by decide +kernel
theorem dX5_crossing_48 : decode cX5_crossing 48 = .ok (.getfield 30, 3) := by decide +kernel
theorem dX5_crossing_51 : decode cX5_crossing 51 = .ok (.iload_n 1, 1) := by decide +kernel
theorem dX5_crossing_52 : decode cX5_crossing 52 = .ok (.iload_n 2, 1) := by decide +kernel
theorem dX5_crossing_53 : decode cX5_crossing 53 = .ok (.iload_n 3, 1) := by decide +kernel
theorem dX5_crossing_54 : decode cX5_crossing 54 = .ok (.iload 4, 2) := by decide +kernel
theorem dX5_crossing_56 : decode cX5_crossing 56 = .ok (.iload 5, 2) := by decide +kernel
theorem dX5_crossing_58 : decode cX5_crossing 58 = .ok (.invokevirtual 34, 3) := by decide +kernel
theorem dX5_crossing_61 : decode cX5_crossing 61 = .ok (.ifCond .eq 16, 3) := by decide +kernel
theorem dX5_crossing_64 : decode cX5_crossing 64 = .ok (.aload_n 0, 1) := by decide +kernel
theorem dX5_crossing_65 : decode cX5_crossing 65 = .ok (.getfield 12, 3) := by decide +kernel
theorem dX5_crossing_68 : decode cX5_crossing 68 = .ok (.getfield 30, 3) := by decide +kernel
theorem dX5_crossing_71 : decode cX5_crossing 71 = .ok (.invokevirtual 40, 3) := by decide +kernel
theorem dX5_crossing_74 : decode cX5_crossing 74 = .ok (.goto 4, 3) := by decide +kernel
theorem dX5_crossing_77 : decode cX5_crossing 77 = .ok (.iconst (-1), 1) := by decide +kernel
theorem dX5_crossing_78 : decode cX5_crossing 78 = .ok (.ireturn, 1) := by decide +kernel
set_option maxRecDepth 20000 in
theorem ggX5_check_X0_survey : GoodIn wsX5_check wsX0_survey := goodIn_r _ [10, 11, 12, 13, 14, 15, 16, 17, 18, 19, 20, 21, 22, 23, 24, 25, 26, 27, 28, 29, 30, 31, 32, 33, 34, 35, 36, 37, 38, 39, 40, 41, 42, 43, 44, 45, 46, 47, 48, 49, 50, 51, 52, 53, 54, 55, 56, 57, 58, 59, 60, 61, 62, 63, 64, 65, 66, 67, 68, 69, 70, 71, 72, 73, 74, 75, 76, 77, 78, 79, 80, 81, 82, 83, 84, 85, 86, 87, 9, 88, 89, 90, 91, 92, 93, 94, 95, 96, 97, 98, 99, 100, 101, 102, 103, 104, 105, 106, 107, 108, 109, 110, 111, 112, 113, 114, 115, 116, 117, 118, 119, 120, 121, 122, 123, 124, 125, 126, 127, 128, 129, 130, 131, 132, 133, 134, 135, 136, 137, 138, 139, 140, 141, 142, 143, 144, 145, 146, 147, 148, 149, 150, 151, 152, 153, 154, 155, 156, 157, 158, 159, 160, 161, 162, 163, 164, 165, 166, 167, 168, 169, 170, 171, 172, 173, 174, 175, 176, 177, 178, 179, 180, 181, 182, 183, 184, 185, 186, 187, 188, 189, 190, 191, 192, 193, 194, 195, 196, 197, 198, 199, 200, 201, 202, 203, 204, 205, 206, 207, 208, 209, 210, 211, 212, 213, 214, 215, 216, 217, 218, 219, 220, 221, 222, 223, 224, 225, 226, 227, 228, 229, 230, 231, 232, 233, 234, 235, 236, 237, 238, 239, 240, 253, 254, 255, 256, 257, 258, 259, 260, 261, 262, 263, 264, 265, 266, 267, 268, 269, 270, 271, 272, 273, 274, 275, 276, 277, 278, 279, 280] (by decide +kernel) (by decide +kernel)
set_option maxRecDepth 20000 in
theorem gX5_check_X0_survey : GoodIn wsX5_check (wsV RX5 44 RX0 yX0_survey wsX0_survey) := goodIn_app (goodIn_of _ (by decide +kernel)) ggX5_check_X0_survey
set_option maxRecDepth 20000 in
theorem ggX5_check_X0_wrong : GoodIn wsX5_check wsX0_wrong := goodIn_r _ [244, 13, 253, 254, 255, 256, 257, 258, 259, 260, 261] (by decide +kernel) (by decide +kernel)
set_option maxRecDepth 20000 in
theorem gX5_check_X0_wrong : GoodIn wsX5_check (wsV RX5 47 RX0 yX0_wrong wsX0_wrong) := goodIn_app (goodIn_of _ (by decide +kernel)) ggX5_check_X0_wrong
set_option maxRecDepth 20000 in
theorem ggX5_check_X4_clear : GoodIn wsX5_check wsX4_clear := goodIn_r _ [248, 27, 268, 269, 270] (by decide +kernel) (by decide +kernel)
set_option maxRecDepth 20000 in
theorem gX5_check_X4_clear : GoodIn wsX5_check (wsV RX5 49 RX4 yX4_clear wsX4_clear) := goodIn_app (goodIn_of _ (by decide +kernel)) ggX5_check_X4_clear
theorem dX5_check_0 : decode cX5_check 0 = .ok (.iload_n 1, 1) := by decide +kernel
theorem dX5_check_1 : decode cX5_check 1 = .ok (.ifCond .lt 9, 3) := by decide +kernel
theorem dX5_check_4 : decode cX5_check 4 = .ok (.iload_n 1, 1) := by decide +kernel
theorem dX5_check_5 : decode cX5_check 5 = .ok (.bipush 20, 2) := by decide +kernel
theorem dX5_check_7 : decode cX5_check 7 = .ok (.if_icmp .le 5, 3) := by decide +kernel
theorem dX5_check_10 : decode cX5_check 10 = .ok (.iconst (-1), 1) := by decide +kernel
theorem dX5_check_11 : decode cX5_check 11 = .ok (.ireturn, 1) := by decide +kernel
theorem dX5_check_12 : decode cX5_check 12 = .ok (.aload_n 0, 1) := by decide +kernel
theorem dX5_check_13 : decode cX5_check 13 = .ok (.getfield 12, 3) := by decide +kernel
theorem dX5_check_16 : decode cX5_check 16 = .ok (.invokevirtual 44, 3) := by decide +kernel
theorem dX5_check_19 : decode cX5_check 19 = .ok (.istore_n 2, 1) := by decide +kernel
theorem dX5_check_20 : decode cX5_check 20 = .ok (.aload_n 0, 1) := by decide +kernel
theorem dX5_check_21 : decode cX5_check 21 = .ok (.aload_n 0, 1) := by decide +kernel
theorem dX5_check_22 : decode cX5_check 22 = .ok (.getfield 12, 3) := by decide +kernel
theorem dX5_check_25 : decode cX5_check 25 = .ok (.invokevirtual 47, 3) := by decide +kernel
theorem dX5_check_28 : decode cX5_check 28 = .ok (.putfield 23, 3) := by decide +kernel
theorem dX5_check_31 : decode cX5_check 31 = .ok (.iload_n 2, 1) := by decide +kernel
theorem dX5_check_32 : decode cX5_check 32 = .ok (.ifCond .ne 26, 3) := by decide +kernel
theorem dX5_check_35 : decode cX5_check 35 = .ok (.aload_n 0, 1) := by decide +kernel
theorem dX5_check_36 : decode cX5_check 36 = .ok (.getfield 16, 3) := by decide +kernel
theorem dX5_check_39 : decode cX5_check 39 = .ok (.astore_n 3, 1) := by decide +kernel
theorem dX5_check_40 : decode cX5_check 40 = .ok (.aload_n 0, 1) := by decide +kernel
theorem dX5_check_41 : decode cX5_check 41 = .ok (.aload_n 0, 1) := by decide +kernel
theorem dX5_check_42 : decode cX5_check 42 = .ok (.getfield 12, 3) := by decide +kernel
theorem dX5_check_45 : decode cX5_check 45 = .ok (.putfield 16, 3) := by decide +kernel
theorem dX5_check_48 : decode cX5_check 48 = .ok (.aload_n 0, 1) := by decide +kernel
theorem dX5_check_49 : decode cX5_check 49 = .ok (.aload_n 3, 1) := by decide +kernel
theorem dX5_check_50 : decode cX5_check 50 = .ok (.putfield 12, 3) := by decide +kernel
theorem dX5_check_53 : decode cX5_check 53 = .ok (.aload_n 0, 1) := by decide +kernel
theorem dX5_check_54 : decode cX5_check 54 = .ok (.iload_n 1, 1) := by decide +kernel
theorem dX5_check_55 : decode cX5_check 55 = .ok (.putfield 19, 3) := by decide +kernel
theorem dX5_check_58 : decode cX5_check 58 = .ok (.aload_n 0, 1) := by decide +kernel
theorem dX5_check_59 : decode cX5_check 59 = .ok (.getfield 12, 3) := by decide +kernel
theorem dX5_check_62 : decode cX5_check 62 = .ok (.getfield 30, 3) := by decide +kernel
theorem dX5_check_65 : decode cX5_check 65 = .ok (.invokevirtual 49, 3) := by decide +kernel
theorem dX5_check_68 : decode cX5_check 68 = .ok (.iload_n 2, 1) := by decide +kernel
theorem dX5_check_69 : decode cX5_check 69 = .ok (.ireturn, 1) := by decide +kernel
theorem dX5_which_0 : decode cX5_which 0 = .ok (.aload_n 0, 1) := by decide +kernel
theorem dX5_which_1 : decode cX5_which 1 = .ok (.getfield 23, 3) := by decide +kernel
theorem dX5_which_4 : decode cX5_which 4 = .ok (.ireturn, 1) := by decide +kernel
set_option maxRecDepth 20000 in
theorem ggX5_many_X4_crossings : GoodIn wsX5_many wsX4_crossings := goodIn_r _ [15, 16, 62, 63, 64] (by decide +kernel) (by decide +kernel)
set_option maxRecDepth 20000 in
theorem gX5_many_X4_crossings : GoodIn wsX5_many (wsV RX5 40 RX4 yX4_crossings wsX4_crossings) := goodIn_app (goodIn_of _ (by decide +kernel)) ggX5_many_X4_crossings
set_option maxRecDepth 20000 in
theorem ggX5_many_X1_count : GoodIn wsX5_many wsX1_count := goodIn_r _ [21, 22, 65, 66, 67, 68, 69, 70] (by decide +kernel) (by decide +kernel)
set_option maxRecDepth 20000 in
theorem gX5_many_X1_count : GoodIn wsX5_many (wsV RX5 56 RX1 yX1_count wsX1_count) := goodIn_app (goodIn_of _ (by decide +kernel)) ggX5_many_X1_count
set_option maxRecDepth 20000 in
theorem ggX5_many_X3_count : GoodIn wsX5_many wsX3_count := goodIn_r _ [27, 28, 71, 72, 73, 74, 75, 76] (by decide +kernel) (by decide +kernel)
set_option maxRecDepth 20000 in
theorem gX5_many_X3_count : GoodIn wsX5_many (wsV RX5 65 RX3 yX3_count wsX3_count) := goodIn_app (goodIn_of _ (by decide +kernel)) ggX5_many_X3_count
set_option maxRecDepth 20000 in
theorem ggX5_many_X2_count : GoodIn wsX5_many wsX2_count := goodIn_r _ [33, 34, 77, 78, 79, 80] (by decide +kernel) (by decide +kernel)
set_option maxRecDepth 20000 in
theorem gX5_many_X2_count : GoodIn wsX5_many (wsV RX5 72 RX2 yX2_count wsX2_count) := goodIn_app (goodIn_of _ (by decide +kernel)) ggX5_many_X2_count
set_option maxRecDepth 20000 in
theorem ggX5_many_X4_sumOfSigns : GoodIn wsX5_many wsX4_sumOfSigns := goodIn_r _ [38, 16, 39, 62, 63, 64] (by decide +kernel) (by decide +kernel)
set_option maxRecDepth 20000 in
theorem gX5_many_X4_sumOfSigns : GoodIn wsX5_many (wsV RX5 75 RX4 yX4_sumOfSigns wsX4_sumOfSigns) := goodIn_app (goodIn_of _ (by decide +kernel)) ggX5_many_X4_sumOfSigns
set_option maxRecDepth 20000 in
theorem ggX5_many_X1_alternate : GoodIn wsX5_many wsX1_alternate := goodIn_r _ [43, 22, 44, 45, 46, 47, 14, 48, 65, 66, 67, 68, 69, 70] (by decide +kernel) (by decide +kernel)
set_option maxRecDepth 20000 in
theorem gX5_many_X1_alternate : GoodIn wsX5_many (wsV RX5 87 RX1 yX1_alternate wsX1_alternate) := goodIn_app (goodIn_of _ (by decide +kernel)) ggX5_many_X1_alternate
theorem dX5_many_0 : decode cX5_many 0 = .ok (.iload_n 1, 1) := by decide +kernel
theorem dX5_many_1 : decode cX5_many 1 = .ok (.tableswitch 202 0 10 #[59, 70, 81, 97, 113, 118, 129, 140, 156, 172, 191], 59) := by decide +kernel
theorem dX5_many_60 : decode cX5_many 60 = .ok (.aload_n 0, 1) := by decide +kernel
theorem dX5_many_61 : decode cX5_many 61 = .ok (.getfield 16, 3) := by decide +kernel
theorem dX5_many_64 : decode cX5_many 64 = .ok (.getfield 30, 3) := by decide +kernel
theorem dX5_many_67 : decode cX5_many 67 = .ok (.invokevirtual 40, 3) := by decide +kernel
theorem dX5_many_70 : decode cX5_many 70 = .ok (.ireturn, 1) := by decide +kernel
theorem dX5_many_71 : decode cX5_many 71 = .ok (.aload_n 0, 1) := by decide +kernel
theorem dX5_many_72 : decode cX5_many 72 = .ok (.getfield 16, 3) := by decide +kernel
theorem dX5_many_75 : decode cX5_many 75 = .ok (.getfield 52, 3) := by decide +kernel
theorem dX5_many_78 : decode cX5_many 78 = .ok (.invokevirtual 56, 3) := by decide +kernel
theorem dX5_many_81 : decode cX5_many 81 = .ok (.ireturn, 1) := by decide +kernel
theorem dX5_many_82 : decode cX5_many 82 = .ok (.aload_n 0, 1) := by decide +kernel
theorem dX5_many_83 : decode cX5_many 83 = .ok (.getfield 16, 3) := by decide +kernel
theorem dX5_many_86 : decode cX5_many 86 = .ok (.getfield 61, 3) := by decide +kernel
theorem dX5_many_89 : decode cX5_many 89 = .ok (.invokevirtual 65, 3) := by decide +kernel
theorem dX5_many_92 : decode cX5_many 92 = .ok (.aload_n 0, 1) := by decide +kernel
theorem dX5_many_93 : decode cX5_many 93 = .ok (.getfield 19, 3) := by decide +kernel
theorem dX5_many_96 : decode cX5_many 96 = .ok (.iadd, 1) := by decide +kernel
theorem dX5_many_97 : decode cX5_many 97 = .ok (.ireturn, 1) := by decide +kernel
theorem dX5_many_98 : decode cX5_many 98 = .ok (.aload_n 0, 1) := by decide +kernel
theorem dX5_many_99 : decode cX5_many 99 = .ok (.getfield 16, 3) := by decide +kernel
theorem dX5_many_102 : decode cX5_many 102 = .ok (.getfield 68, 3) := by decide +kernel
theorem dX5_many_105 : decode cX5_many 105 = .ok (.invokevirtual 72, 3) := by decide +kernel
theorem dX5_many_108 : decode cX5_many 108 = .ok (.aload_n 0, 1) := by decide +kernel
theorem dX5_many_109 : decode cX5_many 109 = .ok (.getfield 19, 3) := by decide +kernel
theorem dX5_many_112 : decode cX5_many 112 = .ok (.iadd, 1) := by decide +kernel
theorem dX5_many_113 : decode cX5_many 113 = .ok (.ireturn, 1) := by decide +kernel
theorem dX5_many_114 : decode cX5_many 114 = .ok (.aload_n 0, 1) := by decide +kernel
theorem dX5_many_115 : decode cX5_many 115 = .ok (.getfield 19, 3) := by decide +kernel
theorem dX5_many_118 : decode cX5_many 118 = .ok (.ireturn, 1) := by decide +kernel
theorem dX5_many_119 : decode cX5_many 119 = .ok (.aload_n 0, 1) := by decide +kernel
theorem dX5_many_120 : decode cX5_many 120 = .ok (.getfield 16, 3) := by decide +kernel
theorem dX5_many_123 : decode cX5_many 123 = .ok (.getfield 30, 3) := by decide +kernel
theorem dX5_many_126 : decode cX5_many 126 = .ok (.invokevirtual 75, 3) := by decide +kernel
theorem dX5_many_129 : decode cX5_many 129 = .ok (.ireturn, 1) := by decide +kernel
theorem dX5_many_130 : decode cX5_many 130 = .ok (.aload_n 0, 1) := by decide +kernel
theorem dX5_many_131 : decode cX5_many 131 = .ok (.getfield 16, 3) := by decide +kernel
theorem dX5_many_134 : decode cX5_many 134 = .ok (.getfield 78, 3) := by decide +kernel
theorem dX5_many_137 : decode cX5_many 137 = .ok (.invokevirtual 65, 3) := by decide +kernel
theorem dX5_many_140 : decode cX5_many 140 = .ok (.ireturn, 1) := by decide +kernel
theorem dX5_many_141 : decode cX5_many 141 = .ok (.aload_n 0, 1) := by decide +kernel
theorem dX5_many_142 : decode cX5_many 142 = .ok (.getfield 16, 3) := by decide +kernel
theorem dX5_many_145 : decode cX5_many 145 = .ok (.getfield 81, 3) := by decide +kernel
theorem dX5_many_148 : decode cX5_many 148 = .ok (.invokevirtual 72, 3) := by decide +kernel
theorem dX5_many_151 : decode cX5_many 151 = .ok (.aload_n 0, 1) := by decide +kernel
theorem dX5_many_152 : decode cX5_many 152 = .ok (.getfield 19, 3) := by decide +kernel
theorem dX5_many_155 : decode cX5_many 155 = .ok (.iadd, 1) := by decide +kernel
theorem dX5_many_156 : decode cX5_many 156 = .ok (.ireturn, 1) := by decide +kernel
theorem dX5_many_157 : decode cX5_many 157 = .ok (.aload_n 0, 1) := by decide +kernel
theorem dX5_many_158 : decode cX5_many 158 = .ok (.getfield 16, 3) := by decide +kernel
theorem dX5_many_161 : decode cX5_many 161 = .ok (.getfield 84, 3) := by decide +kernel
theorem dX5_many_164 : decode cX5_many 164 = .ok (.invokevirtual 65, 3) := by decide +kernel
theorem dX5_many_167 : decode cX5_many 167 = .ok (.aload_n 0, 1) := by decide +kernel
theorem dX5_many_168 : decode cX5_many 168 = .ok (.getfield 19, 3) := by decide +kernel
theorem dX5_many_171 : decode cX5_many 171 = .ok (.iadd, 1) := by decide +kernel
theorem dX5_many_172 : decode cX5_many 172 = .ok (.ireturn, 1) := by decide +kernel
theorem dX5_many_173 : decode cX5_many 173 = .ok (.aload_n 0, 1) := by decide +kernel
theorem dX5_many_174 : decode cX5_many 174 = .ok (.getfield 16, 3) := by decide +kernel
theorem dX5_many_177 : decode cX5_many 177 = .ok (.getfield 52, 3) := by decide +kernel
theorem dX5_many_180 : decode cX5_many 180 = .ok (.invokevirtual 87, 3) := by decide +kernel
theorem dX5_many_183 : decode cX5_many 183 = .ok (.ifCond .eq 7, 3) := by decide +kernel
theorem dX5_many_186 : decode cX5_many 186 = .ok (.iconst 1, 1) := by decide +kernel
theorem dX5_many_187 : decode cX5_many 187 = .ok (.goto 4, 3) := by decide +kernel
theorem dX5_many_190 : decode cX5_many 190 = .ok (.iconst 0, 1) := by decide +kernel
theorem dX5_many_191 : decode cX5_many 191 = .ok (.ireturn, 1) := by decide +kernel
theorem dX5_many_192 : decode cX5_many 192 = .ok (.aload_n 0, 1) := by decide +kernel
theorem dX5_many_193 : decode cX5_many 193 = .ok (.getfield 12, 3) := by decide +kernel
theorem dX5_many_196 : decode cX5_many 196 = .ok (.getfield 30, 3) := by decide +kernel
theorem dX5_many_199 : decode cX5_many 199 = .ok (.invokevirtual 40, 3) := by decide +kernel
theorem dX5_many_202 : decode cX5_many 202 = .ok (.ireturn, 1) := by decide +kernel
theorem dX5_many_203 : decode cX5_many 203 = .ok (.sipush (-1000), 3) := by decide +kernel
theorem dX5_many_206 : decode cX5_many 206 = .ok (.ireturn, 1) := by decide +kernel
set_option maxRecDepth 20000 in
theorem ggX5_look_X4_has : GoodIn wsX5_look wsX4_has := goodIn_r _ [8, 9, 86, 87, 88] (by decide +kernel) (by decide +kernel)
set_option maxRecDepth 20000 in
theorem gX5_look_X4_has : GoodIn wsX5_look (wsV RX5 91 RX4 yX4_has wsX4_has) := goodIn_app (goodIn_of _ (by decide +kernel)) ggX5_look_X4_has
set_option maxRecDepth 20000 in
theorem ggX5_look_X4_label : GoodIn wsX5_look wsX4_label := goodIn_r _ [13, 14, 15, 16, 17, 7, 18, 9, 86, 87, 88] (by decide +kernel) (by decide +kernel)
set_option maxRecDepth 20000 in
theorem gX5_look_X4_label : GoodIn wsX5_look (wsV RX5 94 RX4 yX4_label wsX4_label) := goodIn_app (goodIn_of _ (by decide +kernel)) ggX5_look_X4_label
set_option maxRecDepth 20000 in
theorem ggX5_look_X4_sign : GoodIn wsX5_look wsX4_sign := goodIn_r _ [22, 23, 24, 5, 6, 7, 8, 9, 86, 87, 88] (by decide +kernel) (by decide +kernel)
set_option maxRecDepth 20000 in
theorem gX5_look_X4_sign : GoodIn wsX5_look (wsV RX5 98 RX4 yX4_sign wsX4_sign) := goodIn_app (goodIn_of _ (by decide +kernel)) ggX5_look_X4_sign
set_option maxRecDepth 20000 in
theorem ggX5_look_X2_numberOf : GoodIn wsX5_look wsX2_numberOf := goodIn_r _ [29, 30, 31, 32, 33, 28, 34, 35, 89, 90, 91, 92] (by decide +kernel) (by decide +kernel)
set_option maxRecDepth 20000 in
theorem gX5_look_X2_numberOf : GoodIn wsX5_look (wsV RX5 101 RX2 yX2_numberOf wsX2_numberOf) := goodIn_app (goodIn_of _ (by decide +kernel)) ggX5_look_X2_numberOf
set_option maxRecDepth 20000 in
theorem ggX5_look_X0_lowerComponent : GoodIn wsX5_look wsX0_lowerComponent := goodIn_r _ [40, 41, 42, 43, 44, 7, 45, 46, 47, 48, 49, 50, 51, 52, 53, 54, 55, 56, 57, 58, 59, 60, 61, 62, 77, 78, 79, 80, 81, 82, 83, 84, 85, 93, 94, 95, 96, 97, 98, 99, 100, 101, 102, 103, 104] (by decide +kernel) (by decide +kernel)
set_option maxRecDepth 20000 in
theorem gX5_look_X0_lowerComponent : GoodIn wsX5_look (wsV RX5 104 RX0 yX0_lowerComponent wsX0_lowerComponent) := goodIn_app (goodIn_of _ (by decide +kernel)) ggX5_look_X0_lowerComponent
set_option maxRecDepth 20000 in
theorem ggX5_look_X0_upperComponent : GoodIn wsX5_look wsX0_upperComponent := goodIn_r _ [66, 41, 42, 67, 68, 69, 70, 7, 71, 72, 20, 21, 22, 23, 24, 5, 6, 8, 9, 46, 47, 48, 49, 50, 51, 52, 53, 54, 55, 56, 57, 58, 59, 60, 61, 62, 77, 78, 79, 80, 81, 82, 83, 84, 85, 86, 87, 88, 93, 94, 95, 96, 97, 98, 99, 100, 101, 102, 103, 104] (by decide +kernel) (by decide +kernel)
set_option maxRecDepth 20000 in
theorem gX5_look_X0_upperComponent : GoodIn wsX5_look (wsV RX5 107 RX0 yX0_upperComponent wsX0_upperComponent) := goodIn_app (goodIn_of _ (by decide +kernel)) ggX5_look_X0_upperComponent
theorem dX5_look_0 : decode cX5_look 0 = .ok (.aload_n 0, 1) := by decide +kernel
theorem dX5_look_1 : decode cX5_look 1 = .ok (.getfield 16, 3) := by decide +kernel
theorem dX5_look_4 : decode cX5_look 4 = .ok (.getfield 30, 3) := by decide +kernel
theorem dX5_look_7 : decode cX5_look 7 = .ok (.iload_n 1, 1) := by decide +kernel
theorem dX5_look_8 : decode cX5_look 8 = .ok (.invokevirtual 91, 3) := by decide +kernel
theorem dX5_look_11 : decode cX5_look 11 = .ok (.ifCond .ne 7, 3) := by decide +kernel
theorem dX5_look_14 : decode cX5_look 14 = .ok (.sipush (-1000), 3) := by decide +kernel
theorem dX5_look_17 : decode cX5_look 17 = .ok (.ireturn, 1) := by decide +kernel
theorem dX5_look_18 : decode cX5_look 18 = .ok (.iload_n 2, 1) := by decide +kernel
theorem dX5_look_19 : decode cX5_look 19 = .ok (.tableswitch 103 0 7 #[45, 45, 45, 45, 61, 73, 85, 94], 45) := by decide +kernel
theorem dX5_look_64 : decode cX5_look 64 = .ok (.aload_n 0, 1) := by decide +kernel
theorem dX5_look_65 : decode cX5_look 65 = .ok (.getfield 16, 3) := by decide +kernel
theorem dX5_look_68 : decode cX5_look 68 = .ok (.getfield 30, 3) := by decide +kernel
theorem dX5_look_71 : decode cX5_look 71 = .ok (.iconst 4, 1) := by decide +kernel
theorem dX5_look_72 : decode cX5_look 72 = .ok (.iload_n 1, 1) := by decide +kernel
theorem dX5_look_73 : decode cX5_look 73 = .ok (.imul, 1) := by decide +kernel
theorem dX5_look_74 : decode cX5_look 74 = .ok (.iload_n 2, 1) := by decide +kernel
theorem dX5_look_75 : decode cX5_look 75 = .ok (.iadd, 1) := by decide +kernel
theorem dX5_look_76 : decode cX5_look 76 = .ok (.invokevirtual 94, 3) := by decide +kernel
theorem dX5_look_79 : decode cX5_look 79 = .ok (.ireturn, 1) := by decide +kernel
theorem dX5_look_80 : decode cX5_look 80 = .ok (.aload_n 0, 1) := by decide +kernel
theorem dX5_look_81 : decode cX5_look 81 = .ok (.getfield 16, 3) := by decide +kernel
theorem dX5_look_84 : decode cX5_look 84 = .ok (.getfield 30, 3) := by decide +kernel
theorem dX5_look_87 : decode cX5_look 87 = .ok (.iload_n 1, 1) := by decide +kernel
theorem dX5_look_88 : decode cX5_look 88 = .ok (.invokevirtual 98, 3) := by decide +kernel
theorem dX5_look_91 : decode cX5_look 91 = .ok (.ireturn, 1) := by decide +kernel
theorem dX5_look_92 : decode cX5_look 92 = .ok (.aload_n 0, 1) := by decide +kernel
theorem dX5_look_93 : decode cX5_look 93 = .ok (.getfield 16, 3) := by decide +kernel
theorem dX5_look_96 : decode cX5_look 96 = .ok (.getfield 68, 3) := by decide +kernel
theorem dX5_look_99 : decode cX5_look 99 = .ok (.iload_n 1, 1) := by decide +kernel
theorem dX5_look_100 : decode cX5_look 100 = .ok (.invokevirtual 101, 3) := by decide +kernel
theorem dX5_look_103 : decode cX5_look 103 = .ok (.ireturn, 1) := by decide +kernel
theorem dX5_look_104 : decode cX5_look 104 = .ok (.aload_n 0, 1) := by decide +kernel
theorem dX5_look_105 : decode cX5_look 105 = .ok (.getfield 16, 3) := by decide +kernel
theorem dX5_look_108 : decode cX5_look 108 = .ok (.iload_n 1, 1) := by decide +kernel
theorem dX5_look_109 : decode cX5_look 109 = .ok (.invokevirtual 104, 3) := by decide +kernel
theorem dX5_look_112 : decode cX5_look 112 = .ok (.ireturn, 1) := by decide +kernel
theorem dX5_look_113 : decode cX5_look 113 = .ok (.aload_n 0, 1) := by decide +kernel
theorem dX5_look_114 : decode cX5_look 114 = .ok (.getfield 16, 3) := by decide +kernel
theorem dX5_look_117 : decode cX5_look 117 = .ok (.iload_n 1, 1) := by decide +kernel
theorem dX5_look_118 : decode cX5_look 118 = .ok (.invokevirtual 107, 3) := by decide +kernel
theorem dX5_look_121 : decode cX5_look 121 = .ok (.ireturn, 1) := by decide +kernel
theorem dX5_look_122 : decode cX5_look 122 = .ok (.sipush (-1000), 3) := by decide +kernel
theorem dX5_look_125 : decode cX5_look 125 = .ok (.ireturn, 1) := by decide +kernel
set_option maxRecDepth 20000 in
theorem ggX5_edge_X1_rank : GoodIn wsX5_edge wsX1_rank := goodIn_r _ [10, 11, 12, 13, 14, 9, 15, 16, 17, 18, 19, 20, 75, 76, 77, 78, 79, 80] (by decide +kernel) (by decide +kernel)
set_option maxRecDepth 20000 in
theorem gX5_edge_X1_rank : GoodIn wsX5_edge (wsV RX5 110 RX1 yX1_rank wsX1_rank) := goodIn_app (goodIn_of _ (by decide +kernel)) ggX5_edge_X1_rank
set_option maxRecDepth 20000 in
theorem ggX5_edge_X1_from : GoodIn wsX5_edge wsX1_from := goodIn_r _ [24, 25, 17, 18, 19, 9, 20, 16, 75, 76, 77, 78, 79, 80] (by decide +kernel) (by decide +kernel)
set_option maxRecDepth 20000 in
theorem gX5_edge_X1_from : GoodIn wsX5_edge (wsV RX5 113 RX1 yX1_from wsX1_from) := goodIn_app (goodIn_of _ (by decide +kernel)) ggX5_edge_X1_from
set_option maxRecDepth 20000 in
theorem ggX5_edge_X1_to : GoodIn wsX5_edge wsX1_to := goodIn_r _ [29, 30, 17, 18, 19, 9, 20, 16, 75, 76, 77, 78, 79, 80] (by decide +kernel) (by decide +kernel)
set_option maxRecDepth 20000 in
theorem gX5_edge_X1_to : GoodIn wsX5_edge (wsV RX5 116 RX1 yX1_to wsX1_to) := goodIn_app (goodIn_of _ (by decide +kernel)) ggX5_edge_X1_to
set_option maxRecDepth 20000 in
theorem ggX5_edge_X3_next : GoodIn wsX5_edge wsX3_next := goodIn_r _ [35, 36, 37, 38, 39, 34, 40, 41, 81, 82, 83, 84, 85, 86] (by decide +kernel) (by decide +kernel)
set_option maxRecDepth 20000 in
theorem gX5_edge_X3_next : GoodIn wsX5_edge (wsV RX5 119 RX3 yX3_next wsX3_next) := goodIn_app (goodIn_of _ (by decide +kernel)) ggX5_edge_X3_next
set_option maxRecDepth 20000 in
theorem ggX5_edge_X1_label : GoodIn wsX5_edge wsX1_label := goodIn_r _ [45, 11, 17, 18, 19, 9, 20, 16, 75, 76, 77, 78, 79, 80] (by decide +kernel) (by decide +kernel)
set_option maxRecDepth 20000 in
theorem gX5_edge_X1_label : GoodIn wsX5_edge (wsV RX5 122 RX1 yX1_label wsX1_label) := goodIn_app (goodIn_of _ (by decide +kernel)) ggX5_edge_X1_label
set_option maxRecDepth 20000 in
theorem ggX5_edge_X3_roundOf : GoodIn wsX5_edge wsX3_roundOf := goodIn_r _ [49, 50, 37, 38, 39, 34, 40, 41, 81, 82, 83, 84, 85, 86] (by decide +kernel) (by decide +kernel)
set_option maxRecDepth 20000 in
theorem gX5_edge_X3_roundOf : GoodIn wsX5_edge (wsV RX5 123 RX3 yX3_roundOf wsX3_roundOf) := goodIn_app (goodIn_of _ (by decide +kernel)) ggX5_edge_X3_roundOf
set_option maxRecDepth 20000 in
theorem ggX5_edge_X2_least : GoodIn wsX5_edge wsX2_least := goodIn_r _ [55, 56, 57, 58, 59, 54, 60, 61, 87, 88, 89, 90] (by decide +kernel) (by decide +kernel)
set_option maxRecDepth 20000 in
theorem gX5_edge_X2_least : GoodIn wsX5_edge (wsV RX5 126 RX2 yX2_least wsX2_least) := goodIn_app (goodIn_of _ (by decide +kernel)) ggX5_edge_X2_least
theorem dX5_edge_0 : decode cX5_edge 0 = .ok (.aload_n 0, 1) := by decide +kernel
theorem dX5_edge_1 : decode cX5_edge 1 = .ok (.getfield 16, 3) := by decide +kernel
theorem dX5_edge_4 : decode cX5_edge 4 = .ok (.getfield 52, 3) := by decide +kernel
theorem dX5_edge_7 : decode cX5_edge 7 = .ok (.astore_n 3, 1) := by decide +kernel
theorem dX5_edge_8 : decode cX5_edge 8 = .ok (.aload_n 3, 1) := by decide +kernel
theorem dX5_edge_9 : decode cX5_edge 9 = .ok (.iload_n 1, 1) := by decide +kernel
theorem dX5_edge_10 : decode cX5_edge 10 = .ok (.invokevirtual 110, 3) := by decide +kernel
theorem dX5_edge_13 : decode cX5_edge 13 = .ok (.istore 4, 2) := by decide +kernel
theorem dX5_edge_15 : decode cX5_edge 15 = .ok (.iload 4, 2) := by decide +kernel
theorem dX5_edge_17 : decode cX5_edge 17 = .ok (.iconst (-1), 1) := by decide +kernel
theorem dX5_edge_18 : decode cX5_edge 18 = .ok (.if_icmp .ne 5, 3) := by decide +kernel
theorem dX5_edge_21 : decode cX5_edge 21 = .ok (.iconst (-1), 1) := by decide +kernel
theorem dX5_edge_22 : decode cX5_edge 22 = .ok (.ireturn, 1) := by decide +kernel
theorem dX5_edge_23 : decode cX5_edge 23 = .ok (.iload_n 2, 1) := by decide +kernel
theorem dX5_edge_24 : decode cX5_edge 24 = .ok (.tableswitch 167 0 8 #[52, 61, 70, 79, 88, 105, 118, 133, 150], 52) := by decide +kernel
theorem dX5_edge_76 : decode cX5_edge 76 = .ok (.aload_n 3, 1) := by decide +kernel
theorem dX5_edge_77 : decode cX5_edge 77 = .ok (.iload 4, 2) := by decide +kernel
theorem dX5_edge_79 : decode cX5_edge 79 = .ok (.invokevirtual 113, 3) := by decide +kernel
theorem dX5_edge_82 : decode cX5_edge 82 = .ok (.iconst 4, 1) := by decide +kernel
theorem dX5_edge_83 : decode cX5_edge 83 = .ok (.idiv, 1) := by decide +kernel
theorem dX5_edge_84 : decode cX5_edge 84 = .ok (.ireturn, 1) := by decide +kernel
theorem dX5_edge_85 : decode cX5_edge 85 = .ok (.aload_n 3, 1) := by decide +kernel
theorem dX5_edge_86 : decode cX5_edge 86 = .ok (.iload 4, 2) := by decide +kernel
theorem dX5_edge_88 : decode cX5_edge 88 = .ok (.invokevirtual 113, 3) := by decide +kernel
theorem dX5_edge_91 : decode cX5_edge 91 = .ok (.iconst 4, 1) := by decide +kernel
theorem dX5_edge_92 : decode cX5_edge 92 = .ok (.irem, 1) := by decide +kernel
theorem dX5_edge_93 : decode cX5_edge 93 = .ok (.ireturn, 1) := by decide +kernel
theorem dX5_edge_94 : decode cX5_edge 94 = .ok (.aload_n 3, 1) := by decide +kernel
theorem dX5_edge_95 : decode cX5_edge 95 = .ok (.iload 4, 2) := by decide +kernel
theorem dX5_edge_97 : decode cX5_edge 97 = .ok (.invokevirtual 116, 3) := by decide +kernel
theorem dX5_edge_100 : decode cX5_edge 100 = .ok (.iconst 4, 1) := by decide +kernel
theorem dX5_edge_101 : decode cX5_edge 101 = .ok (.idiv, 1) := by decide +kernel
theorem dX5_edge_102 : decode cX5_edge 102 = .ok (.ireturn, 1) := by decide +kernel
theorem dX5_edge_103 : decode cX5_edge 103 = .ok (.aload_n 3, 1) := by decide +kernel
theorem dX5_edge_104 : decode cX5_edge 104 = .ok (.iload 4, 2) := by decide +kernel
theorem dX5_edge_106 : decode cX5_edge 106 = .ok (.invokevirtual 116, 3) := by decide +kernel
theorem dX5_edge_109 : decode cX5_edge 109 = .ok (.iconst 4, 1) := by decide +kernel
theorem dX5_edge_110 : decode cX5_edge 110 = .ok (.irem, 1) := by decide +kernel
theorem dX5_edge_111 : decode cX5_edge 111 = .ok (.ireturn, 1) := by decide +kernel
theorem dX5_edge_112 : decode cX5_edge 112 = .ok (.aload_n 3, 1) := by decide +kernel
theorem dX5_edge_113 : decode cX5_edge 113 = .ok (.aload_n 0, 1) := by decide +kernel
theorem dX5_edge_114 : decode cX5_edge 114 = .ok (.getfield 16, 3) := by decide +kernel
theorem dX5_edge_117 : decode cX5_edge 117 = .ok (.getfield 61, 3) := by decide +kernel
theorem dX5_edge_120 : decode cX5_edge 120 = .ok (.iload 4, 2) := by decide +kernel
theorem dX5_edge_122 : decode cX5_edge 122 = .ok (.invokevirtual 119, 3) := by decide +kernel
theorem dX5_edge_125 : decode cX5_edge 125 = .ok (.invokevirtual 122, 3) := by decide +kernel
theorem dX5_edge_128 : decode cX5_edge 128 = .ok (.ireturn, 1) := by decide +kernel
theorem dX5_edge_129 : decode cX5_edge 129 = .ok (.aload_n 0, 1) := by decide +kernel
theorem dX5_edge_130 : decode cX5_edge 130 = .ok (.getfield 16, 3) := by decide +kernel
theorem dX5_edge_133 : decode cX5_edge 133 = .ok (.getfield 61, 3) := by decide +kernel
theorem dX5_edge_136 : decode cX5_edge 136 = .ok (.iload 4, 2) := by decide +kernel
theorem dX5_edge_138 : decode cX5_edge 138 = .ok (.invokevirtual 123, 3) := by decide +kernel
theorem dX5_edge_141 : decode cX5_edge 141 = .ok (.ireturn, 1) := by decide +kernel
theorem dX5_edge_142 : decode cX5_edge 142 = .ok (.aload_n 0, 1) := by decide +kernel
theorem dX5_edge_143 : decode cX5_edge 143 = .ok (.getfield 16, 3) := by decide +kernel
theorem dX5_edge_146 : decode cX5_edge 146 = .ok (.getfield 78, 3) := by decide +kernel
theorem dX5_edge_149 : decode cX5_edge 149 = .ok (.iconst 2, 1) := by decide +kernel
theorem dX5_edge_150 : decode cX5_edge 150 = .ok (.iload 4, 2) := by decide +kernel
theorem dX5_edge_152 : decode cX5_edge 152 = .ok (.imul, 1) := by decide +kernel
theorem dX5_edge_153 : decode cX5_edge 153 = .ok (.invokevirtual 123, 3) := by decide +kernel
theorem dX5_edge_156 : decode cX5_edge 156 = .ok (.ireturn, 1) := by decide +kernel
theorem dX5_edge_157 : decode cX5_edge 157 = .ok (.aload_n 0, 1) := by decide +kernel
theorem dX5_edge_158 : decode cX5_edge 158 = .ok (.getfield 16, 3) := by decide +kernel
theorem dX5_edge_161 : decode cX5_edge 161 = .ok (.getfield 78, 3) := by decide +kernel
theorem dX5_edge_164 : decode cX5_edge 164 = .ok (.iconst 2, 1) := by decide +kernel
theorem dX5_edge_165 : decode cX5_edge 165 = .ok (.iload 4, 2) := by decide +kernel
theorem dX5_edge_167 : decode cX5_edge 167 = .ok (.imul, 1) := by decide +kernel
theorem dX5_edge_168 : decode cX5_edge 168 = .ok (.iconst 1, 1) := by decide +kernel
theorem dX5_edge_169 : decode cX5_edge 169 = .ok (.iadd, 1) := by decide +kernel
theorem dX5_edge_170 : decode cX5_edge 170 = .ok (.invokevirtual 123, 3) := by decide +kernel
theorem dX5_edge_173 : decode cX5_edge 173 = .ok (.ireturn, 1) := by decide +kernel
theorem dX5_edge_174 : decode cX5_edge 174 = .ok (.aload_n 3, 1) := by decide +kernel
theorem dX5_edge_175 : decode cX5_edge 175 = .ok (.aload_n 0, 1) := by decide +kernel
theorem dX5_edge_176 : decode cX5_edge 176 = .ok (.getfield 16, 3) := by decide +kernel
theorem dX5_edge_179 : decode cX5_edge 179 = .ok (.getfield 81, 3) := by decide +kernel
theorem dX5_edge_182 : decode cX5_edge 182 = .ok (.iload 4, 2) := by decide +kernel
theorem dX5_edge_184 : decode cX5_edge 184 = .ok (.invokevirtual 126, 3) := by decide +kernel
theorem dX5_edge_187 : decode cX5_edge 187 = .ok (.invokevirtual 122, 3) := by decide +kernel
theorem dX5_edge_190 : decode cX5_edge 190 = .ok (.ireturn, 1) := by decide +kernel
theorem dX5_edge_191 : decode cX5_edge 191 = .ok (.iconst (-1), 1) := by decide +kernel
theorem dX5_edge_192 : decode cX5_edge 192 = .ok (.ireturn, 1) := by decide +kernel
set_option maxRecDepth 20000 in
theorem ggX5_component_X5_hasComponent : GoodIn wsX5_component wsX5_hasComponent := goodIn_r _ [8, 1, 2, 9, 10, 11, 12, 13, 14, 15, 139, 140, 141, 142, 143, 144, 145, 146, 147, 148, 149, 150, 151, 152, 153, 154, 155, 156, 157] (by decide +kernel) (by decide +kernel)
set_option maxRecDepth 20000 in
theorem gX5_component_X5_hasComponent : GoodIn wsX5_component (wsV RX5 129 RX5 yX5_hasComponent wsX5_hasComponent) := goodIn_app (goodIn_of _ (by decide +kernel)) ggX5_component_X5_hasComponent
set_option maxRecDepth 20000 in
theorem ggX5_component_X0_linking : GoodIn wsX5_component wsX0_linking := goodIn_r _ [20, 21, 22, 23, 19, 24, 25, 26, 27, 28, 29, 30, 31, 32, 33, 34, 35, 36, 37, 38, 39, 40, 41, 42, 43, 44, 45, 46, 47, 48, 49, 13, 50, 51, 52, 53, 54, 55, 56, 57, 58, 59, 60, 61, 62, 63, 64, 65, 66, 67, 68, 69, 70, 71, 72, 73, 74, 143, 144, 145, 146, 147, 148, 149, 150, 151, 158, 159, 160, 161, 162, 163, 164, 165, 166, 152, 153, 154, 155, 156, 157] (by decide +kernel) (by decide +kernel)
set_option maxRecDepth 20000 in
theorem gX5_component_X0_linking : GoodIn wsX5_component (wsV RX5 132 RX0 yX0_linking wsX0_linking) := goodIn_app (goodIn_of _ (by decide +kernel)) ggX5_component_X0_linking
set_option maxRecDepth 20000 in
theorem ggX5_component_X3_count : GoodIn wsX5_component wsX3_count := goodIn_r _ [14, 15, 152, 153, 154, 155, 156, 157] (by decide +kernel) (by decide +kernel)
set_option maxRecDepth 20000 in
theorem gX5_component_X3_count : GoodIn wsX5_component (wsV RX5 65 RX3 yX3_count wsX3_count) := goodIn_app (goodIn_of _ (by decide +kernel)) ggX5_component_X3_count
set_option maxRecDepth 20000 in
theorem ggX5_component_X5_tellCircle : GoodIn wsX5_component wsX5_tellCircle := goodIn_r _ [78, 1, 79, 80, 81, 82, 83, 84, 85, 139, 140, 141, 142, 143, 144, 145, 146, 147, 148, 149, 150, 151, 167, 168, 169, 170] (by decide +kernel) (by decide +kernel)
set_option maxRecDepth 20000 in
theorem gX5_component_X5_tellCircle : GoodIn wsX5_component (wsV RX5 136 RX5 yX5_tellCircle wsX5_tellCircle) := goodIn_app (goodIn_of _ (by decide +kernel)) ggX5_component_X5_tellCircle
set_option maxRecDepth 20000 in
theorem ggX5_component_X3_first : GoodIn wsX5_component wsX3_first := goodIn_r _ [89, 90, 91, 92, 93, 13, 94, 15, 152, 153, 154, 155, 156, 157] (by decide +kernel) (by decide +kernel)
set_option maxRecDepth 20000 in
theorem gX5_component_X3_first : GoodIn wsX5_component (wsV RX5 139 RX3 yX3_first wsX3_first) := goodIn_app (goodIn_of _ (by decide +kernel)) ggX5_component_X3_first
set_option maxRecDepth 20000 in
theorem ggX5_component_X1_label : GoodIn wsX5_component wsX1_label := goodIn_r _ [98, 99, 100, 101, 102, 44, 103, 104, 161, 162, 163, 164, 165, 166] (by decide +kernel) (by decide +kernel)
set_option maxRecDepth 20000 in
theorem gX5_component_X1_label : GoodIn wsX5_component (wsV RX5 122 RX1 yX1_label wsX1_label) := goodIn_app (goodIn_of _ (by decide +kernel)) ggX5_component_X1_label
set_option maxRecDepth 20000 in
theorem ggX5_component_X3_size : GoodIn wsX5_component wsX3_size := goodIn_r _ [108, 109, 91, 92, 93, 13, 94, 15, 152, 153, 154, 155, 156, 157] (by decide +kernel) (by decide +kernel)
set_option maxRecDepth 20000 in
theorem gX5_component_X3_size : GoodIn wsX5_component (wsV RX5 142 RX3 yX3_size wsX3_size) := goodIn_app (goodIn_of _ (by decide +kernel)) ggX5_component_X3_size
set_option maxRecDepth 20000 in
theorem ggX5_component_X0_sumOfOwnSigns : GoodIn wsX5_component wsX0_sumOfOwnSigns := goodIn_r _ [113, 21, 22, 23, 19, 24, 25, 26, 27, 28, 29, 30, 31, 32, 33, 34, 35, 36, 37, 38, 39, 40, 41, 42, 43, 44, 45, 46, 47, 48, 49, 13, 50, 51, 52, 53, 54, 55, 56, 57, 58, 59, 60, 61, 62, 63, 64, 65, 66, 67, 68, 69, 70, 71, 72, 73, 74, 143, 144, 145, 146, 147, 148, 149, 150, 151, 158, 159, 160, 161, 162, 163, 164, 165, 166, 152, 153, 154, 155, 156, 157] (by decide +kernel) (by decide +kernel)
set_option maxRecDepth 20000 in
theorem gX5_component_X0_sumOfOwnSigns : GoodIn wsX5_component (wsV RX5 145 RX0 yX0_sumOfOwnSigns wsX0_sumOfOwnSigns) := goodIn_app (goodIn_of _ (by decide +kernel)) ggX5_component_X0_sumOfOwnSigns
set_option maxRecDepth 20000 in
theorem ggX5_component_X0_pieceOfComponent : GoodIn wsX5_component wsX0_pieceOfComponent := goodIn_r _ [117, 36, 118, 87, 88, 13, 89, 90, 91, 92, 93, 94, 15, 119, 120, 121, 19, 122, 123, 37, 124, 125, 126, 44, 127, 128, 100, 101, 102, 103, 104, 129, 130, 131, 83, 132, 133, 134, 135, 136, 137, 138, 143, 144, 145, 146, 147, 148, 149, 150, 151, 152, 153, 154, 155, 156, 157, 161, 162, 163, 164, 165, 166, 167, 168, 169, 170] (by decide +kernel) (by decide +kernel)
set_option maxRecDepth 20000 in
theorem gX5_component_X0_pieceOfComponent : GoodIn wsX5_component (wsV RX5 148 RX0 yX0_pieceOfComponent wsX0_pieceOfComponent) := goodIn_app (goodIn_of _ (by decide +kernel)) ggX5_component_X0_pieceOfComponent
theorem dX5_component_0 : decode cX5_component 0 = .ok (.aload_n 0, 1) := by decide +kernel
theorem dX5_component_1 : decode cX5_component 1 = .ok (.iload_n 1, 1) := by decide +kernel
theorem dX5_component_2 : decode cX5_component 2 = .ok (.invokevirtual 129, 3) := by decide +kernel
theorem dX5_component_5 : decode cX5_component 5 = .ok (.ifCond .ne 7, 3) := by decide +kernel
theorem dX5_component_8 : decode cX5_component 8 = .ok (.sipush (-1000), 3) := by decide +kernel
theorem dX5_component_11 : decode cX5_component 11 = .ok (.ireturn, 1) := by decide +kernel
theorem dX5_component_12 : decode cX5_component 12 = .ok (.iload_n 2, 1) := by decide +kernel
theorem dX5_component_13 : decode cX5_component 13 = .ok (.bipush 10, 2) := by decide +kernel
theorem dX5_component_15 : decode cX5_component 15 = .ok (.if_icmp .lt 32, 3) := by decide +kernel
theorem dX5_component_18 : decode cX5_component 18 = .ok (.iload_n 2, 1) := by decide +kernel
theorem dX5_component_19 : decode cX5_component 19 = .ok (.bipush 10, 2) := by decide +kernel
theorem dX5_component_21 : decode cX5_component 21 = .ok (.isub, 1) := by decide +kernel
theorem dX5_component_22 : decode cX5_component 22 = .ok (.istore_n 3, 1) := by decide +kernel
theorem dX5_component_23 : decode cX5_component 23 = .ok (.aload_n 0, 1) := by decide +kernel
theorem dX5_component_24 : decode cX5_component 24 = .ok (.iload_n 3, 1) := by decide +kernel
theorem dX5_component_25 : decode cX5_component 25 = .ok (.invokevirtual 129, 3) := by decide +kernel
theorem dX5_component_28 : decode cX5_component 28 = .ok (.ifCond .eq 15, 3) := by decide +kernel
theorem dX5_component_31 : decode cX5_component 31 = .ok (.aload_n 0, 1) := by decide +kernel
theorem dX5_component_32 : decode cX5_component 32 = .ok (.getfield 16, 3) := by decide +kernel
theorem dX5_component_35 : decode cX5_component 35 = .ok (.iload_n 1, 1) := by decide +kernel
theorem dX5_component_36 : decode cX5_component 36 = .ok (.iload_n 3, 1) := by decide +kernel
theorem dX5_component_37 : decode cX5_component 37 = .ok (.invokevirtual 132, 3) := by decide +kernel
theorem dX5_component_40 : decode cX5_component 40 = .ok (.goto 6, 3) := by decide +kernel
theorem dX5_component_43 : decode cX5_component 43 = .ok (.sipush (-1000), 3) := by decide +kernel
theorem dX5_component_46 : decode cX5_component 46 = .ok (.ireturn, 1) := by decide +kernel
theorem dX5_component_47 : decode cX5_component 47 = .ok (.iload_n 1, 1) := by decide +kernel
theorem dX5_component_48 : decode cX5_component 48 = .ok (.aload_n 0, 1) := by decide +kernel
theorem dX5_component_49 : decode cX5_component 49 = .ok (.getfield 16, 3) := by decide +kernel
theorem dX5_component_52 : decode cX5_component 52 = .ok (.getfield 61, 3) := by decide +kernel
theorem dX5_component_55 : decode cX5_component 55 = .ok (.invokevirtual 65, 3) := by decide +kernel
theorem dX5_component_58 : decode cX5_component 58 = .ok (.if_icmp .lt 21, 3) := by decide +kernel
theorem dX5_component_61 : decode cX5_component 61 = .ok (.aload_n 0, 1) := by decide +kernel
theorem dX5_component_62 : decode cX5_component 62 = .ok (.iload_n 1, 1) := by decide +kernel
theorem dX5_component_63 : decode cX5_component 63 = .ok (.aload_n 0, 1) := by decide +kernel
theorem dX5_component_64 : decode cX5_component 64 = .ok (.getfield 16, 3) := by decide +kernel
theorem dX5_component_67 : decode cX5_component 67 = .ok (.getfield 61, 3) := by decide +kernel
theorem dX5_component_70 : decode cX5_component 70 = .ok (.invokevirtual 65, 3) := by decide +kernel
theorem dX5_component_73 : decode cX5_component 73 = .ok (.isub, 1) := by decide +kernel
theorem dX5_component_74 : decode cX5_component 74 = .ok (.iload_n 2, 1) := by decide +kernel
theorem dX5_component_75 : decode cX5_component 75 = .ok (.invokevirtual 136, 3) := by decide +kernel
theorem dX5_component_78 : decode cX5_component 78 = .ok (.ireturn, 1) := by decide +kernel
theorem dX5_component_79 : decode cX5_component 79 = .ok (.iload_n 2, 1) := by decide +kernel
theorem dX5_component_80 : decode cX5_component 80 = .ok (.tableswitch 84 0 3 #[32, 54, 66, 75], 32) := by decide +kernel
theorem dX5_component_112 : decode cX5_component 112 = .ok (.aload_n 0, 1) := by decide +kernel
theorem dX5_component_113 : decode cX5_component 113 = .ok (.getfield 16, 3) := by decide +kernel
theorem dX5_component_116 : decode cX5_component 116 = .ok (.getfield 52, 3) := by decide +kernel
theorem dX5_component_119 : decode cX5_component 119 = .ok (.aload_n 0, 1) := by decide +kernel
theorem dX5_component_120 : decode cX5_component 120 = .ok (.getfield 16, 3) := by decide +kernel
theorem dX5_component_123 : decode cX5_component 123 = .ok (.getfield 61, 3) := by decide +kernel
theorem dX5_component_126 : decode cX5_component 126 = .ok (.iload_n 1, 1) := by decide +kernel
theorem dX5_component_127 : decode cX5_component 127 = .ok (.invokevirtual 139, 3) := by decide +kernel
theorem dX5_component_130 : decode cX5_component 130 = .ok (.invokevirtual 122, 3) := by decide +kernel
theorem dX5_component_133 : decode cX5_component 133 = .ok (.ireturn, 1) := by decide +kernel
theorem dX5_component_134 : decode cX5_component 134 = .ok (.aload_n 0, 1) := by decide +kernel
theorem dX5_component_135 : decode cX5_component 135 = .ok (.getfield 16, 3) := by decide +kernel
theorem dX5_component_138 : decode cX5_component 138 = .ok (.getfield 61, 3) := by decide +kernel
theorem dX5_component_141 : decode cX5_component 141 = .ok (.iload_n 1, 1) := by decide +kernel
theorem dX5_component_142 : decode cX5_component 142 = .ok (.invokevirtual 142, 3) := by decide +kernel
theorem dX5_component_145 : decode cX5_component 145 = .ok (.ireturn, 1) := by decide +kernel
theorem dX5_component_146 : decode cX5_component 146 = .ok (.aload_n 0, 1) := by decide +kernel
theorem dX5_component_147 : decode cX5_component 147 = .ok (.getfield 16, 3) := by decide +kernel
theorem dX5_component_150 : decode cX5_component 150 = .ok (.iload_n 1, 1) := by decide +kernel
theorem dX5_component_151 : decode cX5_component 151 = .ok (.invokevirtual 145, 3) := by decide +kernel
theorem dX5_component_154 : decode cX5_component 154 = .ok (.ireturn, 1) := by decide +kernel
theorem dX5_component_155 : decode cX5_component 155 = .ok (.aload_n 0, 1) := by decide +kernel
theorem dX5_component_156 : decode cX5_component 156 = .ok (.getfield 16, 3) := by decide +kernel
theorem dX5_component_159 : decode cX5_component 159 = .ok (.iload_n 1, 1) := by decide +kernel
theorem dX5_component_160 : decode cX5_component 160 = .ok (.invokevirtual 148, 3) := by decide +kernel
theorem dX5_component_163 : decode cX5_component 163 = .ok (.ireturn, 1) := by decide +kernel
theorem dX5_component_164 : decode cX5_component 164 = .ok (.sipush (-1000), 3) := by decide +kernel
theorem dX5_component_167 : decode cX5_component 167 = .ok (.ireturn, 1) := by decide +kernel
set_option maxRecDepth 20000 in
theorem ggX5_face_X3_size : GoodIn wsX5_face wsX3_size := goodIn_r _ [8, 9, 10, 11, 12, 7, 13, 14, 58, 59, 60, 61, 62, 63] (by decide +kernel) (by decide +kernel)
set_option maxRecDepth 20000 in
theorem gX5_face_X3_size : GoodIn wsX5_face (wsV RX5 142 RX3 yX3_size wsX3_size) := goodIn_app (goodIn_of _ (by decide +kernel)) ggX5_face_X3_size
set_option maxRecDepth 20000 in
theorem ggX5_face_X3_member : GoodIn wsX5_face wsX3_member := goodIn_r _ [18, 19, 20, 21, 7, 22, 23, 10, 11, 12, 13, 14, 24, 25, 26, 27, 28, 29, 30, 31, 32, 33, 58, 59, 60, 61, 62, 63] (by decide +kernel) (by decide +kernel)
set_option maxRecDepth 20000 in
theorem gX5_face_X3_member : GoodIn wsX5_face (wsV RX5 151 RX3 yX3_member wsX3_member) := goodIn_app (goodIn_of _ (by decide +kernel)) ggX5_face_X3_member
set_option maxRecDepth 20000 in
theorem ggX5_face_X1_label : GoodIn wsX5_face wsX1_label := goodIn_r _ [38, 39, 40, 41, 42, 37, 43, 44, 64, 65, 66, 67, 68, 69] (by decide +kernel) (by decide +kernel)
set_option maxRecDepth 20000 in
theorem gX5_face_X1_label : GoodIn wsX5_face (wsV RX5 122 RX1 yX1_label wsX1_label) := goodIn_app (goodIn_of _ (by decide +kernel)) ggX5_face_X1_label
theorem dX5_face_0 : decode cX5_face 0 = .ok (.aload_n 0, 1) := by decide +kernel
theorem dX5_face_1 : decode cX5_face 1 = .ok (.getfield 16, 3) := by decide +kernel
theorem dX5_face_4 : decode cX5_face 4 = .ok (.getfield 78, 3) := by decide +kernel
theorem dX5_face_7 : decode cX5_face 7 = .ok (.iload_n 1, 1) := by decide +kernel
theorem dX5_face_8 : decode cX5_face 8 = .ok (.invokevirtual 142, 3) := by decide +kernel
theorem dX5_face_11 : decode cX5_face 11 = .ok (.istore_n 3, 1) := by decide +kernel
theorem dX5_face_12 : decode cX5_face 12 = .ok (.iload_n 2, 1) := by decide +kernel
theorem dX5_face_13 : decode cX5_face 13 = .ok (.iconst (-1), 1) := by decide +kernel
theorem dX5_face_14 : decode cX5_face 14 = .ok (.if_icmp .ne 5, 3) := by decide +kernel
theorem dX5_face_17 : decode cX5_face 17 = .ok (.iload_n 3, 1) := by decide +kernel
theorem dX5_face_18 : decode cX5_face 18 = .ok (.ireturn, 1) := by decide +kernel
theorem dX5_face_19 : decode cX5_face 19 = .ok (.iload_n 2, 1) := by decide +kernel
theorem dX5_face_20 : decode cX5_face 20 = .ok (.ifCond .lt 8, 3) := by decide +kernel
theorem dX5_face_23 : decode cX5_face 23 = .ok (.iload_n 2, 1) := by decide +kernel
theorem dX5_face_24 : decode cX5_face 24 = .ok (.iload_n 3, 1) := by decide +kernel
theorem dX5_face_25 : decode cX5_face 25 = .ok (.if_icmp .lt 5, 3) := by decide +kernel
theorem dX5_face_28 : decode cX5_face 28 = .ok (.iconst 0, 1) := by decide +kernel
theorem dX5_face_29 : decode cX5_face 29 = .ok (.ireturn, 1) := by decide +kernel
theorem dX5_face_30 : decode cX5_face 30 = .ok (.aload_n 0, 1) := by decide +kernel
theorem dX5_face_31 : decode cX5_face 31 = .ok (.getfield 16, 3) := by decide +kernel
theorem dX5_face_34 : decode cX5_face 34 = .ok (.getfield 78, 3) := by decide +kernel
theorem dX5_face_37 : decode cX5_face 37 = .ok (.iload_n 1, 1) := by decide +kernel
theorem dX5_face_38 : decode cX5_face 38 = .ok (.iload_n 2, 1) := by decide +kernel
theorem dX5_face_39 : decode cX5_face 39 = .ok (.invokevirtual 151, 3) := by decide +kernel
theorem dX5_face_42 : decode cX5_face 42 = .ok (.istore 4, 2) := by decide +kernel
theorem dX5_face_44 : decode cX5_face 44 = .ok (.aload_n 0, 1) := by decide +kernel
theorem dX5_face_45 : decode cX5_face 45 = .ok (.getfield 16, 3) := by decide +kernel
theorem dX5_face_48 : decode cX5_face 48 = .ok (.getfield 52, 3) := by decide +kernel
theorem dX5_face_51 : decode cX5_face 51 = .ok (.iload 4, 2) := by decide +kernel
theorem dX5_face_53 : decode cX5_face 53 = .ok (.iconst 2, 1) := by decide +kernel
theorem dX5_face_54 : decode cX5_face 54 = .ok (.idiv, 1) := by decide +kernel
theorem dX5_face_55 : decode cX5_face 55 = .ok (.invokevirtual 122, 3) := by decide +kernel
theorem dX5_face_58 : decode cX5_face 58 = .ok (.istore 5, 2) := by decide +kernel
theorem dX5_face_60 : decode cX5_face 60 = .ok (.iload 4, 2) := by decide +kernel
theorem dX5_face_62 : decode cX5_face 62 = .ok (.iconst 2, 1) := by decide +kernel
theorem dX5_face_63 : decode cX5_face 63 = .ok (.irem, 1) := by decide +kernel
theorem dX5_face_64 : decode cX5_face 64 = .ok (.ifCond .ne 8, 3) := by decide +kernel
theorem dX5_face_67 : decode cX5_face 67 = .ok (.iload 5, 2) := by decide +kernel
theorem dX5_face_69 : decode cX5_face 69 = .ok (.goto 6, 3) := by decide +kernel
theorem dX5_face_72 : decode cX5_face 72 = .ok (.iload 5, 2) := by decide +kernel
theorem dX5_face_74 : decode cX5_face 74 = .ok (.ineg, 1) := by decide +kernel
theorem dX5_face_75 : decode cX5_face 75 = .ok (.ireturn, 1) := by decide +kernel
set_option maxRecDepth 20000 in
theorem ggX5_mirror_X4_exchangeAllStrands : GoodIn wsX5_mirror wsX4_exchangeAllStrands := goodIn_r _ [7, 8, 9, 10, 11, 6, 12, 13, 14, 15, 16, 17, 18, 19, 20, 21, 22, 23, 24, 25, 26, 27, 28, 29, 30, 31, 32, 33, 34, 271, 272, 273] (by decide +kernel) (by decide +kernel)
set_option maxRecDepth 20000 in
theorem gX5_mirror_X4_exchangeAllStrands : GoodIn wsX5_mirror (wsV RX5 154 RX4 yX4_exchangeAllStrands wsX4_exchangeAllStrands) := goodIn_app (goodIn_of _ (by decide +kernel)) ggX5_mirror_X4_exchangeAllStrands
set_option maxRecDepth 20000 in
theorem ggX5_mirror_X0_survey : GoodIn wsX5_mirror wsX0_survey := goodIn_r _ [39, 40, 41, 42, 43, 44, 45, 46, 47, 48, 49, 50, 51, 52, 53, 6, 54, 8, 55, 56, 57, 58, 30, 59, 60, 61, 62, 63, 64, 65, 66, 67, 68, 69, 70, 71, 72, 73, 74, 75, 76, 77, 78, 79, 80, 81, 82, 83, 84, 85, 86, 87, 88, 89, 90, 91, 92, 93, 94, 95, 96, 17, 18, 19, 20, 21, 22, 23, 24, 25, 97, 98, 99, 100, 101, 102, 103, 104, 38, 105, 106, 107, 108, 109, 110, 111, 112, 113, 114, 115, 116, 117, 118, 119, 120, 121, 122, 123, 124, 125, 126, 127, 128, 129, 130, 131, 132, 133, 134, 135, 136, 137, 138, 139, 140, 141, 142, 143, 144, 145, 146, 147, 148, 149, 150, 151, 152, 153, 154, 155, 156, 157, 158, 159, 160, 161, 162, 163, 164, 165, 166, 167, 168, 169, 170, 171, 172, 173, 174, 175, 176, 177, 178, 179, 180, 181, 182, 183, 184, 185, 186, 187, 188, 189, 190, 191, 192, 193, 194, 195, 196, 197, 198, 199, 200, 201, 202, 203, 204, 205, 206, 207, 208, 209, 210, 211, 212, 213, 214, 215, 216, 217, 218, 219, 220, 221, 222, 223, 224, 225, 226, 227, 228, 229, 230, 231, 232, 233, 234, 235, 236, 237, 238, 239, 240, 241, 242, 243, 244, 245, 246, 247, 248, 249, 250, 251, 252, 253, 254, 255, 256, 257, 262, 263, 264, 265, 266, 267, 268, 269, 270, 274, 275, 276, 277, 278, 279, 271, 272, 273, 280, 281, 282, 283, 284, 285, 286, 287, 288, 289] (by decide +kernel) (by decide +kernel)
set_option maxRecDepth 20000 in
theorem gX5_mirror_X0_survey : GoodIn wsX5_mirror (wsV RX5 44 RX0 yX0_survey wsX0_survey) := goodIn_app (goodIn_of _ (by decide +kernel)) ggX5_mirror_X0_survey
theorem dX5_mirror_0 : decode cX5_mirror 0 = .ok (.aload_n 0, 1) := by decide +kernel
theorem dX5_mirror_1 : decode cX5_mirror 1 = .ok (.getfield 16, 3) := by decide +kernel
theorem dX5_mirror_4 : decode cX5_mirror 4 = .ok (.getfield 30, 3) := by decide +kernel
theorem dX5_mirror_7 : decode cX5_mirror 7 = .ok (.invokevirtual 154, 3) := by decide +kernel
theorem dX5_mirror_10 : decode cX5_mirror 10 = .ok (.aload_n 0, 1) := by decide +kernel
theorem dX5_mirror_11 : decode cX5_mirror 11 = .ok (.getfield 16, 3) := by decide +kernel
theorem dX5_mirror_14 : decode cX5_mirror 14 = .ok (.invokevirtual 44, 3) := by decide +kernel
theorem dX5_mirror_17 : decode cX5_mirror 17 = .ok (.pop, 1) := by decide +kernel
theorem dX5_mirror_18 : decode cX5_mirror 18 = .ok (.return_, 1) := by decide +kernel
set_option maxRecDepth 20000 in
theorem ggX5_reverse_X5_hasComponent : GoodIn wsX5_reverse wsX5_hasComponent := goodIn_r _ [6, 1, 7, 8, 9, 10, 11, 12, 13, 14, 280, 281, 282, 283, 284, 285, 286, 287, 288, 289, 290, 291, 292, 293, 294, 295, 296, 297, 298] (by decide +kernel) (by decide +kernel)
set_option maxRecDepth 20000 in
theorem gX5_reverse_X5_hasComponent : GoodIn wsX5_reverse (wsV RX5 129 RX5 yX5_hasComponent wsX5_hasComponent) := goodIn_app (goodIn_of _ (by decide +kernel)) ggX5_reverse_X5_hasComponent
set_option maxRecDepth 20000 in
theorem ggX5_reverse_X0_turnComponent : GoodIn wsX5_reverse wsX0_turnComponent := goodIn_r _ [19, 20, 21, 22, 23, 24, 25, 26, 27, 28, 29, 18, 30, 31, 32, 33, 34, 35, 36, 37, 38, 39, 40, 41, 42, 43, 44, 12, 45, 46, 47, 48, 49, 50, 51, 52, 53, 54, 55, 56, 57, 58, 59, 60, 61, 62, 63, 64, 65, 66, 67, 68, 69, 70, 71, 72, 73, 74, 75, 76, 77, 78, 79, 80, 81, 284, 285, 286, 287, 288, 289, 290, 291, 292, 299, 300, 301, 302, 303, 304, 305, 306, 307, 293, 294, 295, 296, 297, 298] (by decide +kernel) (by decide +kernel)
set_option maxRecDepth 20000 in
theorem gX5_reverse_X0_turnComponent : GoodIn wsX5_reverse (wsV RX5 157 RX0 yX0_turnComponent wsX0_turnComponent) := goodIn_app (goodIn_of _ (by decide +kernel)) ggX5_reverse_X0_turnComponent
set_option maxRecDepth 20000 in
theorem ggX5_reverse_X0_survey : GoodIn wsX5_reverse wsX0_survey := goodIn_r _ [85, 32, 20, 86, 87, 88, 89, 39, 90, 91, 92, 93, 94, 95, 96, 24, 97, 26, 98, 99, 100, 101, 77, 102, 103, 104, 105, 106, 107, 108, 109, 110, 111, 112, 113, 114, 115, 116, 117, 118, 119, 120, 121, 122, 123, 124, 125, 126, 127, 128, 129, 130, 131, 132, 133, 134, 135, 136, 137, 138, 139, 60, 61, 62, 63, 64, 65, 66, 67, 68, 140, 141, 142, 143, 41, 144, 145, 146, 18, 147, 148, 21, 22, 23, 25, 149, 150, 151, 152, 153, 154, 155, 156, 157, 158, 159, 160, 161, 162, 163, 164, 165, 166, 167, 168, 169, 170, 171, 172, 173, 174, 175, 176, 177, 178, 179, 180, 181, 182, 183, 184, 185, 186, 187, 188, 189, 190, 191, 192, 193, 194, 195, 196, 197, 198, 199, 200, 201, 202, 203, 204, 12, 205, 206, 51, 14, 207, 208, 209, 210, 211, 212, 213, 214, 37, 38, 40, 215, 216, 217, 218, 219, 220, 47, 48, 49, 50, 221, 222, 223, 224, 46, 225, 226, 227, 228, 229, 230, 231, 232, 233, 234, 235, 236, 237, 238, 239, 240, 241, 242, 10, 11, 13, 243, 244, 245, 246, 247, 248, 249, 250, 251, 252, 253, 254, 255, 256, 257, 258, 31, 259, 260, 261, 262, 36, 263, 264, 265, 266, 267, 268, 269, 270, 271, 272, 273, 274, 275, 276, 277, 278, 279, 284, 285, 286, 287, 288, 289, 290, 291, 292, 302, 303, 304, 305, 306, 307, 299, 300, 301, 308, 309, 310, 311, 293, 294, 295, 296, 297, 298] (by decide +kernel) (by decide +kernel)
set_option maxRecDepth 20000 in
theorem gX5_reverse_X0_survey : GoodIn wsX5_reverse (wsV RX5 44 RX0 yX0_survey wsX0_survey) := goodIn_app (goodIn_of _ (by decide +kernel)) ggX5_reverse_X0_survey
theorem dX5_reverse_0 : decode cX5_reverse 0 = .ok (.aload_n 0, 1) := by decide +kernel
theorem dX5_reverse_1 : decode cX5_reverse 1 = .ok (.iload_n 1, 1) := by decide +kernel
theorem dX5_reverse_2 : decode cX5_reverse 2 = .ok (.invokevirtual 129, 3) := by decide +kernel
theorem dX5_reverse_5 : decode cX5_reverse 5 = .ok (.ifCond .ne 5, 3) := by decide +kernel
theorem dX5_reverse_8 : decode cX5_reverse 8 = .ok (.iconst 0, 1) := by decide +kernel
theorem dX5_reverse_9 : decode cX5_reverse 9 = .ok (.ireturn, 1) := by decide +kernel
theorem dX5_reverse_10 : decode cX5_reverse 10 = .ok (.aload_n 0, 1) := by decide +kernel
theorem dX5_reverse_11 : decode cX5_reverse 11 = .ok (.getfield 16, 3) := by decide +kernel
theorem dX5_reverse_14 : decode cX5_reverse 14 = .ok (.iload_n 1, 1) := by decide +kernel
theorem dX5_reverse_15 : decode cX5_reverse 15 = .ok (.invokevirtual 157, 3) := by decide +kernel
theorem dX5_reverse_18 : decode cX5_reverse 18 = .ok (.aload_n 0, 1) := by decide +kernel
theorem dX5_reverse_19 : decode cX5_reverse 19 = .ok (.getfield 16, 3) := by decide +kernel
theorem dX5_reverse_22 : decode cX5_reverse 22 = .ok (.invokevirtual 44, 3) := by decide +kernel
theorem dX5_reverse_25 : decode cX5_reverse 25 = .ok (.pop, 1) := by decide +kernel
theorem dX5_reverse_26 : decode cX5_reverse 26 = .ok (.iconst 1, 1) := by decide +kernel
theorem dX5_reverse_27 : decode cX5_reverse 27 = .ok (.ireturn, 1) := by decide +kernel
set_option maxRecDepth 20000 in
theorem ggX5_number_X0_labelAnew : GoodIn wsX5_number wsX0_labelAnew := goodIn_r _ [6, 7, 8, 9, 10, 11, 12, 5, 13, 14, 15, 16, 17, 18, 19, 20, 21, 22, 23, 24, 25, 26, 27, 28, 29, 30, 31, 32, 33, 34, 35, 36, 37, 38, 39, 40, 41, 42, 43, 44, 45, 46, 47, 48, 49, 50, 51, 52, 53, 54, 55, 56, 57, 58, 59, 60, 61, 62, 259, 260, 261, 262, 263, 264, 265, 266, 267, 268, 269, 270, 271, 272, 273, 274, 275, 276, 277, 278, 279, 280, 281, 282] (by decide +kernel) (by decide +kernel)
set_option maxRecDepth 20000 in
theorem gX5_number_X0_labelAnew : GoodIn wsX5_number (wsV RX5 161 RX0 yX0_labelAnew wsX0_labelAnew) := goodIn_app (goodIn_of _ (by decide +kernel)) ggX5_number_X0_labelAnew
set_option maxRecDepth 20000 in
theorem ggX5_number_X0_survey : GoodIn wsX5_number wsX0_survey := goodIn_r _ [66, 8, 7, 67, 68, 69, 70, 54, 71, 72, 73, 74, 75, 46, 47, 48, 49, 50, 76, 77, 78, 79, 61, 62, 80, 81, 82, 83, 84, 85, 86, 87, 88, 89, 90, 91, 92, 93, 94, 95, 96, 97, 98, 99, 100, 101, 102, 103, 104, 105, 106, 107, 108, 109, 110, 111, 112, 113, 114, 115, 116, 117, 118, 119, 120, 121, 122, 123, 124, 125, 126, 127, 128, 129, 56, 130, 131, 132, 5, 133, 134, 135, 136, 137, 138, 139, 140, 141, 142, 143, 144, 145, 146, 147, 148, 149, 150, 151, 152, 153, 154, 155, 156, 157, 158, 159, 160, 161, 162, 163, 164, 165, 166, 167, 168, 169, 170, 171, 172, 173, 174, 175, 176, 177, 178, 179, 180, 181, 182, 183, 184, 185, 186, 187, 188, 189, 190, 191, 192, 193, 194, 18, 195, 196, 44, 20, 197, 198, 199, 200, 201, 202, 203, 204, 52, 53, 55, 205, 206, 207, 208, 209, 39, 40, 41, 42, 43, 210, 211, 212, 213, 214, 215, 216, 217, 218, 219, 25, 34, 220, 221, 222, 223, 224, 225, 226, 227, 228, 229, 15, 16, 17, 19, 21, 22, 23, 24, 26, 27, 28, 29, 230, 231, 232, 233, 234, 235, 236, 237, 14, 238, 239, 240, 241, 51, 242, 243, 244, 245, 246, 247, 248, 249, 250, 251, 252, 253, 254, 35, 36, 37, 38, 259, 260, 261, 262, 263, 264, 265, 266, 267, 277, 278, 279, 280, 281, 282, 274, 275, 276, 283, 284, 285, 286, 268, 269, 270, 271, 272, 273] (by decide +kernel) (by decide +kernel)
set_option maxRecDepth 20000 in
theorem gX5_number_X0_survey : GoodIn wsX5_number (wsV RX5 44 RX0 yX0_survey wsX0_survey) := goodIn_app (goodIn_of _ (by decide +kernel)) ggX5_number_X0_survey
theorem dX5_number_0 : decode cX5_number 0 = .ok (.aload_n 0, 1) := by decide +kernel
theorem dX5_number_1 : decode cX5_number 1 = .ok (.getfield 16, 3) := by decide +kernel
theorem dX5_number_4 : decode cX5_number 4 = .ok (.invokevirtual 161, 3) := by decide +kernel
theorem dX5_number_7 : decode cX5_number 7 = .ok (.aload_n 0, 1) := by decide +kernel
theorem dX5_number_8 : decode cX5_number 8 = .ok (.getfield 16, 3) := by decide +kernel
theorem dX5_number_11 : decode cX5_number 11 = .ok (.invokevirtual 44, 3) := by decide +kernel
theorem dX5_number_14 : decode cX5_number 14 = .ok (.pop, 1) := by decide +kernel
theorem dX5_number_15 : decode cX5_number 15 = .ok (.return_, 1) := by decide +kernel
set_option maxRecDepth 20000 in
theorem ggX5_change_X4_has : GoodIn wsX5_change wsX4_has := goodIn_r _ [7, 8, 268, 269, 270] (by decide +kernel) (by decide +kernel)
set_option maxRecDepth 20000 in
theorem gX5_change_X4_has : GoodIn wsX5_change (wsV RX5 91 RX4 yX4_has wsX4_has) := goodIn_app (goodIn_of _ (by decide +kernel)) ggX5_change_X4_has
set_option maxRecDepth 20000 in
theorem ggX5_change_X4_exchangeStrands : GoodIn wsX5_change wsX4_exchangeStrands := goodIn_r _ [12, 13, 14, 15, 6, 16, 17, 18, 19, 20, 21, 22, 4, 5, 7, 8, 23, 24, 25, 26, 27, 28, 29, 30, 31, 268, 269, 270] (by decide +kernel) (by decide +kernel)
set_option maxRecDepth 20000 in
theorem gX5_change_X4_exchangeStrands : GoodIn wsX5_change (wsV RX5 164 RX4 yX4_exchangeStrands wsX4_exchangeStrands) := goodIn_app (goodIn_of _ (by decide +kernel)) ggX5_change_X4_exchangeStrands
set_option maxRecDepth 20000 in
theorem ggX5_change_X0_survey : GoodIn wsX5_change wsX0_survey := goodIn_r _ [36, 37, 38, 39, 40, 41, 42, 43, 44, 45, 46, 47, 48, 49, 50, 6, 51, 8, 52, 53, 54, 55, 27, 56, 57, 58, 59, 60, 61, 62, 63, 64, 65, 66, 67, 68, 69, 70, 71, 72, 73, 74, 75, 76, 77, 78, 79, 80, 81, 82, 83, 84, 85, 86, 87, 88, 89, 90, 91, 92, 93, 17, 18, 19, 20, 21, 22, 4, 5, 7, 94, 95, 96, 97, 98, 99, 100, 101, 35, 102, 103, 104, 105, 106, 107, 108, 109, 110, 111, 112, 113, 114, 115, 116, 117, 118, 119, 120, 121, 122, 123, 124, 125, 126, 127, 128, 129, 130, 131, 132, 133, 134, 135, 136, 137, 138, 139, 140, 141, 142, 143, 144, 145, 146, 147, 148, 149, 150, 151, 152, 153, 154, 155, 156, 157, 158, 159, 160, 161, 162, 163, 164, 165, 166, 167, 168, 169, 170, 171, 172, 173, 174, 175, 176, 177, 178, 179, 180, 181, 182, 183, 184, 185, 186, 187, 188, 189, 190, 191, 192, 193, 194, 195, 196, 197, 198, 199, 200, 201, 202, 203, 204, 205, 206, 207, 208, 209, 210, 211, 212, 213, 214, 215, 216, 217, 218, 219, 220, 221, 222, 223, 224, 225, 226, 227, 228, 229, 230, 231, 232, 233, 234, 235, 236, 237, 238, 239, 240, 241, 242, 243, 244, 245, 246, 247, 248, 249, 250, 251, 252, 253, 254, 259, 260, 261, 262, 263, 264, 265, 266, 267, 271, 272, 273, 274, 275, 276, 268, 269, 270, 277, 278, 279, 280, 281, 282, 283, 284, 285, 286] (by decide +kernel) (by decide +kernel)
set_option maxRecDepth 20000 in
theorem gX5_change_X0_survey : GoodIn wsX5_change (wsV RX5 44 RX0 yX0_survey wsX0_survey) := goodIn_app (goodIn_of _ (by decide +kernel)) ggX5_change_X0_survey
theorem dX5_change_0 : decode cX5_change 0 = .ok (.aload_n 0, 1) := by decide +kernel
theorem dX5_change_1 : decode cX5_change 1 = .ok (.getfield 16, 3) := by decide +kernel
theorem dX5_change_4 : decode cX5_change 4 = .ok (.getfield 30, 3) := by decide +kernel
theorem dX5_change_7 : decode cX5_change 7 = .ok (.iload_n 1, 1) := by decide +kernel
theorem dX5_change_8 : decode cX5_change 8 = .ok (.invokevirtual 91, 3) := by decide +kernel
theorem dX5_change_11 : decode cX5_change 11 = .ok (.ifCond .ne 5, 3) := by decide +kernel
theorem dX5_change_14 : decode cX5_change 14 = .ok (.iconst 0, 1) := by decide +kernel
theorem dX5_change_15 : decode cX5_change 15 = .ok (.ireturn, 1) := by decide +kernel
theorem dX5_change_16 : decode cX5_change 16 = .ok (.aload_n 0, 1) := by decide +kernel
theorem dX5_change_17 : decode cX5_change 17 = .ok (.getfield 16, 3) := by decide +kernel
theorem dX5_change_20 : decode cX5_change 20 = .ok (.getfield 30, 3) := by decide +kernel
theorem dX5_change_23 : decode cX5_change 23 = .ok (.iload_n 1, 1) := by decide +kernel
theorem dX5_change_24 : decode cX5_change 24 = .ok (.invokevirtual 164, 3) := by decide +kernel
theorem dX5_change_27 : decode cX5_change 27 = .ok (.aload_n 0, 1) := by decide +kernel
theorem dX5_change_28 : decode cX5_change 28 = .ok (.getfield 16, 3) := by decide +kernel
theorem dX5_change_31 : decode cX5_change 31 = .ok (.invokevirtual 44, 3) := by decide +kernel
theorem dX5_change_34 : decode cX5_change 34 = .ok (.pop, 1) := by decide +kernel
theorem dX5_change_35 : decode cX5_change 35 = .ok (.iconst 1, 1) := by decide +kernel
theorem dX5_change_36 : decode cX5_change 36 = .ok (.ireturn, 1) := by decide +kernel
set_option maxRecDepth 20000 in
theorem ggX5_smooth_X4_has : GoodIn wsX5_smooth wsX4_has := goodIn_r _ [8, 9, 275, 276, 277] (by decide +kernel) (by decide +kernel)
set_option maxRecDepth 20000 in
theorem gX5_smooth_X4_has : GoodIn wsX5_smooth (wsV RX5 91 RX4 yX4_has wsX4_has) := goodIn_app (goodIn_of _ (by decide +kernel)) ggX5_smooth_X4_has
set_option maxRecDepth 20000 in
theorem ggX5_smooth_X4_smoothAway : GoodIn wsX5_smooth wsX4_smoothAway := goodIn_r _ [13, 14, 5, 6, 7, 8, 9, 15, 16, 17, 18, 19, 20, 21, 22, 23, 24, 25, 26, 27, 28, 29, 30, 31, 32, 33, 34, 35, 36, 37, 38, 39, 40, 41, 42, 43, 44, 45, 46, 47, 48, 49, 50, 51, 52, 53, 54, 55, 56, 57, 275, 276, 277] (by decide +kernel) (by decide +kernel)
set_option maxRecDepth 20000 in
theorem gX5_smooth_X4_smoothAway : GoodIn wsX5_smooth (wsV RX5 167 RX4 yX4_smoothAway wsX4_smoothAway) := goodIn_app (goodIn_of _ (by decide +kernel)) ggX5_smooth_X4_smoothAway
set_option maxRecDepth 20000 in
theorem ggX5_smooth_X0_survey : GoodIn wsX5_smooth wsX0_survey := goodIn_r _ [62, 63, 64, 65, 66, 67, 68, 69, 70, 71, 72, 73, 74, 24, 25, 7, 26, 9, 75, 19, 20, 21, 22, 23, 76, 77, 78, 79, 80, 81, 82, 83, 84, 85, 86, 87, 88, 89, 90, 91, 92, 93, 94, 95, 96, 97, 98, 99, 100, 101, 102, 103, 104, 105, 51, 52, 53, 27, 28, 29, 30, 31, 32, 33, 34, 35, 14, 5, 6, 8, 106, 107, 108, 109, 110, 111, 112, 113, 61, 114, 115, 116, 117, 118, 119, 120, 121, 122, 123, 124, 125, 41, 42, 43, 126, 127, 128, 129, 130, 131, 132, 133, 134, 135, 136, 137, 138, 139, 140, 141, 142, 143, 144, 45, 46, 145, 146, 147, 148, 149, 150, 151, 152, 153, 154, 155, 156, 157, 158, 159, 160, 161, 162, 163, 164, 165, 166, 167, 168, 169, 170, 171, 172, 173, 174, 175, 176, 177, 178, 179, 180, 181, 182, 183, 184, 185, 186, 187, 188, 189, 190, 191, 192, 193, 194, 195, 196, 197, 198, 199, 200, 201, 202, 203, 204, 205, 206, 207, 208, 209, 210, 211, 212, 213, 214, 215, 216, 217, 218, 219, 220, 221, 222, 223, 224, 225, 226, 227, 228, 229, 230, 231, 232, 233, 234, 235, 236, 237, 238, 239, 240, 241, 242, 243, 244, 245, 246, 247, 248, 249, 250, 251, 252, 253, 254, 255, 256, 257, 258, 259, 260, 261, 266, 267, 268, 269, 270, 271, 272, 273, 274, 278, 279, 280, 281, 282, 283, 275, 276, 277, 284, 285, 286, 287, 288, 289, 290, 291, 292, 293] (by decide +kernel) (by decide +kernel)
set_option maxRecDepth 20000 in
theorem gX5_smooth_X0_survey : GoodIn wsX5_smooth (wsV RX5 44 RX0 yX0_survey wsX0_survey) := goodIn_app (goodIn_of _ (by decide +kernel)) ggX5_smooth_X0_survey
theorem dX5_smooth_0 : decode cX5_smooth 0 = .ok (.aload_n 0, 1) := by decide +kernel
theorem dX5_smooth_1 : decode cX5_smooth 1 = .ok (.getfield 16, 3) := by decide +kernel
theorem dX5_smooth_4 : decode cX5_smooth 4 = .ok (.getfield 30, 3) := by decide +kernel
theorem dX5_smooth_7 : decode cX5_smooth 7 = .ok (.iload_n 1, 1) := by decide +kernel
theorem dX5_smooth_8 : decode cX5_smooth 8 = .ok (.invokevirtual 91, 3) := by decide +kernel
theorem dX5_smooth_11 : decode cX5_smooth 11 = .ok (.ifCond .ne 5, 3) := by decide +kernel
theorem dX5_smooth_14 : decode cX5_smooth 14 = .ok (.iconst 0, 1) := by decide +kernel
theorem dX5_smooth_15 : decode cX5_smooth 15 = .ok (.ireturn, 1) := by decide +kernel
theorem dX5_smooth_16 : decode cX5_smooth 16 = .ok (.aload_n 0, 1) := by decide +kernel
theorem dX5_smooth_17 : decode cX5_smooth 17 = .ok (.dup, 1) := by decide +kernel
theorem dX5_smooth_18 : decode cX5_smooth 18 = .ok (.getfield 19, 3) := by decide +kernel
theorem dX5_smooth_21 : decode cX5_smooth 21 = .ok (.aload_n 0, 1) := by decide +kernel
theorem dX5_smooth_22 : decode cX5_smooth 22 = .ok (.getfield 16, 3) := by decide +kernel
theorem dX5_smooth_25 : decode cX5_smooth 25 = .ok (.getfield 30, 3) := by decide +kernel
theorem dX5_smooth_28 : decode cX5_smooth 28 = .ok (.iload_n 1, 1) := by decide +kernel
theorem dX5_smooth_29 : decode cX5_smooth 29 = .ok (.invokevirtual 167, 3) := by decide +kernel
theorem dX5_smooth_32 : decode cX5_smooth 32 = .ok (.iadd, 1) := by decide +kernel
theorem dX5_smooth_33 : decode cX5_smooth 33 = .ok (.putfield 19, 3) := by decide +kernel
theorem dX5_smooth_36 : decode cX5_smooth 36 = .ok (.aload_n 0, 1) := by decide +kernel
theorem dX5_smooth_37 : decode cX5_smooth 37 = .ok (.getfield 16, 3) := by decide +kernel
theorem dX5_smooth_40 : decode cX5_smooth 40 = .ok (.invokevirtual 44, 3) := by decide +kernel
theorem dX5_smooth_43 : decode cX5_smooth 43 = .ok (.pop, 1) := by decide +kernel
theorem dX5_smooth_44 : decode cX5_smooth 44 = .ok (.iconst 1, 1) := by decide +kernel
theorem dX5_smooth_45 : decode cX5_smooth 45 = .ok (.ireturn, 1) := by decide +kernel
theorem dX5_isLabel_0 : decode cX5_isLabel 0 = .ok (.iload_n 0, 1) := by decide +kernel
theorem dX5_isLabel_1 : decode cX5_isLabel 1 = .ok (.iconst 1, 1) := by decide +kernel
theorem dX5_isLabel_2 : decode cX5_isLabel 2 = .ok (.if_icmp .lt 14, 3) := by decide +kernel
theorem dX5_isLabel_5 : decode cX5_isLabel 5 = .ok (.iload_n 0, 1) := by decide +kernel
theorem dX5_isLabel_6 : decode cX5_isLabel 6 = .ok (.sipush 9999, 3) := by decide +kernel
theorem dX5_isLabel_9 : decode cX5_isLabel 9 = .ok (.if_icmp .gt 7, 3) := by decide +kernel
theorem dX5_isLabel_12 : decode cX5_isLabel 12 = .ok (.iconst 1, 1) := by decide +kernel
theorem dX5_isLabel_13 : decode cX5_isLabel 13 = .ok (.goto 4, 3) := by decide +kernel
theorem dX5_isLabel_16 : decode cX5_isLabel 16 = .ok (.iconst 0, 1) := by decide +kernel
theorem dX5_isLabel_17 : decode cX5_isLabel 17 = .ok (.ireturn, 1) := by decide +kernel
set_option maxRecDepth 20000 in
theorem ggX5_hasComponent_X3_count : GoodIn wsX5_hasComponent wsX3_count := goodIn_r _ [8, 9, 23, 24, 25, 26, 27, 28] (by decide +kernel) (by decide +kernel)
set_option maxRecDepth 20000 in
theorem gX5_hasComponent_X3_count : GoodIn wsX5_hasComponent (wsV RX5 65 RX3 yX3_count wsX3_count) := goodIn_app (goodIn_of _ (by decide +kernel)) ggX5_hasComponent_X3_count
theorem dX5_hasComponent_0 : decode cX5_hasComponent 0 = .ok (.iload_n 1, 1) := by decide +kernel
theorem dX5_hasComponent_1 : decode cX5_hasComponent 1 = .ok (.ifCond .lt 26, 3) := by decide +kernel
theorem dX5_hasComponent_4 : decode cX5_hasComponent 4 = .ok (.iload_n 1, 1) := by decide +kernel
theorem dX5_hasComponent_5 : decode cX5_hasComponent 5 = .ok (.aload_n 0, 1) := by decide +kernel
theorem dX5_hasComponent_6 : decode cX5_hasComponent 6 = .ok (.getfield 16, 3) := by decide +kernel
theorem dX5_hasComponent_9 : decode cX5_hasComponent 9 = .ok (.getfield 61, 3) := by decide +kernel
theorem dX5_hasComponent_12 : decode cX5_hasComponent 12 = .ok (.invokevirtual 65, 3) := by decide +kernel
theorem dX5_hasComponent_15 : decode cX5_hasComponent 15 = .ok (.aload_n 0, 1) := by decide +kernel
theorem dX5_hasComponent_16 : decode cX5_hasComponent 16 = .ok (.getfield 19, 3) := by decide +kernel
theorem dX5_hasComponent_19 : decode cX5_hasComponent 19 = .ok (.iadd, 1) := by decide +kernel
theorem dX5_hasComponent_20 : decode cX5_hasComponent 20 = .ok (.if_icmp .ge 7, 3) := by decide +kernel
theorem dX5_hasComponent_23 : decode cX5_hasComponent 23 = .ok (.iconst 1, 1) := by decide +kernel
theorem dX5_hasComponent_24 : decode cX5_hasComponent 24 = .ok (.goto 4, 3) := by decide +kernel
theorem dX5_hasComponent_27 : decode cX5_hasComponent 27 = .ok (.iconst 0, 1) := by decide +kernel
theorem dX5_hasComponent_28 : decode cX5_hasComponent 28 = .ok (.ireturn, 1) := by decide +kernel
set_option maxRecDepth 20000 in
theorem ggX5_tellCircle_X2_count : GoodIn wsX5_tellCircle wsX2_count := goodIn_r _ [7, 8, 22, 23, 24, 25] (by decide +kernel) (by decide +kernel)
set_option maxRecDepth 20000 in
theorem gX5_tellCircle_X2_count : GoodIn wsX5_tellCircle (wsV RX5 72 RX2 yX2_count wsX2_count) := goodIn_app (goodIn_of _ (by decide +kernel)) ggX5_tellCircle_X2_count
theorem dX5_tellCircle_0 : decode cX5_tellCircle 0 = .ok (.iload_n 2, 1) := by decide +kernel
theorem dX5_tellCircle_1 : decode cX5_tellCircle 1 = .ok (.tableswitch 46 0 3 #[31, 31, 31, 33], 31) := by decide +kernel
theorem dX5_tellCircle_32 : decode cX5_tellCircle 32 = .ok (.iconst 0, 1) := by decide +kernel
theorem dX5_tellCircle_33 : decode cX5_tellCircle 33 = .ok (.ireturn, 1) := by decide +kernel
theorem dX5_tellCircle_34 : decode cX5_tellCircle 34 = .ok (.aload_n 0, 1) := by decide +kernel
theorem dX5_tellCircle_35 : decode cX5_tellCircle 35 = .ok (.getfield 16, 3) := by decide +kernel
theorem dX5_tellCircle_38 : decode cX5_tellCircle 38 = .ok (.getfield 68, 3) := by decide +kernel
theorem dX5_tellCircle_41 : decode cX5_tellCircle 41 = .ok (.invokevirtual 72, 3) := by decide +kernel
theorem dX5_tellCircle_44 : decode cX5_tellCircle 44 = .ok (.iload_n 1, 1) := by decide +kernel
theorem dX5_tellCircle_45 : decode cX5_tellCircle 45 = .ok (.iadd, 1) := by decide +kernel
theorem dX5_tellCircle_46 : decode cX5_tellCircle 46 = .ok (.ireturn, 1) := by decide +kernel
theorem dX5_tellCircle_47 : decode cX5_tellCircle 47 = .ok (.sipush (-1000), 3) := by decide +kernel
theorem dX5_tellCircle_50 : decode cX5_tellCircle 50 = .ok (.ireturn, 1) := by decide +kernel
theorem dX6_init_0 : decode cX6_init 0 = .ok (.aload_n 0, 1) := by decide +kernel
theorem dX6_init_1 : decode cX6_init 1 = .ok (.invokespecial 1, 3) := by decide +kernel
theorem dX6_init_4 : decode cX6_init 4 = .ok (.aload_n 0, 1) := by decide +kernel
theorem dX6_init_5 : decode cX6_init 5 = .ok (.iconst (-1), 1) := by decide +kernel
theorem dX6_init_6 : decode cX6_init 6 = .ok (.putfield 7, 3) := by decide +kernel
theorem dX6_init_9 : decode cX6_init 9 = .ok (.aload_n 0, 1) := by decide +kernel
theorem dX6_init_10 : decode cX6_init 10 = .ok (.bipush 20, 2) := by decide +kernel
theorem dX6_init_12 : decode cX6_init 12 = .ok (.newarray .int, 2) := by decide +kernel
theorem dX6_init_14 : decode cX6_init 14 = .ok (.putfield 13, 3) := by decide +kernel
theorem dX6_init_17 : decode cX6_init 17 = .ok (.aload_n 0, 1) := by decide +kernel
theorem dX6_init_18 : decode cX6_init 18 = .ok (.bipush 80, 2) := by decide +kernel
theorem dX6_init_20 : decode cX6_init 20 = .ok (.newarray .int, 2) := by decide +kernel
theorem dX6_init_22 : decode cX6_init 22 = .ok (.putfield 17, 3) := by decide +kernel
theorem dX6_init_25 : decode cX6_init 25 = .ok (.aload_n 0, 1) := by decide +kernel
theorem dX6_init_26 : decode cX6_init 26 = .ok (.bipush 20, 2) := by decide +kernel
theorem dX6_init_28 : decode cX6_init 28 = .ok (.newarray .int, 2) := by decide +kernel
theorem dX6_init_30 : decode cX6_init 30 = .ok (.putfield 20, 3) := by decide +kernel
theorem dX6_init_33 : decode cX6_init 33 = .ok (.aload_n 0, 1) := by decide +kernel
theorem dX6_init_34 : decode cX6_init 34 = .ok (.bipush 80, 2) := by decide +kernel
theorem dX6_init_36 : decode cX6_init 36 = .ok (.newarray .int, 2) := by decide +kernel
theorem dX6_init_38 : decode cX6_init 38 = .ok (.putfield 23, 3) := by decide +kernel
theorem dX6_init_41 : decode cX6_init 41 = .ok (.aload_n 0, 1) := by decide +kernel
theorem dX6_init_42 : decode cX6_init 42 = .ok (.bipush 20, 2) := by decide +kernel
theorem dX6_init_44 : decode cX6_init 44 = .ok (.newarray .int, 2) := by decide +kernel
theorem dX6_init_46 : decode cX6_init 46 = .ok (.putfield 26, 3) := by decide +kernel
theorem dX6_init_49 : decode cX6_init 49 = .ok (.aload_n 0, 1) := by decide +kernel
theorem dX6_init_50 : decode cX6_init 50 = .ok (.bipush 80, 2) := by decide +kernel
theorem dX6_init_52 : decode cX6_init 52 = .ok (.newarray .int, 2) := by decide +kernel
theorem dX6_init_54 : decode cX6_init 54 = .ok (.putfield 29, 3) := by decide +kernel
theorem dX6_init_57 : decode cX6_init 57 = .ok (.aload_n 0, 1) := by decide +kernel
theorem dX6_init_58 : decode cX6_init 58 = .ok (.bipush 80, 2) := by decide +kernel
theorem dX6_init_60 : decode cX6_init 60 = .ok (.newarray .int, 2) := by decide +kernel
theorem dX6_init_62 : decode cX6_init 62 = .ok (.putfield 32, 3) := by decide +kernel
theorem dX6_init_65 : decode cX6_init 65 = .ok (.aload_n 0, 1) := by decide +kernel
theorem dX6_init_66 : decode cX6_init 66 = .ok (.bipush 80, 2) := by decide +kernel
theorem dX6_init_68 : decode cX6_init 68 = .ok (.newarray .int, 2) := by decide +kernel
theorem dX6_init_70 : decode cX6_init 70 = .ok (.putfield 35, 3) := by decide +kernel
theorem dX6_init_73 : decode cX6_init 73 = .ok (.aload_n 0, 1) := by decide +kernel
theorem dX6_init_74 : decode cX6_init 74 = .ok (.bipush 20, 2) := by decide +kernel
theorem dX6_init_76 : decode cX6_init 76 = .ok (.newarray .boolean, 2) := by decide +kernel
theorem dX6_init_78 : decode cX6_init 78 = .ok (.putfield 38, 3) := by decide +kernel
theorem dX6_init_81 : decode cX6_init 81 = .ok (.aload_n 0, 1) := by decide +kernel
theorem dX6_init_82 : decode cX6_init 82 = .ok (.bipush 20, 2) := by decide +kernel
theorem dX6_init_84 : decode cX6_init 84 = .ok (.newarray .boolean, 2) := by decide +kernel
theorem dX6_init_86 : decode cX6_init 86 = .ok (.putfield 42, 3) := by decide +kernel
theorem dX6_init_89 : decode cX6_init 89 = .ok (.aload_n 0, 1) := by decide +kernel
theorem dX6_init_90 : decode cX6_init 90 = .ok (.bipush 20, 2) := by decide +kernel
theorem dX6_init_92 : decode cX6_init 92 = .ok (.newarray .int, 2) := by decide +kernel
theorem dX6_init_94 : decode cX6_init 94 = .ok (.putfield 45, 3) := by decide +kernel
theorem dX6_init_97 : decode cX6_init 97 = .ok (.aload_n 0, 1) := by decide +kernel
theorem dX6_init_98 : decode cX6_init 98 = .ok (.bipush 80, 2) := by decide +kernel
theorem dX6_init_100 : decode cX6_init 100 = .ok (.newarray .int, 2) := by decide +kernel
theorem dX6_init_102 : decode cX6_init 102 = .ok (.putfield 48, 3) := by decide +kernel
theorem dX6_init_105 : decode cX6_init 105 = .ok (.aload_n 0, 1) := by decide +kernel
theorem dX6_init_106 : decode cX6_init 106 = .ok (.bipush 80, 2) := by decide +kernel
theorem dX6_init_108 : decode cX6_init 108 = .ok (.newarray .int, 2) := by decide +kernel
theorem dX6_init_110 : decode cX6_init 110 = .ok (.putfield 51, 3) := by decide +kernel
theorem dX6_init_113 : decode cX6_init 113 = .ok (.return_, 1) := by decide +kernel
theorem dX6_isOut_0 : decode cX6_isOut 0 = .ok (.iload_n 1, 1) := by decide +kernel
theorem dX6_isOut_1 : decode cX6_isOut 1 = .ok (.iconst 4, 1) := by decide +kernel
theorem dX6_isOut_2 : decode cX6_isOut 2 = .ok (.irem, 1) := by decide +kernel
theorem dX6_isOut_3 : decode cX6_isOut 3 = .ok (.istore_n 2, 1) := by decide +kernel
theorem dX6_isOut_4 : decode cX6_isOut 4 = .ok (.iload_n 2, 1) := by decide +kernel
theorem dX6_isOut_5 : decode cX6_isOut 5 = .ok (.iconst 2, 1) := by decide +kernel
theorem dX6_isOut_6 : decode cX6_isOut 6 = .ok (.if_icmp .eq 23, 3) := by decide +kernel
theorem dX6_isOut_9 : decode cX6_isOut 9 = .ok (.iload_n 2, 1) := by decide +kernel
theorem dX6_isOut_10 : decode cX6_isOut 10 = .ok (.aload_n 0, 1) := by decide +kernel
theorem dX6_isOut_11 : decode cX6_isOut 11 = .ok (.getfield 20, 3) := by decide +kernel
theorem dX6_isOut_14 : decode cX6_isOut 14 = .ok (.iload_n 1, 1) := by decide +kernel
theorem dX6_isOut_15 : decode cX6_isOut 15 = .ok (.iconst 4, 1) := by decide +kernel
theorem dX6_isOut_16 : decode cX6_isOut 16 = .ok (.idiv, 1) := by decide +kernel
theorem dX6_isOut_17 : decode cX6_isOut 17 = .ok (.iaload, 1) := by decide +kernel
theorem dX6_isOut_18 : decode cX6_isOut 18 = .ok (.ifCond .le 7, 3) := by decide +kernel
theorem dX6_isOut_21 : decode cX6_isOut 21 = .ok (.iconst 1, 1) := by decide +kernel
theorem dX6_isOut_22 : decode cX6_isOut 22 = .ok (.goto 4, 3) := by decide +kernel
theorem dX6_isOut_25 : decode cX6_isOut 25 = .ok (.iconst 3, 1) := by decide +kernel
theorem dX6_isOut_26 : decode cX6_isOut 26 = .ok (.if_icmp .ne 7, 3) := by decide +kernel
theorem dX6_isOut_29 : decode cX6_isOut 29 = .ok (.iconst 1, 1) := by decide +kernel
theorem dX6_isOut_30 : decode cX6_isOut 30 = .ok (.goto 4, 3) := by decide +kernel
theorem dX6_isOut_33 : decode cX6_isOut 33 = .ok (.iconst 0, 1) := by decide +kernel
theorem dX6_isOut_34 : decode cX6_isOut 34 = .ok (.ireturn, 1) := by decide +kernel
theorem dX6_isUpper_0 : decode cX6_isUpper 0 = .ok (.iload_n 0, 1) := by decide +kernel
theorem dX6_isUpper_1 : decode cX6_isUpper 1 = .ok (.iconst 2, 1) := by decide +kernel
theorem dX6_isUpper_2 : decode cX6_isUpper 2 = .ok (.irem, 1) := by decide +kernel
theorem dX6_isUpper_3 : decode cX6_isUpper 3 = .ok (.iconst 1, 1) := by decide +kernel
theorem dX6_isUpper_4 : decode cX6_isUpper 4 = .ok (.if_icmp .ne 7, 3) := by decide +kernel
theorem dX6_isUpper_7 : decode cX6_isUpper 7 = .ok (.iconst 1, 1) := by decide +kernel
theorem dX6_isUpper_8 : decode cX6_isUpper 8 = .ok (.goto 4, 3) := by decide +kernel
theorem dX6_isUpper_11 : decode cX6_isUpper 11 = .ok (.iconst 0, 1) := by decide +kernel
theorem dX6_isUpper_12 : decode cX6_isUpper 12 = .ok (.ireturn, 1) := by decide +kernel
set_option maxRecDepth 20000 in
theorem ggX6_placeOf_X6_isOut : GoodIn wsX6_placeOf wsX6_isOut := goodIn_r _ [7, 8, 9, 10, 11, 12, 13, 14, 15, 16, 17, 18, 19, 20, 21, 22, 23, 24, 25, 26, 27, 28, 29, 30, 31] (by decide +kernel) (by decide +kernel)
set_option maxRecDepth 20000 in
theorem gX6_placeOf_X6_isOut : GoodIn wsX6_placeOf (wsV RX6 60 RX6 yX6_isOut wsX6_isOut) := goodIn_app (goodIn_of _ (by decide +kernel)) ggX6_placeOf_X6_isOut
theorem dX6_placeOf_0 : decode cX6_placeOf 0 = .ok (.iconst (-1), 1) := by decide +kernel
theorem dX6_placeOf_1 : decode cX6_placeOf 1 = .ok (.istore_n 3, 1) := by decide +kernel
theorem dX6_placeOf_2 : decode cX6_placeOf 2 = .ok (.iconst 0, 1) := by decide +kernel
theorem dX6_placeOf_3 : decode cX6_placeOf 3 = .ok (.istore 4, 2) := by decide +kernel
theorem dX6_placeOf_5 : decode cX6_placeOf 5 = .ok (.iload 4, 2) := by decide +kernel
theorem dX6_placeOf_7 : decode cX6_placeOf 7 = .ok (.iconst 4, 1) := by decide +kernel
theorem dX6_placeOf_8 : decode cX6_placeOf 8 = .ok (.aload_n 0, 1) := by decide +kernel
theorem dX6_placeOf_9 : decode cX6_placeOf 9 = .ok (.getfield 57, 3) := by decide +kernel
theorem dX6_placeOf_12 : decode cX6_placeOf 12 = .ok (.imul, 1) := by decide +kernel
theorem dX6_placeOf_13 : decode cX6_placeOf 13 = .ok (.if_icmp .ge 37, 3) := by decide +kernel
theorem dX6_placeOf_16 : decode cX6_placeOf 16 = .ok (.aload_n 0, 1) := by decide +kernel
theorem dX6_placeOf_17 : decode cX6_placeOf 17 = .ok (.getfield 23, 3) := by decide +kernel
theorem dX6_placeOf_20 : decode cX6_placeOf 20 = .ok (.iload 4, 2) := by decide +kernel
theorem dX6_placeOf_22 : decode cX6_placeOf 22 = .ok (.iaload, 1) := by decide +kernel
theorem dX6_placeOf_23 : decode cX6_placeOf 23 = .ok (.iload_n 1, 1) := by decide +kernel
theorem dX6_placeOf_24 : decode cX6_placeOf 24 = .ok (.if_icmp .ne 18, 3) := by decide +kernel
theorem dX6_placeOf_27 : decode cX6_placeOf 27 = .ok (.aload_n 0, 1) := by decide +kernel
theorem dX6_placeOf_28 : decode cX6_placeOf 28 = .ok (.iload 4, 2) := by decide +kernel
theorem dX6_placeOf_30 : decode cX6_placeOf 30 = .ok (.invokevirtual 60, 3) := by decide +kernel
theorem dX6_placeOf_33 : decode cX6_placeOf 33 = .ok (.iload_n 2, 1) := by decide +kernel
theorem dX6_placeOf_34 : decode cX6_placeOf 34 = .ok (.if_icmp .ne 8, 3) := by decide +kernel
theorem dX6_placeOf_37 : decode cX6_placeOf 37 = .ok (.iload 4, 2) := by decide +kernel
theorem dX6_placeOf_39 : decode cX6_placeOf 39 = .ok (.goto 4, 3) := by decide +kernel
theorem dX6_placeOf_42 : decode cX6_placeOf 42 = .ok (.iload_n 3, 1) := by decide +kernel
theorem dX6_placeOf_43 : decode cX6_placeOf 43 = .ok (.istore_n 3, 1) := by decide +kernel
theorem dX6_placeOf_44 : decode cX6_placeOf 44 = .ok (.iinc 4 1, 3) := by decide +kernel
theorem dX6_placeOf_47 : decode cX6_placeOf 47 = .ok (.goto (-42), 3) := by decide +kernel
theorem dX6_placeOf_50 : decode cX6_placeOf 50 = .ok (.iload_n 3, 1) := by decide +kernel
theorem dX6_placeOf_51 : decode cX6_placeOf 51 = .ok (.ireturn, 1) := by decide +kernel
theorem dX6_across_0 : decode cX6_across 0 = .ok (.iload_n 0, 1) := by decide +kernel
theorem dX6_across_1 : decode cX6_across 1 = .ok (.iconst 4, 1) := by decide +kernel
theorem dX6_across_2 : decode cX6_across 2 = .ok (.idiv, 1) := by decide +kernel
theorem dX6_across_3 : decode cX6_across 3 = .ok (.iconst 4, 1) := by decide +kernel
theorem dX6_across_4 : decode cX6_across 4 = .ok (.imul, 1) := by decide +kernel
theorem dX6_across_5 : decode cX6_across 5 = .ok (.iload_n 0, 1) := by decide +kernel
theorem dX6_across_6 : decode cX6_across 6 = .ok (.iconst 2, 1) := by decide +kernel
theorem dX6_across_7 : decode cX6_across 7 = .ok (.iadd, 1) := by decide +kernel
theorem dX6_across_8 : decode cX6_across 8 = .ok (.iconst 4, 1) := by decide +kernel
theorem dX6_across_9 : decode cX6_across 9 = .ok (.irem, 1) := by decide +kernel
theorem dX6_across_10 : decode cX6_across 10 = .ok (.iadd, 1) := by decide +kernel
theorem dX6_across_11 : decode cX6_across 11 = .ok (.ireturn, 1) := by decide +kernel
set_option maxRecDepth 20000 in
theorem ggX6_next_X6_placeOf : GoodIn wsX6_next wsX6_placeOf := goodIn_r _ [6, 7, 1, 8, 9, 10, 5, 11, 12, 16, 17, 18, 19, 20, 21, 22, 23, 24, 25, 26, 27, 28, 29, 30, 31, 32, 33, 34, 35, 36, 37, 38] (by decide +kernel) (by decide +kernel)
set_option maxRecDepth 20000 in
theorem gX6_next_X6_placeOf : GoodIn wsX6_next (wsV RX6 64 RX6 yX6_placeOf wsX6_placeOf) := goodIn_app (goodIn_of _ (by decide +kernel)) ggX6_next_X6_placeOf
set_option maxRecDepth 20000 in
theorem ggX6_next_X6_across : GoodIn wsX6_next wsX6_across := goodIn_r _ [15] (by decide +kernel) (by decide +kernel)
set_option maxRecDepth 20000 in
theorem gX6_next_X6_across : GoodIn wsX6_next (va_wsS RX6 68 yX6_across wsX6_across) := goodIn_app (goodIn_of _ (by decide +kernel)) ggX6_next_X6_across
theorem dX6_next_0 : decode cX6_next 0 = .ok (.aload_n 0, 1) := by decide +kernel
theorem dX6_next_1 : decode cX6_next 1 = .ok (.getfield 23, 3) := by decide +kernel
theorem dX6_next_4 : decode cX6_next 4 = .ok (.aload_n 0, 1) := by decide +kernel
theorem dX6_next_5 : decode cX6_next 5 = .ok (.iload_n 1, 1) := by decide +kernel
theorem dX6_next_6 : decode cX6_next 6 = .ok (.iconst 0, 1) := by decide +kernel
theorem dX6_next_7 : decode cX6_next 7 = .ok (.invokevirtual 64, 3) := by decide +kernel
theorem dX6_next_10 : decode cX6_next 10 = .ok (.invokestatic 68, 3) := by decide +kernel
theorem dX6_next_13 : decode cX6_next 13 = .ok (.iaload, 1) := by decide +kernel
theorem dX6_next_14 : decode cX6_next 14 = .ok (.ireturn, 1) := by decide +kernel
theorem dX6_upperIn_0 : decode cX6_upperIn 0 = .ok (.aload_n 0, 1) := by decide +kernel
theorem dX6_upperIn_1 : decode cX6_upperIn 1 = .ok (.getfield 20, 3) := by decide +kernel
theorem dX6_upperIn_4 : decode cX6_upperIn 4 = .ok (.iload_n 1, 1) := by decide +kernel
theorem dX6_upperIn_5 : decode cX6_upperIn 5 = .ok (.iaload, 1) := by decide +kernel
theorem dX6_upperIn_6 : decode cX6_upperIn 6 = .ok (.ifCond .le 7, 3) := by decide +kernel
theorem dX6_upperIn_9 : decode cX6_upperIn 9 = .ok (.iconst 3, 1) := by decide +kernel
theorem dX6_upperIn_10 : decode cX6_upperIn 10 = .ok (.goto 4, 3) := by decide +kernel
theorem dX6_upperIn_13 : decode cX6_upperIn 13 = .ok (.iconst 1, 1) := by decide +kernel
theorem dX6_upperIn_14 : decode cX6_upperIn 14 = .ok (.ireturn, 1) := by decide +kernel
theorem dX6_sort_0 : decode cX6_sort 0 = .ok (.aload_n 0, 1) := by decide +kernel
theorem dX6_sort_1 : decode cX6_sort 1 = .ok (.iconst 0, 1) := by decide +kernel
theorem dX6_sort_2 : decode cX6_sort 2 = .ok (.putfield 72, 3) := by decide +kernel
theorem dX6_sort_5 : decode cX6_sort 5 = .ok (.iconst 0, 1) := by decide +kernel
theorem dX6_sort_6 : decode cX6_sort 6 = .ok (.istore_n 1, 1) := by decide +kernel
theorem dX6_sort_7 : decode cX6_sort 7 = .ok (.iload_n 1, 1) := by decide +kernel
theorem dX6_sort_8 : decode cX6_sort 8 = .ok (.iconst 4, 1) := by decide +kernel
theorem dX6_sort_9 : decode cX6_sort 9 = .ok (.aload_n 0, 1) := by decide +kernel
theorem dX6_sort_10 : decode cX6_sort 10 = .ok (.getfield 57, 3) := by decide +kernel
theorem dX6_sort_13 : decode cX6_sort 13 = .ok (.imul, 1) := by decide +kernel
theorem dX6_sort_14 : decode cX6_sort 14 = .ok (.if_icmp .ge 124, 3) := by decide +kernel
theorem dX6_sort_17 : decode cX6_sort 17 = .ok (.iconst 0, 1) := by decide +kernel
theorem dX6_sort_18 : decode cX6_sort 18 = .ok (.istore_n 2, 1) := by decide +kernel
theorem dX6_sort_19 : decode cX6_sort 19 = .ok (.iconst 0, 1) := by decide +kernel
theorem dX6_sort_20 : decode cX6_sort 20 = .ok (.istore_n 3, 1) := by decide +kernel
theorem dX6_sort_21 : decode cX6_sort 21 = .ok (.iload_n 3, 1) := by decide +kernel
theorem dX6_sort_22 : decode cX6_sort 22 = .ok (.aload_n 0, 1) := by decide +kernel
theorem dX6_sort_23 : decode cX6_sort 23 = .ok (.getfield 72, 3) := by decide +kernel
theorem dX6_sort_26 : decode cX6_sort 26 = .ok (.if_icmp .ge 34, 3) := by decide +kernel
theorem dX6_sort_29 : decode cX6_sort 29 = .ok (.iload_n 2, 1) := by decide +kernel
theorem dX6_sort_30 : decode cX6_sort 30 = .ok (.ifCond .ne 18, 3) := by decide +kernel
theorem dX6_sort_33 : decode cX6_sort 33 = .ok (.aload_n 0, 1) := by decide +kernel
theorem dX6_sort_34 : decode cX6_sort 34 = .ok (.getfield 32, 3) := by decide +kernel
theorem dX6_sort_37 : decode cX6_sort 37 = .ok (.iload_n 3, 1) := by decide +kernel
theorem dX6_sort_38 : decode cX6_sort 38 = .ok (.iaload, 1) := by decide +kernel
theorem dX6_sort_39 : decode cX6_sort 39 = .ok (.aload_n 0, 1) := by decide +kernel
theorem dX6_sort_40 : decode cX6_sort 40 = .ok (.getfield 23, 3) := by decide +kernel
theorem dX6_sort_43 : decode cX6_sort 43 = .ok (.iload_n 1, 1) := by decide +kernel
theorem dX6_sort_44 : decode cX6_sort 44 = .ok (.iaload, 1) := by decide +kernel
theorem dX6_sort_45 : decode cX6_sort 45 = .ok (.if_icmp .ne 7, 3) := by decide +kernel
theorem dX6_sort_48 : decode cX6_sort 48 = .ok (.iconst 1, 1) := by decide +kernel
theorem dX6_sort_49 : decode cX6_sort 49 = .ok (.goto 4, 3) := by decide +kernel
theorem dX6_sort_52 : decode cX6_sort 52 = .ok (.iconst 0, 1) := by decide +kernel
theorem dX6_sort_53 : decode cX6_sort 53 = .ok (.istore_n 2, 1) := by decide +kernel
theorem dX6_sort_54 : decode cX6_sort 54 = .ok (.iinc 3 1, 3) := by decide +kernel
theorem dX6_sort_57 : decode cX6_sort 57 = .ok (.goto (-36), 3) := by decide +kernel
theorem dX6_sort_60 : decode cX6_sort 60 = .ok (.iload_n 2, 1) := by decide +kernel
theorem dX6_sort_61 : decode cX6_sort 61 = .ok (.ifCond .ne 71, 3) := by decide +kernel
theorem dX6_sort_64 : decode cX6_sort 64 = .ok (.aload_n 0, 1) := by decide +kernel
theorem dX6_sort_65 : decode cX6_sort 65 = .ok (.getfield 72, 3) := by decide +kernel
theorem dX6_sort_68 : decode cX6_sort 68 = .ok (.istore_n 3, 1) := by decide +kernel
theorem dX6_sort_69 : decode cX6_sort 69 = .ok (.iload_n 3, 1) := by decide +kernel
theorem dX6_sort_70 : decode cX6_sort 70 = .ok (.ifCond .le 40, 3) := by decide +kernel
theorem dX6_sort_73 : decode cX6_sort 73 = .ok (.aload_n 0, 1) := by decide +kernel
theorem dX6_sort_74 : decode cX6_sort 74 = .ok (.getfield 32, 3) := by decide +kernel
theorem dX6_sort_77 : decode cX6_sort 77 = .ok (.iload_n 3, 1) := by decide +kernel
theorem dX6_sort_78 : decode cX6_sort 78 = .ok (.iconst 1, 1) := by decide +kernel
theorem dX6_sort_79 : decode cX6_sort 79 = .ok (.isub, 1) := by decide +kernel
theorem dX6_sort_80 : decode cX6_sort 80 = .ok (.iaload, 1) := by decide +kernel
theorem dX6_sort_81 : decode cX6_sort 81 = .ok (.aload_n 0, 1) := by decide +kernel
theorem dX6_sort_82 : decode cX6_sort 82 = .ok (.getfield 23, 3) := by decide +kernel
theorem dX6_sort_85 : decode cX6_sort 85 = .ok (.iload_n 1, 1) := by decide +kernel
theorem dX6_sort_86 : decode cX6_sort 86 = .ok (.iaload, 1) := by decide +kernel
theorem dX6_sort_87 : decode cX6_sort 87 = .ok (.if_icmp .le 23, 3) := by decide +kernel
theorem dX6_sort_90 : decode cX6_sort 90 = .ok (.aload_n 0, 1) := by decide +kernel
theorem dX6_sort_91 : decode cX6_sort 91 = .ok (.getfield 32, 3) := by decide +kernel
theorem dX6_sort_94 : decode cX6_sort 94 = .ok (.iload_n 3, 1) := by decide +kernel
theorem dX6_sort_95 : decode cX6_sort 95 = .ok (.aload_n 0, 1) := by decide +kernel
theorem dX6_sort_96 : decode cX6_sort 96 = .ok (.getfield 32, 3) := by decide +kernel
theorem dX6_sort_99 : decode cX6_sort 99 = .ok (.iload_n 3, 1) := by decide +kernel
theorem dX6_sort_100 : decode cX6_sort 100 = .ok (.iconst 1, 1) := by decide +kernel
theorem dX6_sort_101 : decode cX6_sort 101 = .ok (.isub, 1) := by decide +kernel
theorem dX6_sort_102 : decode cX6_sort 102 = .ok (.iaload, 1) := by decide +kernel
theorem dX6_sort_103 : decode cX6_sort 103 = .ok (.iastore, 1) := by decide +kernel
theorem dX6_sort_104 : decode cX6_sort 104 = .ok (.iinc 3 (-1), 3) := by decide +kernel
theorem dX6_sort_107 : decode cX6_sort 107 = .ok (.goto (-38), 3) := by decide +kernel
theorem dX6_sort_110 : decode cX6_sort 110 = .ok (.aload_n 0, 1) := by decide +kernel
theorem dX6_sort_111 : decode cX6_sort 111 = .ok (.getfield 32, 3) := by decide +kernel
theorem dX6_sort_114 : decode cX6_sort 114 = .ok (.iload_n 3, 1) := by decide +kernel
theorem dX6_sort_115 : decode cX6_sort 115 = .ok (.aload_n 0, 1) := by decide +kernel
theorem dX6_sort_116 : decode cX6_sort 116 = .ok (.getfield 23, 3) := by decide +kernel
theorem dX6_sort_119 : decode cX6_sort 119 = .ok (.iload_n 1, 1) := by decide +kernel
theorem dX6_sort_120 : decode cX6_sort 120 = .ok (.iaload, 1) := by decide +kernel
theorem dX6_sort_121 : decode cX6_sort 121 = .ok (.iastore, 1) := by decide +kernel
theorem dX6_sort_122 : decode cX6_sort 122 = .ok (.aload_n 0, 1) := by decide +kernel
theorem dX6_sort_123 : decode cX6_sort 123 = .ok (.dup, 1) := by decide +kernel
theorem dX6_sort_124 : decode cX6_sort 124 = .ok (.getfield 72, 3) := by decide +kernel
theorem dX6_sort_127 : decode cX6_sort 127 = .ok (.iconst 1, 1) := by decide +kernel
theorem dX6_sort_128 : decode cX6_sort 128 = .ok (.iadd, 1) := by decide +kernel
theorem dX6_sort_129 : decode cX6_sort 129 = .ok (.putfield 72, 3) := by decide +kernel
theorem dX6_sort_132 : decode cX6_sort 132 = .ok (.iinc 1 1, 3) := by decide +kernel
theorem dX6_sort_135 : decode cX6_sort 135 = .ok (.goto (-128), 3) := by decide +kernel
theorem dX6_sort_138 : decode cX6_sort 138 = .ok (.return_, 1) := by decide +kernel
set_option maxRecDepth 20000 in
theorem ggX6_components_X6_sort : GoodIn wsX6_components wsX6_sort := goodIn_r _ [9, 3, 10, 4, 11, 28, 29, 30, 31, 32, 33, 34, 35, 36, 37, 38, 39, 40, 41, 42, 43, 44, 45, 46, 47, 48, 49, 50] (by decide +kernel) (by decide +kernel)
set_option maxRecDepth 20000 in
theorem gX6_components_X6_sort : GoodIn wsX6_components (wsV RX6 78 RX6 yX6_sort wsX6_sort) := goodIn_app (goodIn_of _ (by decide +kernel)) ggX6_components_X6_sort
set_option maxRecDepth 20000 in
theorem ggX6_components_X6_placeOf : GoodIn wsX6_components wsX6_placeOf := goodIn_r _ [15, 10, 11, 16, 17, 18, 8, 19, 20, 28, 29, 30, 31, 32, 33, 34, 35, 36, 37, 38, 39, 40, 41, 42, 43, 44, 45, 46, 47, 48, 49, 50] (by decide +kernel) (by decide +kernel)
set_option maxRecDepth 20000 in
theorem gX6_components_X6_placeOf : GoodIn wsX6_components (wsV RX6 64 RX6 yX6_placeOf wsX6_placeOf) := goodIn_app (goodIn_of _ (by decide +kernel)) ggX6_components_X6_placeOf
set_option maxRecDepth 20000 in
theorem ggX6_components_X6_next : GoodIn wsX6_components wsX6_next := goodIn_r _ [24, 11, 12, 13, 14, 8, 15, 10, 16, 17, 18, 19, 20, 25, 26, 27, 28, 29, 30, 31, 32, 33, 34, 35, 36, 37, 38, 39, 40, 41, 42, 43, 44, 45, 46, 47, 48, 49, 50] (by decide +kernel) (by decide +kernel)
set_option maxRecDepth 20000 in
theorem gX6_components_X6_next : GoodIn wsX6_components (wsV RX6 81 RX6 yX6_next wsX6_next) := goodIn_app (goodIn_of _ (by decide +kernel)) ggX6_components_X6_next
theorem dX6_components_0 : decode cX6_components 0 = .ok (.iconst 0, 1) := by decide +kernel
theorem dX6_components_1 : decode cX6_components 1 = .ok (.istore_n 1, 1) := by decide +kernel
theorem dX6_components_2 : decode cX6_components 2 = .ok (.iload_n 1, 1) := by decide +kernel
theorem dX6_components_3 : decode cX6_components 3 = .ok (.bipush 80, 2) := by decide +kernel
theorem dX6_components_5 : decode cX6_components 5 = .ok (.if_icmp .ge 16, 3) := by decide +kernel
theorem dX6_components_8 : decode cX6_components 8 = .ok (.aload_n 0, 1) := by decide +kernel
theorem dX6_components_9 : decode cX6_components 9 = .ok (.getfield 48, 3) := by decide +kernel
theorem dX6_components_12 : decode cX6_components 12 = .ok (.iload_n 1, 1) := by decide +kernel
theorem dX6_components_13 : decode cX6_components 13 = .ok (.iconst (-1), 1) := by decide +kernel
theorem dX6_components_14 : decode cX6_components 14 = .ok (.iastore, 1) := by decide +kernel
theorem dX6_components_15 : decode cX6_components 15 = .ok (.iinc 1 1, 3) := by decide +kernel
theorem dX6_components_18 : decode cX6_components 18 = .ok (.goto (-16), 3) := by decide +kernel
theorem dX6_components_21 : decode cX6_components 21 = .ok (.aload_n 0, 1) := by decide +kernel
theorem dX6_components_22 : decode cX6_components 22 = .ok (.iconst 0, 1) := by decide +kernel
theorem dX6_components_23 : decode cX6_components 23 = .ok (.putfield 75, 3) := by decide +kernel
theorem dX6_components_26 : decode cX6_components 26 = .ok (.aload_n 0, 1) := by decide +kernel
theorem dX6_components_27 : decode cX6_components 27 = .ok (.invokevirtual 78, 3) := by decide +kernel
theorem dX6_components_30 : decode cX6_components 30 = .ok (.iconst 0, 1) := by decide +kernel
theorem dX6_components_31 : decode cX6_components 31 = .ok (.istore_n 1, 1) := by decide +kernel
theorem dX6_components_32 : decode cX6_components 32 = .ok (.iload_n 1, 1) := by decide +kernel
theorem dX6_components_33 : decode cX6_components 33 = .ok (.aload_n 0, 1) := by decide +kernel
theorem dX6_components_34 : decode cX6_components 34 = .ok (.getfield 72, 3) := by decide +kernel
theorem dX6_components_37 : decode cX6_components 37 = .ok (.if_icmp .ge 111, 3) := by decide +kernel
theorem dX6_components_40 : decode cX6_components 40 = .ok (.aload_n 0, 1) := by decide +kernel
theorem dX6_components_41 : decode cX6_components 41 = .ok (.getfield 32, 3) := by decide +kernel
theorem dX6_components_44 : decode cX6_components 44 = .ok (.iload_n 1, 1) := by decide +kernel
theorem dX6_components_45 : decode cX6_components 45 = .ok (.iaload, 1) := by decide +kernel
theorem dX6_components_46 : decode cX6_components 46 = .ok (.istore_n 2, 1) := by decide +kernel
theorem dX6_components_47 : decode cX6_components 47 = .ok (.aload_n 0, 1) := by decide +kernel
theorem dX6_components_48 : decode cX6_components 48 = .ok (.getfield 48, 3) := by decide +kernel
theorem dX6_components_51 : decode cX6_components 51 = .ok (.aload_n 0, 1) := by decide +kernel
theorem dX6_components_52 : decode cX6_components 52 = .ok (.iload_n 2, 1) := by decide +kernel
theorem dX6_components_53 : decode cX6_components 53 = .ok (.iconst 1, 1) := by decide +kernel
theorem dX6_components_54 : decode cX6_components 54 = .ok (.invokevirtual 64, 3) := by decide +kernel
theorem dX6_components_57 : decode cX6_components 57 = .ok (.iaload, 1) := by decide +kernel
theorem dX6_components_58 : decode cX6_components 58 = .ok (.ifCond .ge 7, 3) := by decide +kernel
theorem dX6_components_61 : decode cX6_components 61 = .ok (.iconst 1, 1) := by decide +kernel
theorem dX6_components_62 : decode cX6_components 62 = .ok (.goto 4, 3) := by decide +kernel
theorem dX6_components_65 : decode cX6_components 65 = .ok (.iconst 0, 1) := by decide +kernel
theorem dX6_components_66 : decode cX6_components 66 = .ok (.istore_n 3, 1) := by decide +kernel
theorem dX6_components_67 : decode cX6_components 67 = .ok (.iload_n 3, 1) := by decide +kernel
theorem dX6_components_68 : decode cX6_components 68 = .ok (.ifCond .eq 56, 3) := by decide +kernel
theorem dX6_components_71 : decode cX6_components 71 = .ok (.aload_n 0, 1) := by decide +kernel
theorem dX6_components_72 : decode cX6_components 72 = .ok (.getfield 48, 3) := by decide +kernel
theorem dX6_components_75 : decode cX6_components 75 = .ok (.aload_n 0, 1) := by decide +kernel
theorem dX6_components_76 : decode cX6_components 76 = .ok (.iload_n 2, 1) := by decide +kernel
theorem dX6_components_77 : decode cX6_components 77 = .ok (.iconst 1, 1) := by decide +kernel
theorem dX6_components_78 : decode cX6_components 78 = .ok (.invokevirtual 64, 3) := by decide +kernel
theorem dX6_components_81 : decode cX6_components 81 = .ok (.iaload, 1) := by decide +kernel
theorem dX6_components_82 : decode cX6_components 82 = .ok (.ifCond .ge 42, 3) := by decide +kernel
theorem dX6_components_85 : decode cX6_components 85 = .ok (.aload_n 0, 1) := by decide +kernel
theorem dX6_components_86 : decode cX6_components 86 = .ok (.getfield 48, 3) := by decide +kernel
theorem dX6_components_89 : decode cX6_components 89 = .ok (.aload_n 0, 1) := by decide +kernel
theorem dX6_components_90 : decode cX6_components 90 = .ok (.iload_n 2, 1) := by decide +kernel
theorem dX6_components_91 : decode cX6_components 91 = .ok (.iconst 1, 1) := by decide +kernel
theorem dX6_components_92 : decode cX6_components 92 = .ok (.invokevirtual 64, 3) := by decide +kernel
theorem dX6_components_95 : decode cX6_components 95 = .ok (.aload_n 0, 1) := by decide +kernel
theorem dX6_components_96 : decode cX6_components 96 = .ok (.getfield 75, 3) := by decide +kernel
theorem dX6_components_99 : decode cX6_components 99 = .ok (.iastore, 1) := by decide +kernel
theorem dX6_components_100 : decode cX6_components 100 = .ok (.aload_n 0, 1) := by decide +kernel
theorem dX6_components_101 : decode cX6_components 101 = .ok (.getfield 48, 3) := by decide +kernel
theorem dX6_components_104 : decode cX6_components 104 = .ok (.aload_n 0, 1) := by decide +kernel
theorem dX6_components_105 : decode cX6_components 105 = .ok (.iload_n 2, 1) := by decide +kernel
theorem dX6_components_106 : decode cX6_components 106 = .ok (.iconst 0, 1) := by decide +kernel
theorem dX6_components_107 : decode cX6_components 107 = .ok (.invokevirtual 64, 3) := by decide +kernel
theorem dX6_components_110 : decode cX6_components 110 = .ok (.aload_n 0, 1) := by decide +kernel
theorem dX6_components_111 : decode cX6_components 111 = .ok (.getfield 75, 3) := by decide +kernel
theorem dX6_components_114 : decode cX6_components 114 = .ok (.iastore, 1) := by decide +kernel
theorem dX6_components_115 : decode cX6_components 115 = .ok (.aload_n 0, 1) := by decide +kernel
theorem dX6_components_116 : decode cX6_components 116 = .ok (.iload_n 2, 1) := by decide +kernel
theorem dX6_components_117 : decode cX6_components 117 = .ok (.invokevirtual 81, 3) := by decide +kernel
theorem dX6_components_120 : decode cX6_components 120 = .ok (.istore_n 2, 1) := by decide +kernel
theorem dX6_components_121 : decode cX6_components 121 = .ok (.goto (-54), 3) := by decide +kernel
theorem dX6_components_124 : decode cX6_components 124 = .ok (.aload_n 0, 1) := by decide +kernel
theorem dX6_components_125 : decode cX6_components 125 = .ok (.dup, 1) := by decide +kernel
theorem dX6_components_126 : decode cX6_components 126 = .ok (.getfield 75, 3) := by decide +kernel
theorem dX6_components_129 : decode cX6_components 129 = .ok (.iload_n 3, 1) := by decide +kernel
theorem dX6_components_130 : decode cX6_components 130 = .ok (.ifCond .eq 7, 3) := by decide +kernel
theorem dX6_components_133 : decode cX6_components 133 = .ok (.iconst 1, 1) := by decide +kernel
theorem dX6_components_134 : decode cX6_components 134 = .ok (.goto 4, 3) := by decide +kernel
theorem dX6_components_137 : decode cX6_components 137 = .ok (.iconst 0, 1) := by decide +kernel
theorem dX6_components_138 : decode cX6_components 138 = .ok (.iadd, 1) := by decide +kernel
theorem dX6_components_139 : decode cX6_components 139 = .ok (.putfield 75, 3) := by decide +kernel
theorem dX6_components_142 : decode cX6_components 142 = .ok (.iinc 1 1, 3) := by decide +kernel
theorem dX6_components_145 : decode cX6_components 145 = .ok (.goto (-113), 3) := by decide +kernel
theorem dX6_components_148 : decode cX6_components 148 = .ok (.return_, 1) := by decide +kernel
set_option maxRecDepth 20000 in
theorem ggX6_componentOf_X6_components : GoodIn wsX6_componentOf wsX6_components := goodIn_r _ [6, 1, 7, 8, 9, 10, 11, 12, 5, 13, 14, 15, 16, 17, 18, 19, 20, 21, 22, 23, 24, 25, 26, 27, 28, 29, 30, 31, 32, 33, 34, 35, 36, 37, 38, 39, 40, 41, 42, 43, 44, 45, 46, 47, 48, 49, 50, 51, 52, 53, 54] (by decide +kernel) (by decide +kernel)
set_option maxRecDepth 20000 in
theorem gX6_componentOf_X6_components : GoodIn wsX6_componentOf (wsV RX6 84 RX6 yX6_components wsX6_components) := goodIn_app (goodIn_of _ (by decide +kernel)) ggX6_componentOf_X6_components
set_option maxRecDepth 20000 in
theorem ggX6_componentOf_X6_placeOf : GoodIn wsX6_componentOf wsX6_placeOf := goodIn_r _ [19, 14, 15, 20, 21, 22, 5, 23, 24, 32, 33, 34, 35, 36, 37, 38, 39, 40, 41, 42, 43, 44, 45, 46, 47, 48, 49, 50, 51, 52, 53, 54] (by decide +kernel) (by decide +kernel)
set_option maxRecDepth 20000 in
theorem gX6_componentOf_X6_placeOf : GoodIn wsX6_componentOf (wsV RX6 64 RX6 yX6_placeOf wsX6_placeOf) := goodIn_app (goodIn_of _ (by decide +kernel)) ggX6_componentOf_X6_placeOf
theorem dX6_componentOf_0 : decode cX6_componentOf 0 = .ok (.aload_n 0, 1) := by decide +kernel
theorem dX6_componentOf_1 : decode cX6_componentOf 1 = .ok (.invokevirtual 84, 3) := by decide +kernel
theorem dX6_componentOf_4 : decode cX6_componentOf 4 = .ok (.aload_n 0, 1) := by decide +kernel
theorem dX6_componentOf_5 : decode cX6_componentOf 5 = .ok (.getfield 48, 3) := by decide +kernel
theorem dX6_componentOf_8 : decode cX6_componentOf 8 = .ok (.aload_n 0, 1) := by decide +kernel
theorem dX6_componentOf_9 : decode cX6_componentOf 9 = .ok (.iload_n 1, 1) := by decide +kernel
theorem dX6_componentOf_10 : decode cX6_componentOf 10 = .ok (.iconst 1, 1) := by decide +kernel
theorem dX6_componentOf_11 : decode cX6_componentOf 11 = .ok (.invokevirtual 64, 3) := by decide +kernel
theorem dX6_componentOf_14 : decode cX6_componentOf 14 = .ok (.iaload, 1) := by decide +kernel
theorem dX6_componentOf_15 : decode cX6_componentOf 15 = .ok (.ireturn, 1) := by decide +kernel
set_option maxRecDepth 20000 in
theorem ggX6_beginning_X6_components : GoodIn wsX6_beginning wsX6_components := goodIn_r _ [8, 2, 9, 1, 3, 10, 11, 12, 7, 13, 14, 15, 16, 17, 18, 19, 20, 21, 22, 23, 24, 25, 26, 27, 28, 29, 30, 31, 32, 33, 34, 35, 36, 37, 38, 39, 40, 41, 42, 43, 44, 45, 46, 47, 48, 49, 50, 51, 52, 53, 54] (by decide +kernel) (by decide +kernel)
set_option maxRecDepth 20000 in
theorem gX6_beginning_X6_components : GoodIn wsX6_beginning (wsV RX6 84 RX6 yX6_components wsX6_components) := goodIn_app (goodIn_of _ (by decide +kernel)) ggX6_beginning_X6_components
set_option maxRecDepth 20000 in
theorem ggX6_beginning_X6_placeOf : GoodIn wsX6_beginning wsX6_placeOf := goodIn_r _ [19, 14, 15, 20, 21, 22, 7, 23, 24, 32, 33, 34, 35, 36, 37, 38, 39, 40, 41, 42, 43, 44, 45, 46, 47, 48, 49, 50, 51, 52, 53, 54] (by decide +kernel) (by decide +kernel)
set_option maxRecDepth 20000 in
theorem gX6_beginning_X6_placeOf : GoodIn wsX6_beginning (wsV RX6 64 RX6 yX6_placeOf wsX6_placeOf) := goodIn_app (goodIn_of _ (by decide +kernel)) ggX6_beginning_X6_placeOf
theorem dX6_beginning_0 : decode cX6_beginning 0 = .ok (.iconst 0, 1) := by decide +kernel
theorem dX6_beginning_1 : decode cX6_beginning 1 = .ok (.istore_n 2, 1) := by decide +kernel
theorem dX6_beginning_2 : decode cX6_beginning 2 = .ok (.aload_n 0, 1) := by decide +kernel
theorem dX6_beginning_3 : decode cX6_beginning 3 = .ok (.invokevirtual 84, 3) := by decide +kernel
theorem dX6_beginning_6 : decode cX6_beginning 6 = .ok (.aload_n 0, 1) := by decide +kernel
theorem dX6_beginning_7 : decode cX6_beginning 7 = .ok (.getfield 72, 3) := by decide +kernel
theorem dX6_beginning_10 : decode cX6_beginning 10 = .ok (.iconst 1, 1) := by decide +kernel
theorem dX6_beginning_11 : decode cX6_beginning 11 = .ok (.isub, 1) := by decide +kernel
theorem dX6_beginning_12 : decode cX6_beginning 12 = .ok (.istore_n 3, 1) := by decide +kernel
theorem dX6_beginning_13 : decode cX6_beginning 13 = .ok (.iload_n 3, 1) := by decide +kernel
theorem dX6_beginning_14 : decode cX6_beginning 14 = .ok (.ifCond .lt 40, 3) := by decide +kernel
theorem dX6_beginning_17 : decode cX6_beginning 17 = .ok (.aload_n 0, 1) := by decide +kernel
theorem dX6_beginning_18 : decode cX6_beginning 18 = .ok (.getfield 48, 3) := by decide +kernel
theorem dX6_beginning_21 : decode cX6_beginning 21 = .ok (.aload_n 0, 1) := by decide +kernel
theorem dX6_beginning_22 : decode cX6_beginning 22 = .ok (.aload_n 0, 1) := by decide +kernel
theorem dX6_beginning_23 : decode cX6_beginning 23 = .ok (.getfield 32, 3) := by decide +kernel
theorem dX6_beginning_26 : decode cX6_beginning 26 = .ok (.iload_n 3, 1) := by decide +kernel
theorem dX6_beginning_27 : decode cX6_beginning 27 = .ok (.iaload, 1) := by decide +kernel
theorem dX6_beginning_28 : decode cX6_beginning 28 = .ok (.iconst 1, 1) := by decide +kernel
theorem dX6_beginning_29 : decode cX6_beginning 29 = .ok (.invokevirtual 64, 3) := by decide +kernel
theorem dX6_beginning_32 : decode cX6_beginning 32 = .ok (.iaload, 1) := by decide +kernel
theorem dX6_beginning_33 : decode cX6_beginning 33 = .ok (.iload_n 1, 1) := by decide +kernel
theorem dX6_beginning_34 : decode cX6_beginning 34 = .ok (.if_icmp .ne 12, 3) := by decide +kernel
theorem dX6_beginning_37 : decode cX6_beginning 37 = .ok (.aload_n 0, 1) := by decide +kernel
theorem dX6_beginning_38 : decode cX6_beginning 38 = .ok (.getfield 32, 3) := by decide +kernel
theorem dX6_beginning_41 : decode cX6_beginning 41 = .ok (.iload_n 3, 1) := by decide +kernel
theorem dX6_beginning_42 : decode cX6_beginning 42 = .ok (.iaload, 1) := by decide +kernel
theorem dX6_beginning_43 : decode cX6_beginning 43 = .ok (.goto 4, 3) := by decide +kernel
theorem dX6_beginning_46 : decode cX6_beginning 46 = .ok (.iload_n 2, 1) := by decide +kernel
theorem dX6_beginning_47 : decode cX6_beginning 47 = .ok (.istore_n 2, 1) := by decide +kernel
theorem dX6_beginning_48 : decode cX6_beginning 48 = .ok (.iinc 3 (-1), 3) := by decide +kernel
theorem dX6_beginning_51 : decode cX6_beginning 51 = .ok (.goto (-38), 3) := by decide +kernel
theorem dX6_beginning_54 : decode cX6_beginning 54 = .ok (.iload_n 2, 1) := by decide +kernel
theorem dX6_beginning_55 : decode cX6_beginning 55 = .ok (.ireturn, 1) := by decide +kernel
theorem dX6_hang_0 : decode cX6_hang 0 = .ok (.iconst 0, 1) := by decide +kernel
theorem dX6_hang_1 : decode cX6_hang 1 = .ok (.istore_n 1, 1) := by decide +kernel
theorem dX6_hang_2 : decode cX6_hang 2 = .ok (.iload_n 1, 1) := by decide +kernel
theorem dX6_hang_3 : decode cX6_hang 3 = .ok (.aload_n 0, 1) := by decide +kernel
theorem dX6_hang_4 : decode cX6_hang 4 = .ok (.getfield 57, 3) := by decide +kernel
theorem dX6_hang_7 : decode cX6_hang 7 = .ok (.if_icmp .ge 16, 3) := by decide +kernel
theorem dX6_hang_10 : decode cX6_hang 10 = .ok (.aload_n 0, 1) := by decide +kernel
theorem dX6_hang_11 : decode cX6_hang 11 = .ok (.getfield 45, 3) := by decide +kernel
theorem dX6_hang_14 : decode cX6_hang 14 = .ok (.iload_n 1, 1) := by decide +kernel
theorem dX6_hang_15 : decode cX6_hang 15 = .ok (.iload_n 1, 1) := by decide +kernel
theorem dX6_hang_16 : decode cX6_hang 16 = .ok (.iastore, 1) := by decide +kernel
theorem dX6_hang_17 : decode cX6_hang 17 = .ok (.iinc 1 1, 3) := by decide +kernel
theorem dX6_hang_20 : decode cX6_hang 20 = .ok (.goto (-18), 3) := by decide +kernel
theorem dX6_hang_23 : decode cX6_hang 23 = .ok (.iconst 1, 1) := by decide +kernel
theorem dX6_hang_24 : decode cX6_hang 24 = .ok (.istore_n 1, 1) := by decide +kernel
theorem dX6_hang_25 : decode cX6_hang 25 = .ok (.iload_n 1, 1) := by decide +kernel
theorem dX6_hang_26 : decode cX6_hang 26 = .ok (.ifCond .eq 96, 3) := by decide +kernel
theorem dX6_hang_29 : decode cX6_hang 29 = .ok (.iconst 0, 1) := by decide +kernel
theorem dX6_hang_30 : decode cX6_hang 30 = .ok (.istore_n 1, 1) := by decide +kernel
theorem dX6_hang_31 : decode cX6_hang 31 = .ok (.iconst 0, 1) := by decide +kernel
theorem dX6_hang_32 : decode cX6_hang 32 = .ok (.istore_n 2, 1) := by decide +kernel
theorem dX6_hang_33 : decode cX6_hang 33 = .ok (.iload_n 2, 1) := by decide +kernel
theorem dX6_hang_34 : decode cX6_hang 34 = .ok (.iconst 4, 1) := by decide +kernel
theorem dX6_hang_35 : decode cX6_hang 35 = .ok (.aload_n 0, 1) := by decide +kernel
theorem dX6_hang_36 : decode cX6_hang 36 = .ok (.getfield 57, 3) := by decide +kernel
theorem dX6_hang_39 : decode cX6_hang 39 = .ok (.imul, 1) := by decide +kernel
theorem dX6_hang_40 : decode cX6_hang 40 = .ok (.if_icmp .ge 79, 3) := by decide +kernel
theorem dX6_hang_43 : decode cX6_hang 43 = .ok (.iconst 0, 1) := by decide +kernel
theorem dX6_hang_44 : decode cX6_hang 44 = .ok (.istore_n 3, 1) := by decide +kernel
theorem dX6_hang_45 : decode cX6_hang 45 = .ok (.iload_n 3, 1) := by decide +kernel
theorem dX6_hang_46 : decode cX6_hang 46 = .ok (.iconst 4, 1) := by decide +kernel
theorem dX6_hang_47 : decode cX6_hang 47 = .ok (.aload_n 0, 1) := by decide +kernel
theorem dX6_hang_48 : decode cX6_hang 48 = .ok (.getfield 57, 3) := by decide +kernel
theorem dX6_hang_51 : decode cX6_hang 51 = .ok (.imul, 1) := by decide +kernel
theorem dX6_hang_52 : decode cX6_hang 52 = .ok (.if_icmp .ge 61, 3) := by decide +kernel
theorem dX6_hang_55 : decode cX6_hang 55 = .ok (.aload_n 0, 1) := by decide +kernel
theorem dX6_hang_56 : decode cX6_hang 56 = .ok (.getfield 23, 3) := by decide +kernel
theorem dX6_hang_59 : decode cX6_hang 59 = .ok (.iload_n 2, 1) := by decide +kernel
theorem dX6_hang_60 : decode cX6_hang 60 = .ok (.iaload, 1) := by decide +kernel
theorem dX6_hang_61 : decode cX6_hang 61 = .ok (.aload_n 0, 1) := by decide +kernel
theorem dX6_hang_62 : decode cX6_hang 62 = .ok (.getfield 23, 3) := by decide +kernel
theorem dX6_hang_65 : decode cX6_hang 65 = .ok (.iload_n 3, 1) := by decide +kernel
theorem dX6_hang_66 : decode cX6_hang 66 = .ok (.iaload, 1) := by decide +kernel
theorem dX6_hang_67 : decode cX6_hang 67 = .ok (.if_icmp .ne 40, 3) := by decide +kernel
theorem dX6_hang_70 : decode cX6_hang 70 = .ok (.aload_n 0, 1) := by decide +kernel
theorem dX6_hang_71 : decode cX6_hang 71 = .ok (.getfield 45, 3) := by decide +kernel
theorem dX6_hang_74 : decode cX6_hang 74 = .ok (.iload_n 2, 1) := by decide +kernel
theorem dX6_hang_75 : decode cX6_hang 75 = .ok (.iconst 4, 1) := by decide +kernel
theorem dX6_hang_76 : decode cX6_hang 76 = .ok (.idiv, 1) := by decide +kernel
theorem dX6_hang_77 : decode cX6_hang 77 = .ok (.iaload, 1) := by decide +kernel
theorem dX6_hang_78 : decode cX6_hang 78 = .ok (.aload_n 0, 1) := by decide +kernel
theorem dX6_hang_79 : decode cX6_hang 79 = .ok (.getfield 45, 3) := by decide +kernel
theorem dX6_hang_82 : decode cX6_hang 82 = .ok (.iload_n 3, 1) := by decide +kernel
theorem dX6_hang_83 : decode cX6_hang 83 = .ok (.iconst 4, 1) := by decide +kernel
theorem dX6_hang_84 : decode cX6_hang 84 = .ok (.idiv, 1) := by decide +kernel
theorem dX6_hang_85 : decode cX6_hang 85 = .ok (.iaload, 1) := by decide +kernel
theorem dX6_hang_86 : decode cX6_hang 86 = .ok (.if_icmp .ge 21, 3) := by decide +kernel
theorem dX6_hang_89 : decode cX6_hang 89 = .ok (.aload_n 0, 1) := by decide +kernel
theorem dX6_hang_90 : decode cX6_hang 90 = .ok (.getfield 45, 3) := by decide +kernel
theorem dX6_hang_93 : decode cX6_hang 93 = .ok (.iload_n 3, 1) := by decide +kernel
theorem dX6_hang_94 : decode cX6_hang 94 = .ok (.iconst 4, 1) := by decide +kernel
theorem dX6_hang_95 : decode cX6_hang 95 = .ok (.idiv, 1) := by decide +kernel
theorem dX6_hang_96 : decode cX6_hang 96 = .ok (.aload_n 0, 1) := by decide +kernel
theorem dX6_hang_97 : decode cX6_hang 97 = .ok (.getfield 45, 3) := by decide +kernel
theorem dX6_hang_100 : decode cX6_hang 100 = .ok (.iload_n 2, 1) := by decide +kernel
theorem dX6_hang_101 : decode cX6_hang 101 = .ok (.iconst 4, 1) := by decide +kernel
theorem dX6_hang_102 : decode cX6_hang 102 = .ok (.idiv, 1) := by decide +kernel
theorem dX6_hang_103 : decode cX6_hang 103 = .ok (.iaload, 1) := by decide +kernel
theorem dX6_hang_104 : decode cX6_hang 104 = .ok (.iastore, 1) := by decide +kernel
theorem dX6_hang_105 : decode cX6_hang 105 = .ok (.iconst 1, 1) := by decide +kernel
theorem dX6_hang_106 : decode cX6_hang 106 = .ok (.istore_n 1, 1) := by decide +kernel
theorem dX6_hang_107 : decode cX6_hang 107 = .ok (.iinc 3 1, 3) := by decide +kernel
theorem dX6_hang_110 : decode cX6_hang 110 = .ok (.goto (-65), 3) := by decide +kernel
theorem dX6_hang_113 : decode cX6_hang 113 = .ok (.iinc 2 1, 3) := by decide +kernel
theorem dX6_hang_116 : decode cX6_hang 116 = .ok (.goto (-83), 3) := by decide +kernel
theorem dX6_hang_119 : decode cX6_hang 119 = .ok (.goto (-94), 3) := by decide +kernel
theorem dX6_hang_122 : decode cX6_hang 122 = .ok (.return_, 1) := by decide +kernel
set_option maxRecDepth 20000 in
theorem ggX6_pieceOf_X6_hang : GoodIn wsX6_pieceOf wsX6_hang := goodIn_r _ [6, 7, 1, 8, 9, 10, 11, 12, 13, 14, 15, 16, 17, 18, 19, 20, 21, 22, 23, 24, 25, 26, 27, 28, 29, 30, 31] (by decide +kernel) (by decide +kernel)
set_option maxRecDepth 20000 in
theorem gX6_pieceOf_X6_hang : GoodIn wsX6_pieceOf (wsV RX6 87 RX6 yX6_hang wsX6_hang) := goodIn_app (goodIn_of _ (by decide +kernel)) ggX6_pieceOf_X6_hang
theorem dX6_pieceOf_0 : decode cX6_pieceOf 0 = .ok (.aload_n 0, 1) := by decide +kernel
theorem dX6_pieceOf_1 : decode cX6_pieceOf 1 = .ok (.invokevirtual 87, 3) := by decide +kernel
theorem dX6_pieceOf_4 : decode cX6_pieceOf 4 = .ok (.iconst 0, 1) := by decide +kernel
theorem dX6_pieceOf_5 : decode cX6_pieceOf 5 = .ok (.istore_n 2, 1) := by decide +kernel
theorem dX6_pieceOf_6 : decode cX6_pieceOf 6 = .ok (.iconst 0, 1) := by decide +kernel
theorem dX6_pieceOf_7 : decode cX6_pieceOf 7 = .ok (.istore_n 3, 1) := by decide +kernel
theorem dX6_pieceOf_8 : decode cX6_pieceOf 8 = .ok (.iload_n 3, 1) := by decide +kernel
theorem dX6_pieceOf_9 : decode cX6_pieceOf 9 = .ok (.aload_n 0, 1) := by decide +kernel
theorem dX6_pieceOf_10 : decode cX6_pieceOf 10 = .ok (.getfield 45, 3) := by decide +kernel
theorem dX6_pieceOf_13 : decode cX6_pieceOf 13 = .ok (.iload_n 1, 1) := by decide +kernel
theorem dX6_pieceOf_14 : decode cX6_pieceOf 14 = .ok (.iaload, 1) := by decide +kernel
theorem dX6_pieceOf_15 : decode cX6_pieceOf 15 = .ok (.if_icmp .ge 27, 3) := by decide +kernel
theorem dX6_pieceOf_18 : decode cX6_pieceOf 18 = .ok (.iload_n 2, 1) := by decide +kernel
theorem dX6_pieceOf_19 : decode cX6_pieceOf 19 = .ok (.aload_n 0, 1) := by decide +kernel
theorem dX6_pieceOf_20 : decode cX6_pieceOf 20 = .ok (.getfield 45, 3) := by decide +kernel
theorem dX6_pieceOf_23 : decode cX6_pieceOf 23 = .ok (.iload_n 3, 1) := by decide +kernel
theorem dX6_pieceOf_24 : decode cX6_pieceOf 24 = .ok (.iaload, 1) := by decide +kernel
theorem dX6_pieceOf_25 : decode cX6_pieceOf 25 = .ok (.iload_n 3, 1) := by decide +kernel
theorem dX6_pieceOf_26 : decode cX6_pieceOf 26 = .ok (.if_icmp .ne 7, 3) := by decide +kernel
theorem dX6_pieceOf_29 : decode cX6_pieceOf 29 = .ok (.iconst 1, 1) := by decide +kernel
theorem dX6_pieceOf_30 : decode cX6_pieceOf 30 = .ok (.goto 4, 3) := by decide +kernel
theorem dX6_pieceOf_33 : decode cX6_pieceOf 33 = .ok (.iconst 0, 1) := by decide +kernel
theorem dX6_pieceOf_34 : decode cX6_pieceOf 34 = .ok (.iadd, 1) := by decide +kernel
theorem dX6_pieceOf_35 : decode cX6_pieceOf 35 = .ok (.istore_n 2, 1) := by decide +kernel
theorem dX6_pieceOf_36 : decode cX6_pieceOf 36 = .ok (.iinc 3 1, 3) := by decide +kernel
theorem dX6_pieceOf_39 : decode cX6_pieceOf 39 = .ok (.goto (-31), 3) := by decide +kernel
theorem dX6_pieceOf_42 : decode cX6_pieceOf 42 = .ok (.iload_n 2, 1) := by decide +kernel
theorem dX6_pieceOf_43 : decode cX6_pieceOf 43 = .ok (.ireturn, 1) := by decide +kernel
set_option maxRecDepth 20000 in
theorem ggX6_pieces_X6_hang : GoodIn wsX6_pieces wsX6_hang := goodIn_r _ [7, 1, 2, 8, 9, 10, 11, 12, 13, 14, 15, 16, 17, 18, 19, 20, 21, 22, 23, 24, 25, 26, 27, 28, 29, 30, 31] (by decide +kernel) (by decide +kernel)
set_option maxRecDepth 20000 in
theorem gX6_pieces_X6_hang : GoodIn wsX6_pieces (wsV RX6 87 RX6 yX6_hang wsX6_hang) := goodIn_app (goodIn_of _ (by decide +kernel)) ggX6_pieces_X6_hang
theorem dX6_pieces_0 : decode cX6_pieces 0 = .ok (.aload_n 0, 1) := by decide +kernel
theorem dX6_pieces_1 : decode cX6_pieces 1 = .ok (.invokevirtual 87, 3) := by decide +kernel
theorem dX6_pieces_4 : decode cX6_pieces 4 = .ok (.iconst 0, 1) := by decide +kernel
theorem dX6_pieces_5 : decode cX6_pieces 5 = .ok (.istore_n 1, 1) := by decide +kernel
theorem dX6_pieces_6 : decode cX6_pieces 6 = .ok (.iconst 0, 1) := by decide +kernel
theorem dX6_pieces_7 : decode cX6_pieces 7 = .ok (.istore_n 2, 1) := by decide +kernel
theorem dX6_pieces_8 : decode cX6_pieces 8 = .ok (.iload_n 2, 1) := by decide +kernel
theorem dX6_pieces_9 : decode cX6_pieces 9 = .ok (.aload_n 0, 1) := by decide +kernel
theorem dX6_pieces_10 : decode cX6_pieces 10 = .ok (.getfield 57, 3) := by decide +kernel
theorem dX6_pieces_13 : decode cX6_pieces 13 = .ok (.if_icmp .ge 27, 3) := by decide +kernel
theorem dX6_pieces_16 : decode cX6_pieces 16 = .ok (.iload_n 1, 1) := by decide +kernel
theorem dX6_pieces_17 : decode cX6_pieces 17 = .ok (.aload_n 0, 1) := by decide +kernel
theorem dX6_pieces_18 : decode cX6_pieces 18 = .ok (.getfield 45, 3) := by decide +kernel
theorem dX6_pieces_21 : decode cX6_pieces 21 = .ok (.iload_n 2, 1) := by decide +kernel
theorem dX6_pieces_22 : decode cX6_pieces 22 = .ok (.iaload, 1) := by decide +kernel
theorem dX6_pieces_23 : decode cX6_pieces 23 = .ok (.iload_n 2, 1) := by decide +kernel
theorem dX6_pieces_24 : decode cX6_pieces 24 = .ok (.if_icmp .ne 7, 3) := by decide +kernel
theorem dX6_pieces_27 : decode cX6_pieces 27 = .ok (.iconst 1, 1) := by decide +kernel
theorem dX6_pieces_28 : decode cX6_pieces 28 = .ok (.goto 4, 3) := by decide +kernel
theorem dX6_pieces_31 : decode cX6_pieces 31 = .ok (.iconst 0, 1) := by decide +kernel
theorem dX6_pieces_32 : decode cX6_pieces 32 = .ok (.iadd, 1) := by decide +kernel
theorem dX6_pieces_33 : decode cX6_pieces 33 = .ok (.istore_n 1, 1) := by decide +kernel
theorem dX6_pieces_34 : decode cX6_pieces 34 = .ok (.iinc 2 1, 3) := by decide +kernel
theorem dX6_pieces_37 : decode cX6_pieces 37 = .ok (.goto (-29), 3) := by decide +kernel
theorem dX6_pieces_40 : decode cX6_pieces 40 = .ok (.iload_n 1, 1) := by decide +kernel
theorem dX6_pieces_41 : decode cX6_pieces 41 = .ok (.ireturn, 1) := by decide +kernel
set_option maxRecDepth 20000 in
theorem ggX6_turn_X6_placeOf : GoodIn wsX6_turn wsX6_placeOf := goodIn_r _ [6, 7, 1, 8, 9, 10, 5, 11, 12, 13, 14, 15, 16, 17, 18, 19, 20, 21, 22, 23, 24, 25, 26, 27, 28, 29, 30, 31, 32, 33, 34, 35] (by decide +kernel) (by decide +kernel)
set_option maxRecDepth 20000 in
theorem gX6_turn_X6_placeOf : GoodIn wsX6_turn (wsV RX6 64 RX6 yX6_placeOf wsX6_placeOf) := goodIn_app (goodIn_of _ (by decide +kernel)) ggX6_turn_X6_placeOf
set_option maxRecDepth 20000 in
theorem ggX6_turn_X6_isOut : GoodIn wsX6_turn wsX6_isOut := goodIn_r _ [11, 12, 13, 14, 15, 16, 17, 18, 19, 20, 21, 22, 23, 24, 25, 26, 27, 28, 29, 30, 31, 32, 33, 34, 35] (by decide +kernel) (by decide +kernel)
set_option maxRecDepth 20000 in
theorem gX6_turn_X6_isOut : GoodIn wsX6_turn (wsV RX6 60 RX6 yX6_isOut wsX6_isOut) := goodIn_app (goodIn_of _ (by decide +kernel)) ggX6_turn_X6_isOut
theorem dX6_turn_0 : decode cX6_turn 0 = .ok (.aload_n 0, 1) := by decide +kernel
theorem dX6_turn_1 : decode cX6_turn 1 = .ok (.iload_n 1, 1) := by decide +kernel
theorem dX6_turn_2 : decode cX6_turn 2 = .ok (.iconst 2, 1) := by decide +kernel
theorem dX6_turn_3 : decode cX6_turn 3 = .ok (.idiv, 1) := by decide +kernel
theorem dX6_turn_4 : decode cX6_turn 4 = .ok (.iload_n 1, 1) := by decide +kernel
theorem dX6_turn_5 : decode cX6_turn 5 = .ok (.iconst 2, 1) := by decide +kernel
theorem dX6_turn_6 : decode cX6_turn 6 = .ok (.irem, 1) := by decide +kernel
theorem dX6_turn_7 : decode cX6_turn 7 = .ok (.iconst 1, 1) := by decide +kernel
theorem dX6_turn_8 : decode cX6_turn 8 = .ok (.if_icmp .ne 7, 3) := by decide +kernel
theorem dX6_turn_11 : decode cX6_turn 11 = .ok (.iconst 1, 1) := by decide +kernel
theorem dX6_turn_12 : decode cX6_turn 12 = .ok (.goto 4, 3) := by decide +kernel
theorem dX6_turn_15 : decode cX6_turn 15 = .ok (.iconst 0, 1) := by decide +kernel
theorem dX6_turn_16 : decode cX6_turn 16 = .ok (.invokevirtual 64, 3) := by decide +kernel
theorem dX6_turn_19 : decode cX6_turn 19 = .ok (.istore_n 2, 1) := by decide +kernel
theorem dX6_turn_20 : decode cX6_turn 20 = .ok (.iload_n 2, 1) := by decide +kernel
theorem dX6_turn_21 : decode cX6_turn 21 = .ok (.iconst 4, 1) := by decide +kernel
theorem dX6_turn_22 : decode cX6_turn 22 = .ok (.idiv, 1) := by decide +kernel
theorem dX6_turn_23 : decode cX6_turn 23 = .ok (.iconst 4, 1) := by decide +kernel
theorem dX6_turn_24 : decode cX6_turn 24 = .ok (.imul, 1) := by decide +kernel
theorem dX6_turn_25 : decode cX6_turn 25 = .ok (.iload_n 2, 1) := by decide +kernel
theorem dX6_turn_26 : decode cX6_turn 26 = .ok (.iconst 3, 1) := by decide +kernel
theorem dX6_turn_27 : decode cX6_turn 27 = .ok (.iadd, 1) := by decide +kernel
theorem dX6_turn_28 : decode cX6_turn 28 = .ok (.iconst 4, 1) := by decide +kernel
theorem dX6_turn_29 : decode cX6_turn 29 = .ok (.irem, 1) := by decide +kernel
theorem dX6_turn_30 : decode cX6_turn 30 = .ok (.iadd, 1) := by decide +kernel
theorem dX6_turn_31 : decode cX6_turn 31 = .ok (.istore_n 3, 1) := by decide +kernel
theorem dX6_turn_32 : decode cX6_turn 32 = .ok (.iconst 2, 1) := by decide +kernel
theorem dX6_turn_33 : decode cX6_turn 33 = .ok (.aload_n 0, 1) := by decide +kernel
theorem dX6_turn_34 : decode cX6_turn 34 = .ok (.getfield 23, 3) := by decide +kernel
theorem dX6_turn_37 : decode cX6_turn 37 = .ok (.iload_n 3, 1) := by decide +kernel
theorem dX6_turn_38 : decode cX6_turn 38 = .ok (.iaload, 1) := by decide +kernel
theorem dX6_turn_39 : decode cX6_turn 39 = .ok (.imul, 1) := by decide +kernel
theorem dX6_turn_40 : decode cX6_turn 40 = .ok (.aload_n 0, 1) := by decide +kernel
theorem dX6_turn_41 : decode cX6_turn 41 = .ok (.iload_n 3, 1) := by decide +kernel
theorem dX6_turn_42 : decode cX6_turn 42 = .ok (.invokevirtual 60, 3) := by decide +kernel
theorem dX6_turn_45 : decode cX6_turn 45 = .ok (.ifCond .eq 7, 3) := by decide +kernel
theorem dX6_turn_48 : decode cX6_turn 48 = .ok (.iconst 0, 1) := by decide +kernel
theorem dX6_turn_49 : decode cX6_turn 49 = .ok (.goto 4, 3) := by decide +kernel
theorem dX6_turn_52 : decode cX6_turn 52 = .ok (.iconst 1, 1) := by decide +kernel
theorem dX6_turn_53 : decode cX6_turn 53 = .ok (.iadd, 1) := by decide +kernel
theorem dX6_turn_54 : decode cX6_turn 54 = .ok (.ireturn, 1) := by decide +kernel
theorem dX6_rowOf_0 : decode cX6_rowOf 0 = .ok (.iconst 0, 1) := by decide +kernel
theorem dX6_rowOf_1 : decode cX6_rowOf 1 = .ok (.istore_n 2, 1) := by decide +kernel
theorem dX6_rowOf_2 : decode cX6_rowOf 2 = .ok (.aload_n 0, 1) := by decide +kernel
theorem dX6_rowOf_3 : decode cX6_rowOf 3 = .ok (.getfield 32, 3) := by decide +kernel
theorem dX6_rowOf_6 : decode cX6_rowOf 6 = .ok (.iload_n 2, 1) := by decide +kernel
theorem dX6_rowOf_7 : decode cX6_rowOf 7 = .ok (.iaload, 1) := by decide +kernel
theorem dX6_rowOf_8 : decode cX6_rowOf 8 = .ok (.iload_n 1, 1) := by decide +kernel
theorem dX6_rowOf_9 : decode cX6_rowOf 9 = .ok (.if_icmp .eq 9, 3) := by decide +kernel
theorem dX6_rowOf_12 : decode cX6_rowOf 12 = .ok (.iinc 2 1, 3) := by decide +kernel
theorem dX6_rowOf_15 : decode cX6_rowOf 15 = .ok (.goto (-13), 3) := by decide +kernel
theorem dX6_rowOf_18 : decode cX6_rowOf 18 = .ok (.iload_n 2, 1) := by decide +kernel
theorem dX6_rowOf_19 : decode cX6_rowOf 19 = .ok (.ireturn, 1) := by decide +kernel
set_option maxRecDepth 20000 in
theorem ggX6_findFaces_X6_sort : GoodIn wsX6_findFaces wsX6_sort := goodIn_r _ [9, 3, 10, 4, 11, 29, 30, 31, 32, 33, 34, 35, 36, 37, 38, 39, 40, 41, 42, 43, 44, 45, 46, 47, 48, 49, 50, 51] (by decide +kernel) (by decide +kernel)
set_option maxRecDepth 20000 in
theorem gX6_findFaces_X6_sort : GoodIn wsX6_findFaces (wsV RX6 78 RX6 yX6_sort wsX6_sort) := goodIn_app (goodIn_of _ (by decide +kernel)) ggX6_findFaces_X6_sort
set_option maxRecDepth 20000 in
theorem ggX6_findFaces_X6_rowOf : GoodIn wsX6_findFaces wsX6_rowOf := goodIn_r _ [15, 4, 29, 30, 31, 32, 33, 34, 35, 36, 37, 38, 39, 40, 41, 42, 43, 44, 45, 46, 47, 48, 49, 50, 51] (by decide +kernel) (by decide +kernel)
set_option maxRecDepth 20000 in
theorem gX6_findFaces_X6_rowOf : GoodIn wsX6_findFaces (wsV RX6 93 RX6 yX6_rowOf wsX6_rowOf) := goodIn_app (goodIn_of _ (by decide +kernel)) ggX6_findFaces_X6_rowOf
set_option maxRecDepth 20000 in
theorem ggX6_findFaces_X6_turn : GoodIn wsX6_findFaces wsX6_turn := goodIn_r _ [19, 11, 20, 21, 22, 8, 23, 10, 24, 25, 26, 27, 28, 29, 30, 31, 32, 33, 34, 35, 36, 37, 38, 39, 40, 41, 42, 43, 44, 45, 46, 47, 48, 49, 50, 51] (by decide +kernel) (by decide +kernel)
set_option maxRecDepth 20000 in
theorem gX6_findFaces_X6_turn : GoodIn wsX6_findFaces (wsV RX6 96 RX6 yX6_turn wsX6_turn) := goodIn_app (goodIn_of _ (by decide +kernel)) ggX6_findFaces_X6_turn
theorem dX6_findFaces_0 : decode cX6_findFaces 0 = .ok (.aload_n 0, 1) := by decide +kernel
theorem dX6_findFaces_1 : decode cX6_findFaces 1 = .ok (.invokevirtual 78, 3) := by decide +kernel
theorem dX6_findFaces_4 : decode cX6_findFaces 4 = .ok (.iconst 0, 1) := by decide +kernel
theorem dX6_findFaces_5 : decode cX6_findFaces 5 = .ok (.istore_n 1, 1) := by decide +kernel
theorem dX6_findFaces_6 : decode cX6_findFaces 6 = .ok (.iload_n 1, 1) := by decide +kernel
theorem dX6_findFaces_7 : decode cX6_findFaces 7 = .ok (.bipush 80, 2) := by decide +kernel
theorem dX6_findFaces_9 : decode cX6_findFaces 9 = .ok (.if_icmp .ge 16, 3) := by decide +kernel
theorem dX6_findFaces_12 : decode cX6_findFaces 12 = .ok (.aload_n 0, 1) := by decide +kernel
theorem dX6_findFaces_13 : decode cX6_findFaces 13 = .ok (.getfield 51, 3) := by decide +kernel
theorem dX6_findFaces_16 : decode cX6_findFaces 16 = .ok (.iload_n 1, 1) := by decide +kernel
theorem dX6_findFaces_17 : decode cX6_findFaces 17 = .ok (.iconst (-1), 1) := by decide +kernel
theorem dX6_findFaces_18 : decode cX6_findFaces 18 = .ok (.iastore, 1) := by decide +kernel
theorem dX6_findFaces_19 : decode cX6_findFaces 19 = .ok (.iinc 1 1, 3) := by decide +kernel
theorem dX6_findFaces_22 : decode cX6_findFaces 22 = .ok (.goto (-16), 3) := by decide +kernel
theorem dX6_findFaces_25 : decode cX6_findFaces 25 = .ok (.aload_n 0, 1) := by decide +kernel
theorem dX6_findFaces_26 : decode cX6_findFaces 26 = .ok (.iconst 0, 1) := by decide +kernel
theorem dX6_findFaces_27 : decode cX6_findFaces 27 = .ok (.putfield 90, 3) := by decide +kernel
theorem dX6_findFaces_30 : decode cX6_findFaces 30 = .ok (.iconst 0, 1) := by decide +kernel
theorem dX6_findFaces_31 : decode cX6_findFaces 31 = .ok (.istore_n 1, 1) := by decide +kernel
theorem dX6_findFaces_32 : decode cX6_findFaces 32 = .ok (.iload_n 1, 1) := by decide +kernel
theorem dX6_findFaces_33 : decode cX6_findFaces 33 = .ok (.iconst 2, 1) := by decide +kernel
theorem dX6_findFaces_34 : decode cX6_findFaces 34 = .ok (.aload_n 0, 1) := by decide +kernel
theorem dX6_findFaces_35 : decode cX6_findFaces 35 = .ok (.getfield 72, 3) := by decide +kernel
theorem dX6_findFaces_38 : decode cX6_findFaces 38 = .ok (.imul, 1) := by decide +kernel
theorem dX6_findFaces_39 : decode cX6_findFaces 39 = .ok (.if_icmp .ge 113, 3) := by decide +kernel
theorem dX6_findFaces_42 : decode cX6_findFaces 42 = .ok (.iconst 2, 1) := by decide +kernel
theorem dX6_findFaces_43 : decode cX6_findFaces 43 = .ok (.aload_n 0, 1) := by decide +kernel
theorem dX6_findFaces_44 : decode cX6_findFaces 44 = .ok (.getfield 32, 3) := by decide +kernel
theorem dX6_findFaces_47 : decode cX6_findFaces 47 = .ok (.iload_n 1, 1) := by decide +kernel
theorem dX6_findFaces_48 : decode cX6_findFaces 48 = .ok (.iconst 2, 1) := by decide +kernel
theorem dX6_findFaces_49 : decode cX6_findFaces 49 = .ok (.idiv, 1) := by decide +kernel
theorem dX6_findFaces_50 : decode cX6_findFaces 50 = .ok (.iaload, 1) := by decide +kernel
theorem dX6_findFaces_51 : decode cX6_findFaces 51 = .ok (.imul, 1) := by decide +kernel
theorem dX6_findFaces_52 : decode cX6_findFaces 52 = .ok (.iload_n 1, 1) := by decide +kernel
theorem dX6_findFaces_53 : decode cX6_findFaces 53 = .ok (.iconst 2, 1) := by decide +kernel
theorem dX6_findFaces_54 : decode cX6_findFaces 54 = .ok (.irem, 1) := by decide +kernel
theorem dX6_findFaces_55 : decode cX6_findFaces 55 = .ok (.iadd, 1) := by decide +kernel
theorem dX6_findFaces_56 : decode cX6_findFaces 56 = .ok (.istore_n 2, 1) := by decide +kernel
theorem dX6_findFaces_57 : decode cX6_findFaces 57 = .ok (.aload_n 0, 1) := by decide +kernel
theorem dX6_findFaces_58 : decode cX6_findFaces 58 = .ok (.getfield 51, 3) := by decide +kernel
theorem dX6_findFaces_61 : decode cX6_findFaces 61 = .ok (.iload_n 1, 1) := by decide +kernel
theorem dX6_findFaces_62 : decode cX6_findFaces 62 = .ok (.iaload, 1) := by decide +kernel
theorem dX6_findFaces_63 : decode cX6_findFaces 63 = .ok (.ifCond .ge 7, 3) := by decide +kernel
theorem dX6_findFaces_66 : decode cX6_findFaces 66 = .ok (.iconst 1, 1) := by decide +kernel
theorem dX6_findFaces_67 : decode cX6_findFaces 67 = .ok (.goto 4, 3) := by decide +kernel
theorem dX6_findFaces_70 : decode cX6_findFaces 70 = .ok (.iconst 0, 1) := by decide +kernel
theorem dX6_findFaces_71 : decode cX6_findFaces 71 = .ok (.istore_n 3, 1) := by decide +kernel
theorem dX6_findFaces_72 : decode cX6_findFaces 72 = .ok (.iload_n 3, 1) := by decide +kernel
theorem dX6_findFaces_73 : decode cX6_findFaces 73 = .ok (.ifCond .eq 55, 3) := by decide +kernel
theorem dX6_findFaces_76 : decode cX6_findFaces 76 = .ok (.aload_n 0, 1) := by decide +kernel
theorem dX6_findFaces_77 : decode cX6_findFaces 77 = .ok (.getfield 51, 3) := by decide +kernel
theorem dX6_findFaces_80 : decode cX6_findFaces 80 = .ok (.iconst 2, 1) := by decide +kernel
theorem dX6_findFaces_81 : decode cX6_findFaces 81 = .ok (.aload_n 0, 1) := by decide +kernel
theorem dX6_findFaces_82 : decode cX6_findFaces 82 = .ok (.iload_n 2, 1) := by decide +kernel
theorem dX6_findFaces_83 : decode cX6_findFaces 83 = .ok (.iconst 2, 1) := by decide +kernel
theorem dX6_findFaces_84 : decode cX6_findFaces 84 = .ok (.idiv, 1) := by decide +kernel
theorem dX6_findFaces_85 : decode cX6_findFaces 85 = .ok (.invokevirtual 93, 3) := by decide +kernel
theorem dX6_findFaces_88 : decode cX6_findFaces 88 = .ok (.imul, 1) := by decide +kernel
theorem dX6_findFaces_89 : decode cX6_findFaces 89 = .ok (.iload_n 2, 1) := by decide +kernel
theorem dX6_findFaces_90 : decode cX6_findFaces 90 = .ok (.iconst 2, 1) := by decide +kernel
theorem dX6_findFaces_91 : decode cX6_findFaces 91 = .ok (.irem, 1) := by decide +kernel
theorem dX6_findFaces_92 : decode cX6_findFaces 92 = .ok (.iadd, 1) := by decide +kernel
theorem dX6_findFaces_93 : decode cX6_findFaces 93 = .ok (.iaload, 1) := by decide +kernel
theorem dX6_findFaces_94 : decode cX6_findFaces 94 = .ok (.ifCond .ge 34, 3) := by decide +kernel
theorem dX6_findFaces_97 : decode cX6_findFaces 97 = .ok (.aload_n 0, 1) := by decide +kernel
theorem dX6_findFaces_98 : decode cX6_findFaces 98 = .ok (.getfield 51, 3) := by decide +kernel
theorem dX6_findFaces_101 : decode cX6_findFaces 101 = .ok (.iconst 2, 1) := by decide +kernel
theorem dX6_findFaces_102 : decode cX6_findFaces 102 = .ok (.aload_n 0, 1) := by decide +kernel
theorem dX6_findFaces_103 : decode cX6_findFaces 103 = .ok (.iload_n 2, 1) := by decide +kernel
theorem dX6_findFaces_104 : decode cX6_findFaces 104 = .ok (.iconst 2, 1) := by decide +kernel
theorem dX6_findFaces_105 : decode cX6_findFaces 105 = .ok (.idiv, 1) := by decide +kernel
theorem dX6_findFaces_106 : decode cX6_findFaces 106 = .ok (.invokevirtual 93, 3) := by decide +kernel
theorem dX6_findFaces_109 : decode cX6_findFaces 109 = .ok (.imul, 1) := by decide +kernel
theorem dX6_findFaces_110 : decode cX6_findFaces 110 = .ok (.iload_n 2, 1) := by decide +kernel
theorem dX6_findFaces_111 : decode cX6_findFaces 111 = .ok (.iconst 2, 1) := by decide +kernel
theorem dX6_findFaces_112 : decode cX6_findFaces 112 = .ok (.irem, 1) := by decide +kernel
theorem dX6_findFaces_113 : decode cX6_findFaces 113 = .ok (.iadd, 1) := by decide +kernel
theorem dX6_findFaces_114 : decode cX6_findFaces 114 = .ok (.aload_n 0, 1) := by decide +kernel
theorem dX6_findFaces_115 : decode cX6_findFaces 115 = .ok (.getfield 90, 3) := by decide +kernel
theorem dX6_findFaces_118 : decode cX6_findFaces 118 = .ok (.iastore, 1) := by decide +kernel
theorem dX6_findFaces_119 : decode cX6_findFaces 119 = .ok (.aload_n 0, 1) := by decide +kernel
theorem dX6_findFaces_120 : decode cX6_findFaces 120 = .ok (.iload_n 2, 1) := by decide +kernel
theorem dX6_findFaces_121 : decode cX6_findFaces 121 = .ok (.invokevirtual 96, 3) := by decide +kernel
theorem dX6_findFaces_124 : decode cX6_findFaces 124 = .ok (.istore_n 2, 1) := by decide +kernel
theorem dX6_findFaces_125 : decode cX6_findFaces 125 = .ok (.goto (-53), 3) := by decide +kernel
theorem dX6_findFaces_128 : decode cX6_findFaces 128 = .ok (.aload_n 0, 1) := by decide +kernel
theorem dX6_findFaces_129 : decode cX6_findFaces 129 = .ok (.dup, 1) := by decide +kernel
theorem dX6_findFaces_130 : decode cX6_findFaces 130 = .ok (.getfield 90, 3) := by decide +kernel
theorem dX6_findFaces_133 : decode cX6_findFaces 133 = .ok (.iload_n 3, 1) := by decide +kernel
theorem dX6_findFaces_134 : decode cX6_findFaces 134 = .ok (.ifCond .eq 7, 3) := by decide +kernel
theorem dX6_findFaces_137 : decode cX6_findFaces 137 = .ok (.iconst 1, 1) := by decide +kernel
theorem dX6_findFaces_138 : decode cX6_findFaces 138 = .ok (.goto 4, 3) := by decide +kernel
theorem dX6_findFaces_141 : decode cX6_findFaces 141 = .ok (.iconst 0, 1) := by decide +kernel
theorem dX6_findFaces_142 : decode cX6_findFaces 142 = .ok (.iadd, 1) := by decide +kernel
theorem dX6_findFaces_143 : decode cX6_findFaces 143 = .ok (.putfield 90, 3) := by decide +kernel
theorem dX6_findFaces_146 : decode cX6_findFaces 146 = .ok (.iinc 1 1, 3) := by decide +kernel
theorem dX6_findFaces_149 : decode cX6_findFaces 149 = .ok (.goto (-117), 3) := by decide +kernel
theorem dX6_findFaces_152 : decode cX6_findFaces 152 = .ok (.return_, 1) := by decide +kernel
set_option maxRecDepth 20000 in
theorem ggX6_facesAt_X6_placeOf : GoodIn wsX6_facesAt wsX6_placeOf := goodIn_r _ [9, 10, 11, 12, 13, 14, 8, 15, 16, 17, 18, 19, 20, 21, 22, 23, 24, 25, 26, 27, 28, 29, 30, 31, 32, 33, 34, 35, 36, 37, 38, 39] (by decide +kernel) (by decide +kernel)
set_option maxRecDepth 20000 in
theorem gX6_facesAt_X6_placeOf : GoodIn wsX6_facesAt (wsV RX6 64 RX6 yX6_placeOf wsX6_placeOf) := goodIn_app (goodIn_of _ (by decide +kernel)) ggX6_facesAt_X6_placeOf
theorem dX6_facesAt_0 : decode cX6_facesAt 0 = .ok (.iconst 0, 1) := by decide +kernel
theorem dX6_facesAt_1 : decode cX6_facesAt 1 = .ok (.istore_n 2, 1) := by decide +kernel
theorem dX6_facesAt_2 : decode cX6_facesAt 2 = .ok (.iconst (-1), 1) := by decide +kernel
theorem dX6_facesAt_3 : decode cX6_facesAt 3 = .ok (.istore_n 3, 1) := by decide +kernel
theorem dX6_facesAt_4 : decode cX6_facesAt 4 = .ok (.iconst 0, 1) := by decide +kernel
theorem dX6_facesAt_5 : decode cX6_facesAt 5 = .ok (.istore 4, 2) := by decide +kernel
theorem dX6_facesAt_7 : decode cX6_facesAt 7 = .ok (.iload 4, 2) := by decide +kernel
theorem dX6_facesAt_9 : decode cX6_facesAt 9 = .ok (.iconst 2, 1) := by decide +kernel
theorem dX6_facesAt_10 : decode cX6_facesAt 10 = .ok (.aload_n 0, 1) := by decide +kernel
theorem dX6_facesAt_11 : decode cX6_facesAt 11 = .ok (.getfield 72, 3) := by decide +kernel
theorem dX6_facesAt_14 : decode cX6_facesAt 14 = .ok (.imul, 1) := by decide +kernel
theorem dX6_facesAt_15 : decode cX6_facesAt 15 = .ok (.if_icmp .ge 82, 3) := by decide +kernel
theorem dX6_facesAt_18 : decode cX6_facesAt 18 = .ok (.aload_n 0, 1) := by decide +kernel
theorem dX6_facesAt_19 : decode cX6_facesAt 19 = .ok (.getfield 51, 3) := by decide +kernel
theorem dX6_facesAt_22 : decode cX6_facesAt 22 = .ok (.iload 4, 2) := by decide +kernel
theorem dX6_facesAt_24 : decode cX6_facesAt 24 = .ok (.iaload, 1) := by decide +kernel
theorem dX6_facesAt_25 : decode cX6_facesAt 25 = .ok (.iload_n 3, 1) := by decide +kernel
theorem dX6_facesAt_26 : decode cX6_facesAt 26 = .ok (.if_icmp .le 7, 3) := by decide +kernel
theorem dX6_facesAt_29 : decode cX6_facesAt 29 = .ok (.iconst 1, 1) := by decide +kernel
theorem dX6_facesAt_30 : decode cX6_facesAt 30 = .ok (.goto 4, 3) := by decide +kernel
theorem dX6_facesAt_33 : decode cX6_facesAt 33 = .ok (.iconst 0, 1) := by decide +kernel
theorem dX6_facesAt_34 : decode cX6_facesAt 34 = .ok (.istore 5, 2) := by decide +kernel
theorem dX6_facesAt_36 : decode cX6_facesAt 36 = .ok (.iload_n 2, 1) := by decide +kernel
theorem dX6_facesAt_37 : decode cX6_facesAt 37 = .ok (.iload 5, 2) := by decide +kernel
theorem dX6_facesAt_39 : decode cX6_facesAt 39 = .ok (.ifCond .eq 32, 3) := by decide +kernel
theorem dX6_facesAt_42 : decode cX6_facesAt 42 = .ok (.aload_n 0, 1) := by decide +kernel
theorem dX6_facesAt_43 : decode cX6_facesAt 43 = .ok (.getfield 45, 3) := by decide +kernel
theorem dX6_facesAt_46 : decode cX6_facesAt 46 = .ok (.aload_n 0, 1) := by decide +kernel
theorem dX6_facesAt_47 : decode cX6_facesAt 47 = .ok (.aload_n 0, 1) := by decide +kernel
theorem dX6_facesAt_48 : decode cX6_facesAt 48 = .ok (.getfield 32, 3) := by decide +kernel
theorem dX6_facesAt_51 : decode cX6_facesAt 51 = .ok (.iload 4, 2) := by decide +kernel
theorem dX6_facesAt_53 : decode cX6_facesAt 53 = .ok (.iconst 2, 1) := by decide +kernel
theorem dX6_facesAt_54 : decode cX6_facesAt 54 = .ok (.idiv, 1) := by decide +kernel
theorem dX6_facesAt_55 : decode cX6_facesAt 55 = .ok (.iaload, 1) := by decide +kernel
theorem dX6_facesAt_56 : decode cX6_facesAt 56 = .ok (.iconst 1, 1) := by decide +kernel
theorem dX6_facesAt_57 : decode cX6_facesAt 57 = .ok (.invokevirtual 64, 3) := by decide +kernel
theorem dX6_facesAt_60 : decode cX6_facesAt 60 = .ok (.iconst 4, 1) := by decide +kernel
theorem dX6_facesAt_61 : decode cX6_facesAt 61 = .ok (.idiv, 1) := by decide +kernel
theorem dX6_facesAt_62 : decode cX6_facesAt 62 = .ok (.iaload, 1) := by decide +kernel
theorem dX6_facesAt_63 : decode cX6_facesAt 63 = .ok (.iload_n 1, 1) := by decide +kernel
theorem dX6_facesAt_64 : decode cX6_facesAt 64 = .ok (.if_icmp .ne 7, 3) := by decide +kernel
theorem dX6_facesAt_67 : decode cX6_facesAt 67 = .ok (.iconst 1, 1) := by decide +kernel
theorem dX6_facesAt_68 : decode cX6_facesAt 68 = .ok (.goto 4, 3) := by decide +kernel
theorem dX6_facesAt_71 : decode cX6_facesAt 71 = .ok (.iconst 0, 1) := by decide +kernel
theorem dX6_facesAt_72 : decode cX6_facesAt 72 = .ok (.iadd, 1) := by decide +kernel
theorem dX6_facesAt_73 : decode cX6_facesAt 73 = .ok (.istore_n 2, 1) := by decide +kernel
theorem dX6_facesAt_74 : decode cX6_facesAt 74 = .ok (.iload 5, 2) := by decide +kernel
theorem dX6_facesAt_76 : decode cX6_facesAt 76 = .ok (.ifCond .eq 13, 3) := by decide +kernel
theorem dX6_facesAt_79 : decode cX6_facesAt 79 = .ok (.aload_n 0, 1) := by decide +kernel
theorem dX6_facesAt_80 : decode cX6_facesAt 80 = .ok (.getfield 51, 3) := by decide +kernel
theorem dX6_facesAt_83 : decode cX6_facesAt 83 = .ok (.iload 4, 2) := by decide +kernel
theorem dX6_facesAt_85 : decode cX6_facesAt 85 = .ok (.iaload, 1) := by decide +kernel
theorem dX6_facesAt_86 : decode cX6_facesAt 86 = .ok (.goto 4, 3) := by decide +kernel
theorem dX6_facesAt_89 : decode cX6_facesAt 89 = .ok (.iload_n 3, 1) := by decide +kernel
theorem dX6_facesAt_90 : decode cX6_facesAt 90 = .ok (.istore_n 3, 1) := by decide +kernel
theorem dX6_facesAt_91 : decode cX6_facesAt 91 = .ok (.iinc 4 1, 3) := by decide +kernel
theorem dX6_facesAt_94 : decode cX6_facesAt 94 = .ok (.goto (-87), 3) := by decide +kernel
theorem dX6_facesAt_97 : decode cX6_facesAt 97 = .ok (.iload_n 2, 1) := by decide +kernel
theorem dX6_facesAt_98 : decode cX6_facesAt 98 = .ok (.ireturn, 1) := by decide +kernel
theorem dX6_crossing_0 : decode cX6_crossing 0 = .ok (.iload_n 2, 1) := by decide +kernel
theorem dX6_crossing_1 : decode cX6_crossing 1 = .ok (.ifCond .le 51, 3) := by decide +kernel
theorem dX6_crossing_4 : decode cX6_crossing 4 = .ok (.iload_n 3, 1) := by decide +kernel
theorem dX6_crossing_5 : decode cX6_crossing 5 = .ok (.ifCond .le 47, 3) := by decide +kernel
theorem dX6_crossing_8 : decode cX6_crossing 8 = .ok (.iload 4, 2) := by decide +kernel
theorem dX6_crossing_10 : decode cX6_crossing 10 = .ok (.ifCond .le 42, 3) := by decide +kernel
theorem dX6_crossing_13 : decode cX6_crossing 13 = .ok (.iload 5, 2) := by decide +kernel
theorem dX6_crossing_15 : decode cX6_crossing 15 = .ok (.ifCond .le 37, 3) := by decide +kernel
theorem dX6_crossing_18 : decode cX6_crossing 18 = .ok (.iload_n 2, 1) := by decide +kernel
theorem dX6_crossing_19 : decode cX6_crossing 19 = .ok (.sipush 10000, 3) := by decide +kernel
theorem dX6_crossing_22 : decode cX6_crossing 22 = .ok (.if_icmp .ge 30, 3) := by decide +kernel
theorem dX6_crossing_25 : decode cX6_crossing 25 = .ok (.iload_n 3, 1) := by decide +kernel
theorem dX6_crossing_26 : decode cX6_crossing 26 = .ok (.sipush 10000, 3) := by decide +kernel
theorem dX6_crossing_29 : decode cX6_crossing 29 = .ok (.if_icmp .ge 23, 3) := by decide +kernel
theorem dX6_crossing_32 : decode cX6_crossing 32 = .ok (.iload 4, 2) := by decide +kernel
theorem dX6_crossing_34 : decode cX6_crossing 34 = .ok (.sipush 10000, 3) := by decide +kernel
theorem dX6_crossing_37 : decode cX6_crossing 37 = .ok (.if_icmp .ge 15, 3) := by decide +kernel
theorem dX6_crossing_40 : decode cX6_crossing 40 = .ok (.iload 5, 2) := by decide +kernel
theorem dX6_crossing_42 : decode cX6_crossing 42 = .ok (.sipush 10000, 3) := by decide +kernel
theorem dX6_crossing_45 : decode cX6_crossing 45 = .ok (.if_icmp .ge 7, 3) := by decide +kernel
theorem dX6_crossing_48 : decode cX6_crossing 48 = .ok (.iconst 1, 1) := by decide +kernel
theorem dX6_crossing_49 : decode cX6_crossing 49 = .ok (.goto 4, 3) := by decide +kernel
theorem dX6_crossing_52 : decode cX6_crossing 52 = .ok (.iconst 0, 1) := by decide +kernel
theorem dX6_crossing_53 : decode cX6_crossing 53 = .ok (.istore 6, 2) := by decide +kernel
theorem dX6_crossing_55 : decode cX6_crossing 55 = .ok (.iload_n 1, 1) := by decide +kernel
theorem dX6_crossing_56 : decode cX6_crossing 56 = .ok (.iconst 1, 1) := by decide +kernel
theorem dX6_crossing_57 : decode cX6_crossing 57 = .ok (.if_icmp .eq 8, 3) := by decide +kernel
theorem dX6_crossing_60 : decode cX6_crossing 60 = .ok (.iload_n 1, 1) := by decide +kernel
theorem dX6_crossing_61 : decode cX6_crossing 61 = .ok (.iconst (-1), 1) := by decide +kernel
theorem dX6_crossing_62 : decode cX6_crossing 62 = .ok (.if_icmp .ne 17, 3) := by decide +kernel
theorem dX6_crossing_65 : decode cX6_crossing 65 = .ok (.iload 6, 2) := by decide +kernel
theorem dX6_crossing_67 : decode cX6_crossing 67 = .ok (.ifCond .eq 12, 3) := by decide +kernel
theorem dX6_crossing_70 : decode cX6_crossing 70 = .ok (.aload_n 0, 1) := by decide +kernel
theorem dX6_crossing_71 : decode cX6_crossing 71 = .ok (.getfield 99, 3) := by decide +kernel
theorem dX6_crossing_74 : decode cX6_crossing 74 = .ok (.bipush 20, 2) := by decide +kernel
end
section
theorem dX6_crossing_76 : decode cX6_crossing 76 = .ok (.if_icmp .ne 5, 3) := by decide +kernel
theorem dX6_crossing_79 : decode cX6_crossing 79 = .ok (.iconst (-1), 1) := by decide +kernel
theorem dX6_crossing_80 : decode cX6_crossing 80 = .ok (.ireturn, 1) := by decide +kernel
theorem dX6_crossing_81 : decode cX6_crossing 81 = .ok (.aload_n 0, 1) := by decide +kernel
theorem dX6_crossing_82 : decode cX6_crossing 82 = .ok (.getfield 13, 3) := by decide +kernel
theorem dX6_crossing_85 : decode cX6_crossing 85 = .ok (.aload_n 0, 1) := by decide +kernel
theorem dX6_crossing_86 : decode cX6_crossing 86 = .ok (.getfield 99, 3) := by decide +kernel
theorem dX6_crossing_89 : decode cX6_crossing 89 = .ok (.iload_n 1, 1) := by decide +kernel
theorem dX6_crossing_90 : decode cX6_crossing 90 = .ok (.iastore, 1) := by decide +kernel
theorem dX6_crossing_91 : decode cX6_crossing 91 = .ok (.aload_n 0, 1) := by decide +kernel
theorem dX6_crossing_92 : decode cX6_crossing 92 = .ok (.getfield 17, 3) := by decide +kernel
theorem dX6_crossing_95 : decode cX6_crossing 95 = .ok (.iconst 4, 1) := by decide +kernel
theorem dX6_crossing_96 : decode cX6_crossing 96 = .ok (.aload_n 0, 1) := by decide +kernel
theorem dX6_crossing_97 : decode cX6_crossing 97 = .ok (.getfield 99, 3) := by decide +kernel
theorem dX6_crossing_100 : decode cX6_crossing 100 = .ok (.imul, 1) := by decide +kernel
theorem dX6_crossing_101 : decode cX6_crossing 101 = .ok (.iload_n 2, 1) := by decide +kernel
theorem dX6_crossing_102 : decode cX6_crossing 102 = .ok (.iastore, 1) := by decide +kernel
theorem dX6_crossing_103 : decode cX6_crossing 103 = .ok (.aload_n 0, 1) := by decide +kernel
theorem dX6_crossing_104 : decode cX6_crossing 104 = .ok (.getfield 17, 3) := by decide +kernel
theorem dX6_crossing_107 : decode cX6_crossing 107 = .ok (.iconst 4, 1) := by decide +kernel
theorem dX6_crossing_108 : decode cX6_crossing 108 = .ok (.aload_n 0, 1) := by decide +kernel
theorem dX6_crossing_109 : decode cX6_crossing 109 = .ok (.getfield 99, 3) := by decide +kernel
theorem dX6_crossing_112 : decode cX6_crossing 112 = .ok (.imul, 1) := by decide +kernel
theorem dX6_crossing_113 : decode cX6_crossing 113 = .ok (.iconst 1, 1) := by decide +kernel
theorem dX6_crossing_114 : decode cX6_crossing 114 = .ok (.iadd, 1) := by decide +kernel
theorem dX6_crossing_115 : decode cX6_crossing 115 = .ok (.iload_n 3, 1) := by decide +kernel
theorem dX6_crossing_116 : decode cX6_crossing 116 = .ok (.iastore, 1) := by decide +kernel
theorem dX6_crossing_117 : decode cX6_crossing 117 = .ok (.aload_n 0, 1) := by decide +kernel
theorem dX6_crossing_118 : decode cX6_crossing 118 = .ok (.getfield 17, 3) := by decide +kernel
theorem dX6_crossing_121 : decode cX6_crossing 121 = .ok (.iconst 4, 1) := by decide +kernel
theorem dX6_crossing_122 : decode cX6_crossing 122 = .ok (.aload_n 0, 1) := by decide +kernel
theorem dX6_crossing_123 : decode cX6_crossing 123 = .ok (.getfield 99, 3) := by decide +kernel
theorem dX6_crossing_126 : decode cX6_crossing 126 = .ok (.imul, 1) := by decide +kernel
theorem dX6_crossing_127 : decode cX6_crossing 127 = .ok (.iconst 2, 1) := by decide +kernel
theorem dX6_crossing_128 : decode cX6_crossing 128 = .ok (.iadd, 1) := by decide +kernel
theorem dX6_crossing_129 : decode cX6_crossing 129 = .ok (.iload 4, 2) := by decide +kernel
theorem dX6_crossing_131 : decode cX6_crossing 131 = .ok (.iastore, 1) := by decide +kernel
theorem dX6_crossing_132 : decode cX6_crossing 132 = .ok (.aload_n 0, 1) := by decide +kernel
theorem dX6_crossing_133 : decode cX6_crossing 133 = .ok (.getfield 17, 3) := by decide +kernel
theorem dX6_crossing_136 : decode cX6_crossing 136 = .ok (.iconst 4, 1) := by decide +kernel
theorem dX6_crossing_137 : decode cX6_crossing 137 = .ok (.aload_n 0, 1) := by decide +kernel
theorem dX6_crossing_138 : decode cX6_crossing 138 = .ok (.getfield 99, 3) := by decide +kernel
theorem dX6_crossing_141 : decode cX6_crossing 141 = .ok (.imul, 1) := by decide +kernel
theorem dX6_crossing_142 : decode cX6_crossing 142 = .ok (.iconst 3, 1) := by decide +kernel
theorem dX6_crossing_143 : decode cX6_crossing 143 = .ok (.iadd, 1) := by decide +kernel
theorem dX6_crossing_144 : decode cX6_crossing 144 = .ok (.iload 5, 2) := by decide +kernel
theorem dX6_crossing_146 : decode cX6_crossing 146 = .ok (.iastore, 1) := by decide +kernel
theorem dX6_crossing_147 : decode cX6_crossing 147 = .ok (.aload_n 0, 1) := by decide +kernel
theorem dX6_crossing_148 : decode cX6_crossing 148 = .ok (.dup, 1) := by decide +kernel
theorem dX6_crossing_149 : decode cX6_crossing 149 = .ok (.getfield 99, 3) := by decide +kernel
theorem dX6_crossing_152 : decode cX6_crossing 152 = .ok (.iconst 1, 1) := by decide +kernel
theorem dX6_crossing_153 : decode cX6_crossing 153 = .ok (.iadd, 1) := by decide +kernel
theorem dX6_crossing_154 : decode cX6_crossing 154 = .ok (.putfield 99, 3) := by decide +kernel
theorem dX6_crossing_157 : decode cX6_crossing 157 = .ok (.aload_n 0, 1) := by decide +kernel
theorem dX6_crossing_158 : decode cX6_crossing 158 = .ok (.getfield 99, 3) := by decide +kernel
theorem dX6_crossing_161 : decode cX6_crossing 161 = .ok (.ireturn, 1) := by decide +kernel
theorem dX6_take_0 : decode cX6_take 0 = .ok (.aload_n 0, 1) := by decide +kernel
theorem dX6_take_1 : decode cX6_take 1 = .ok (.aload_n 0, 1) := by decide +kernel
theorem dX6_take_2 : decode cX6_take 2 = .ok (.getfield 57, 3) := by decide +kernel
theorem dX6_take_5 : decode cX6_take 5 = .ok (.putfield 102, 3) := by decide +kernel
theorem dX6_take_8 : decode cX6_take 8 = .ok (.aload_n 0, 1) := by decide +kernel
theorem dX6_take_9 : decode cX6_take 9 = .ok (.aload_n 0, 1) := by decide +kernel
theorem dX6_take_10 : decode cX6_take 10 = .ok (.getfield 105, 3) := by decide +kernel
theorem dX6_take_13 : decode cX6_take 13 = .ok (.putfield 108, 3) := by decide +kernel
theorem dX6_take_16 : decode cX6_take 16 = .ok (.iconst 0, 1) := by decide +kernel
theorem dX6_take_17 : decode cX6_take 17 = .ok (.istore_n 1, 1) := by decide +kernel
theorem dX6_take_18 : decode cX6_take 18 = .ok (.iload_n 1, 1) := by decide +kernel
theorem dX6_take_19 : decode cX6_take 19 = .ok (.bipush 20, 2) := by decide +kernel
theorem dX6_take_21 : decode cX6_take 21 = .ok (.if_icmp .ge 21, 3) := by decide +kernel
theorem dX6_take_24 : decode cX6_take 24 = .ok (.aload_n 0, 1) := by decide +kernel
theorem dX6_take_25 : decode cX6_take 25 = .ok (.getfield 26, 3) := by decide +kernel
theorem dX6_take_28 : decode cX6_take 28 = .ok (.iload_n 1, 1) := by decide +kernel
theorem dX6_take_29 : decode cX6_take 29 = .ok (.aload_n 0, 1) := by decide +kernel
theorem dX6_take_30 : decode cX6_take 30 = .ok (.getfield 20, 3) := by decide +kernel
theorem dX6_take_33 : decode cX6_take 33 = .ok (.iload_n 1, 1) := by decide +kernel
theorem dX6_take_34 : decode cX6_take 34 = .ok (.iaload, 1) := by decide +kernel
theorem dX6_take_35 : decode cX6_take 35 = .ok (.iastore, 1) := by decide +kernel
theorem dX6_take_36 : decode cX6_take 36 = .ok (.iinc 1 1, 3) := by decide +kernel
theorem dX6_take_39 : decode cX6_take 39 = .ok (.goto (-21), 3) := by decide +kernel
theorem dX6_take_42 : decode cX6_take 42 = .ok (.iconst 0, 1) := by decide +kernel
theorem dX6_take_43 : decode cX6_take 43 = .ok (.istore_n 1, 1) := by decide +kernel
theorem dX6_take_44 : decode cX6_take 44 = .ok (.iload_n 1, 1) := by decide +kernel
theorem dX6_take_45 : decode cX6_take 45 = .ok (.bipush 80, 2) := by decide +kernel
theorem dX6_take_47 : decode cX6_take 47 = .ok (.if_icmp .ge 21, 3) := by decide +kernel
theorem dX6_take_50 : decode cX6_take 50 = .ok (.aload_n 0, 1) := by decide +kernel
theorem dX6_take_51 : decode cX6_take 51 = .ok (.getfield 29, 3) := by decide +kernel
theorem dX6_take_54 : decode cX6_take 54 = .ok (.iload_n 1, 1) := by decide +kernel
theorem dX6_take_55 : decode cX6_take 55 = .ok (.aload_n 0, 1) := by decide +kernel
theorem dX6_take_56 : decode cX6_take 56 = .ok (.getfield 23, 3) := by decide +kernel
theorem dX6_take_59 : decode cX6_take 59 = .ok (.iload_n 1, 1) := by decide +kernel
theorem dX6_take_60 : decode cX6_take 60 = .ok (.iaload, 1) := by decide +kernel
theorem dX6_take_61 : decode cX6_take 61 = .ok (.iastore, 1) := by decide +kernel
theorem dX6_take_62 : decode cX6_take 62 = .ok (.iinc 1 1, 3) := by decide +kernel
theorem dX6_take_65 : decode cX6_take 65 = .ok (.goto (-21), 3) := by decide +kernel
theorem dX6_take_68 : decode cX6_take 68 = .ok (.aload_n 0, 1) := by decide +kernel
theorem dX6_take_69 : decode cX6_take 69 = .ok (.aload_n 0, 1) := by decide +kernel
theorem dX6_take_70 : decode cX6_take 70 = .ok (.getfield 99, 3) := by decide +kernel
theorem dX6_take_73 : decode cX6_take 73 = .ok (.putfield 57, 3) := by decide +kernel
theorem dX6_take_76 : decode cX6_take 76 = .ok (.iconst 0, 1) := by decide +kernel
theorem dX6_take_77 : decode cX6_take 77 = .ok (.istore_n 1, 1) := by decide +kernel
theorem dX6_take_78 : decode cX6_take 78 = .ok (.iload_n 1, 1) := by decide +kernel
theorem dX6_take_79 : decode cX6_take 79 = .ok (.aload_n 0, 1) := by decide +kernel
theorem dX6_take_80 : decode cX6_take 80 = .ok (.getfield 57, 3) := by decide +kernel
theorem dX6_take_83 : decode cX6_take 83 = .ok (.if_icmp .ge 21, 3) := by decide +kernel
theorem dX6_take_86 : decode cX6_take 86 = .ok (.aload_n 0, 1) := by decide +kernel
theorem dX6_take_87 : decode cX6_take 87 = .ok (.getfield 20, 3) := by decide +kernel
theorem dX6_take_90 : decode cX6_take 90 = .ok (.iload_n 1, 1) := by decide +kernel
theorem dX6_take_91 : decode cX6_take 91 = .ok (.aload_n 0, 1) := by decide +kernel
theorem dX6_take_92 : decode cX6_take 92 = .ok (.getfield 13, 3) := by decide +kernel
theorem dX6_take_95 : decode cX6_take 95 = .ok (.iload_n 1, 1) := by decide +kernel
theorem dX6_take_96 : decode cX6_take 96 = .ok (.iaload, 1) := by decide +kernel
theorem dX6_take_97 : decode cX6_take 97 = .ok (.iastore, 1) := by decide +kernel
theorem dX6_take_98 : decode cX6_take 98 = .ok (.iinc 1 1, 3) := by decide +kernel
theorem dX6_take_101 : decode cX6_take 101 = .ok (.goto (-23), 3) := by decide +kernel
theorem dX6_take_104 : decode cX6_take 104 = .ok (.iconst 0, 1) := by decide +kernel
theorem dX6_take_105 : decode cX6_take 105 = .ok (.istore_n 1, 1) := by decide +kernel
theorem dX6_take_106 : decode cX6_take 106 = .ok (.iload_n 1, 1) := by decide +kernel
theorem dX6_take_107 : decode cX6_take 107 = .ok (.iconst 4, 1) := by decide +kernel
theorem dX6_take_108 : decode cX6_take 108 = .ok (.aload_n 0, 1) := by decide +kernel
theorem dX6_take_109 : decode cX6_take 109 = .ok (.getfield 57, 3) := by decide +kernel
theorem dX6_take_112 : decode cX6_take 112 = .ok (.imul, 1) := by decide +kernel
theorem dX6_take_113 : decode cX6_take 113 = .ok (.if_icmp .ge 21, 3) := by decide +kernel
theorem dX6_take_116 : decode cX6_take 116 = .ok (.aload_n 0, 1) := by decide +kernel
theorem dX6_take_117 : decode cX6_take 117 = .ok (.getfield 23, 3) := by decide +kernel
theorem dX6_take_120 : decode cX6_take 120 = .ok (.iload_n 1, 1) := by decide +kernel
theorem dX6_take_121 : decode cX6_take 121 = .ok (.aload_n 0, 1) := by decide +kernel
theorem dX6_take_122 : decode cX6_take 122 = .ok (.getfield 17, 3) := by decide +kernel
theorem dX6_take_125 : decode cX6_take 125 = .ok (.iload_n 1, 1) := by decide +kernel
theorem dX6_take_126 : decode cX6_take 126 = .ok (.iaload, 1) := by decide +kernel
theorem dX6_take_127 : decode cX6_take 127 = .ok (.iastore, 1) := by decide +kernel
theorem dX6_take_128 : decode cX6_take 128 = .ok (.iinc 1 1, 3) := by decide +kernel
theorem dX6_take_131 : decode cX6_take 131 = .ok (.goto (-25), 3) := by decide +kernel
theorem dX6_take_134 : decode cX6_take 134 = .ok (.aload_n 0, 1) := by decide +kernel
theorem dX6_take_135 : decode cX6_take 135 = .ok (.iconst 0, 1) := by decide +kernel
theorem dX6_take_136 : decode cX6_take 136 = .ok (.putfield 99, 3) := by decide +kernel
theorem dX6_take_139 : decode cX6_take 139 = .ok (.return_, 1) := by decide +kernel
theorem dX6_back_0 : decode cX6_back 0 = .ok (.aload_n 0, 1) := by decide +kernel
theorem dX6_back_1 : decode cX6_back 1 = .ok (.aload_n 0, 1) := by decide +kernel
theorem dX6_back_2 : decode cX6_back 2 = .ok (.getfield 102, 3) := by decide +kernel
theorem dX6_back_5 : decode cX6_back 5 = .ok (.putfield 57, 3) := by decide +kernel
theorem dX6_back_8 : decode cX6_back 8 = .ok (.aload_n 0, 1) := by decide +kernel
theorem dX6_back_9 : decode cX6_back 9 = .ok (.aload_n 0, 1) := by decide +kernel
theorem dX6_back_10 : decode cX6_back 10 = .ok (.getfield 108, 3) := by decide +kernel
theorem dX6_back_13 : decode cX6_back 13 = .ok (.putfield 105, 3) := by decide +kernel
theorem dX6_back_16 : decode cX6_back 16 = .ok (.iconst 0, 1) := by decide +kernel
theorem dX6_back_17 : decode cX6_back 17 = .ok (.istore_n 1, 1) := by decide +kernel
theorem dX6_back_18 : decode cX6_back 18 = .ok (.iload_n 1, 1) := by decide +kernel
theorem dX6_back_19 : decode cX6_back 19 = .ok (.bipush 20, 2) := by decide +kernel
theorem dX6_back_21 : decode cX6_back 21 = .ok (.if_icmp .ge 21, 3) := by decide +kernel
theorem dX6_back_24 : decode cX6_back 24 = .ok (.aload_n 0, 1) := by decide +kernel
theorem dX6_back_25 : decode cX6_back 25 = .ok (.getfield 20, 3) := by decide +kernel
theorem dX6_back_28 : decode cX6_back 28 = .ok (.iload_n 1, 1) := by decide +kernel
theorem dX6_back_29 : decode cX6_back 29 = .ok (.aload_n 0, 1) := by decide +kernel
theorem dX6_back_30 : decode cX6_back 30 = .ok (.getfield 26, 3) := by decide +kernel
theorem dX6_back_33 : decode cX6_back 33 = .ok (.iload_n 1, 1) := by decide +kernel
theorem dX6_back_34 : decode cX6_back 34 = .ok (.iaload, 1) := by decide +kernel
theorem dX6_back_35 : decode cX6_back 35 = .ok (.iastore, 1) := by decide +kernel
theorem dX6_back_36 : decode cX6_back 36 = .ok (.iinc 1 1, 3) := by decide +kernel
theorem dX6_back_39 : decode cX6_back 39 = .ok (.goto (-21), 3) := by decide +kernel
theorem dX6_back_42 : decode cX6_back 42 = .ok (.iconst 0, 1) := by decide +kernel
theorem dX6_back_43 : decode cX6_back 43 = .ok (.istore_n 1, 1) := by decide +kernel
theorem dX6_back_44 : decode cX6_back 44 = .ok (.iload_n 1, 1) := by decide +kernel
theorem dX6_back_45 : decode cX6_back 45 = .ok (.bipush 80, 2) := by decide +kernel
theorem dX6_back_47 : decode cX6_back 47 = .ok (.if_icmp .ge 21, 3) := by decide +kernel
theorem dX6_back_50 : decode cX6_back 50 = .ok (.aload_n 0, 1) := by decide +kernel
theorem dX6_back_51 : decode cX6_back 51 = .ok (.getfield 23, 3) := by decide +kernel
theorem dX6_back_54 : decode cX6_back 54 = .ok (.iload_n 1, 1) := by decide +kernel
theorem dX6_back_55 : decode cX6_back 55 = .ok (.aload_n 0, 1) := by decide +kernel
theorem dX6_back_56 : decode cX6_back 56 = .ok (.getfield 29, 3) := by decide +kernel
theorem dX6_back_59 : decode cX6_back 59 = .ok (.iload_n 1, 1) := by decide +kernel
theorem dX6_back_60 : decode cX6_back 60 = .ok (.iaload, 1) := by decide +kernel
theorem dX6_back_61 : decode cX6_back 61 = .ok (.iastore, 1) := by decide +kernel
theorem dX6_back_62 : decode cX6_back 62 = .ok (.iinc 1 1, 3) := by decide +kernel
theorem dX6_back_65 : decode cX6_back 65 = .ok (.goto (-21), 3) := by decide +kernel
theorem dX6_back_68 : decode cX6_back 68 = .ok (.return_, 1) := by decide +kernel
set_option maxRecDepth 20000 in
theorem ggX6_badLabel_X6_sort : GoodIn wsX6_badLabel wsX6_sort := goodIn_r _ [9, 1, 2, 4, 3, 19, 20, 21, 22, 23, 24, 25, 26, 27, 28, 29, 30, 31, 32, 33, 34, 35, 36, 37, 38, 39, 40, 41] (by decide +kernel) (by decide +kernel)
set_option maxRecDepth 20000 in
theorem gX6_badLabel_X6_sort : GoodIn wsX6_badLabel (wsV RX6 78 RX6 yX6_sort wsX6_sort) := goodIn_app (goodIn_of _ (by decide +kernel)) ggX6_badLabel_X6_sort
set_option maxRecDepth 20000 in
theorem ggX6_badLabel_X6_placeOf : GoodIn wsX6_badLabel wsX6_placeOf := goodIn_r _ [13, 2, 3, 14, 15, 16, 8, 17, 18, 19, 20, 21, 22, 23, 24, 25, 26, 27, 28, 29, 30, 31, 32, 33, 34, 35, 36, 37, 38, 39, 40, 41] (by decide +kernel) (by decide +kernel)
set_option maxRecDepth 20000 in
theorem gX6_badLabel_X6_placeOf : GoodIn wsX6_badLabel (wsV RX6 64 RX6 yX6_placeOf wsX6_placeOf) := goodIn_app (goodIn_of _ (by decide +kernel)) ggX6_badLabel_X6_placeOf
theorem dX6_badLabel_0 : decode cX6_badLabel 0 = .ok (.aload_n 0, 1) := by decide +kernel
theorem dX6_badLabel_1 : decode cX6_badLabel 1 = .ok (.invokevirtual 78, 3) := by decide +kernel
theorem dX6_badLabel_4 : decode cX6_badLabel 4 = .ok (.iconst 0, 1) := by decide +kernel
theorem dX6_badLabel_5 : decode cX6_badLabel 5 = .ok (.istore_n 2, 1) := by decide +kernel
theorem dX6_badLabel_6 : decode cX6_badLabel 6 = .ok (.iload_n 2, 1) := by decide +kernel
theorem dX6_badLabel_7 : decode cX6_badLabel 7 = .ok (.aload_n 0, 1) := by decide +kernel
theorem dX6_badLabel_8 : decode cX6_badLabel 8 = .ok (.getfield 72, 3) := by decide +kernel
theorem dX6_badLabel_11 : decode cX6_badLabel 11 = .ok (.if_icmp .ge 119, 3) := by decide +kernel
theorem dX6_badLabel_14 : decode cX6_badLabel 14 = .ok (.iconst 0, 1) := by decide +kernel
theorem dX6_badLabel_15 : decode cX6_badLabel 15 = .ok (.istore_n 3, 1) := by decide +kernel
theorem dX6_badLabel_16 : decode cX6_badLabel 16 = .ok (.iconst 0, 1) := by decide +kernel
theorem dX6_badLabel_17 : decode cX6_badLabel 17 = .ok (.istore 4, 2) := by decide +kernel
theorem dX6_badLabel_19 : decode cX6_badLabel 19 = .ok (.iload 4, 2) := by decide +kernel
theorem dX6_badLabel_21 : decode cX6_badLabel 21 = .ok (.iconst 4, 1) := by decide +kernel
theorem dX6_badLabel_22 : decode cX6_badLabel 22 = .ok (.aload_n 0, 1) := by decide +kernel
theorem dX6_badLabel_23 : decode cX6_badLabel 23 = .ok (.getfield 57, 3) := by decide +kernel
theorem dX6_badLabel_26 : decode cX6_badLabel 26 = .ok (.imul, 1) := by decide +kernel
theorem dX6_badLabel_27 : decode cX6_badLabel 27 = .ok (.if_icmp .ge 33, 3) := by decide +kernel
theorem dX6_badLabel_30 : decode cX6_badLabel 30 = .ok (.iload_n 3, 1) := by decide +kernel
theorem dX6_badLabel_31 : decode cX6_badLabel 31 = .ok (.aload_n 0, 1) := by decide +kernel
theorem dX6_badLabel_32 : decode cX6_badLabel 32 = .ok (.getfield 23, 3) := by decide +kernel
theorem dX6_badLabel_35 : decode cX6_badLabel 35 = .ok (.iload 4, 2) := by decide +kernel
theorem dX6_badLabel_37 : decode cX6_badLabel 37 = .ok (.iaload, 1) := by decide +kernel
theorem dX6_badLabel_38 : decode cX6_badLabel 38 = .ok (.aload_n 0, 1) := by decide +kernel
theorem dX6_badLabel_39 : decode cX6_badLabel 39 = .ok (.getfield 32, 3) := by decide +kernel
theorem dX6_badLabel_42 : decode cX6_badLabel 42 = .ok (.iload_n 2, 1) := by decide +kernel
theorem dX6_badLabel_43 : decode cX6_badLabel 43 = .ok (.iaload, 1) := by decide +kernel
theorem dX6_badLabel_44 : decode cX6_badLabel 44 = .ok (.if_icmp .ne 7, 3) := by decide +kernel
theorem dX6_badLabel_47 : decode cX6_badLabel 47 = .ok (.iconst 1, 1) := by decide +kernel
theorem dX6_badLabel_48 : decode cX6_badLabel 48 = .ok (.goto 4, 3) := by decide +kernel
theorem dX6_badLabel_51 : decode cX6_badLabel 51 = .ok (.iconst 0, 1) := by decide +kernel
theorem dX6_badLabel_52 : decode cX6_badLabel 52 = .ok (.iadd, 1) := by decide +kernel
theorem dX6_badLabel_53 : decode cX6_badLabel 53 = .ok (.istore_n 3, 1) := by decide +kernel
theorem dX6_badLabel_54 : decode cX6_badLabel 54 = .ok (.iinc 4 1, 3) := by decide +kernel
theorem dX6_badLabel_57 : decode cX6_badLabel 57 = .ok (.goto (-38), 3) := by decide +kernel
theorem dX6_badLabel_60 : decode cX6_badLabel 60 = .ok (.iload_n 1, 1) := by decide +kernel
theorem dX6_badLabel_61 : decode cX6_badLabel 61 = .ok (.ifCond .eq 39, 3) := by decide +kernel
theorem dX6_badLabel_64 : decode cX6_badLabel 64 = .ok (.aload_n 0, 1) := by decide +kernel
theorem dX6_badLabel_65 : decode cX6_badLabel 65 = .ok (.aload_n 0, 1) := by decide +kernel
theorem dX6_badLabel_66 : decode cX6_badLabel 66 = .ok (.getfield 32, 3) := by decide +kernel
theorem dX6_badLabel_69 : decode cX6_badLabel 69 = .ok (.iload_n 2, 1) := by decide +kernel
theorem dX6_badLabel_70 : decode cX6_badLabel 70 = .ok (.iaload, 1) := by decide +kernel
theorem dX6_badLabel_71 : decode cX6_badLabel 71 = .ok (.iconst 1, 1) := by decide +kernel
theorem dX6_badLabel_72 : decode cX6_badLabel 72 = .ok (.invokevirtual 64, 3) := by decide +kernel
theorem dX6_badLabel_75 : decode cX6_badLabel 75 = .ok (.ifCond .lt 21, 3) := by decide +kernel
theorem dX6_badLabel_78 : decode cX6_badLabel 78 = .ok (.aload_n 0, 1) := by decide +kernel
theorem dX6_badLabel_79 : decode cX6_badLabel 79 = .ok (.aload_n 0, 1) := by decide +kernel
theorem dX6_badLabel_80 : decode cX6_badLabel 80 = .ok (.getfield 32, 3) := by decide +kernel
theorem dX6_badLabel_83 : decode cX6_badLabel 83 = .ok (.iload_n 2, 1) := by decide +kernel
theorem dX6_badLabel_84 : decode cX6_badLabel 84 = .ok (.iaload, 1) := by decide +kernel
theorem dX6_badLabel_85 : decode cX6_badLabel 85 = .ok (.iconst 0, 1) := by decide +kernel
theorem dX6_badLabel_86 : decode cX6_badLabel 86 = .ok (.invokevirtual 64, 3) := by decide +kernel
theorem dX6_badLabel_89 : decode cX6_badLabel 89 = .ok (.ifCond .lt 7, 3) := by decide +kernel
theorem dX6_badLabel_92 : decode cX6_badLabel 92 = .ok (.iconst 1, 1) := by decide +kernel
theorem dX6_badLabel_93 : decode cX6_badLabel 93 = .ok (.goto 17, 3) := by decide +kernel
theorem dX6_badLabel_96 : decode cX6_badLabel 96 = .ok (.iconst 0, 1) := by decide +kernel
theorem dX6_badLabel_97 : decode cX6_badLabel 97 = .ok (.goto 13, 3) := by decide +kernel
theorem dX6_badLabel_100 : decode cX6_badLabel 100 = .ok (.iload_n 3, 1) := by decide +kernel
theorem dX6_badLabel_101 : decode cX6_badLabel 101 = .ok (.iconst 2, 1) := by decide +kernel
theorem dX6_badLabel_102 : decode cX6_badLabel 102 = .ok (.if_icmp .ne 7, 3) := by decide +kernel
theorem dX6_badLabel_105 : decode cX6_badLabel 105 = .ok (.iconst 1, 1) := by decide +kernel
theorem dX6_badLabel_106 : decode cX6_badLabel 106 = .ok (.goto 4, 3) := by decide +kernel
theorem dX6_badLabel_109 : decode cX6_badLabel 109 = .ok (.iconst 0, 1) := by decide +kernel
theorem dX6_badLabel_110 : decode cX6_badLabel 110 = .ok (.istore 4, 2) := by decide +kernel
theorem dX6_badLabel_112 : decode cX6_badLabel 112 = .ok (.iload 4, 2) := by decide +kernel
theorem dX6_badLabel_114 : decode cX6_badLabel 114 = .ok (.ifCond .ne 10, 3) := by decide +kernel
theorem dX6_badLabel_117 : decode cX6_badLabel 117 = .ok (.aload_n 0, 1) := by decide +kernel
theorem dX6_badLabel_118 : decode cX6_badLabel 118 = .ok (.getfield 32, 3) := by decide +kernel
theorem dX6_badLabel_121 : decode cX6_badLabel 121 = .ok (.iload_n 2, 1) := by decide +kernel
theorem dX6_badLabel_122 : decode cX6_badLabel 122 = .ok (.iaload, 1) := by decide +kernel
theorem dX6_badLabel_123 : decode cX6_badLabel 123 = .ok (.ireturn, 1) := by decide +kernel
theorem dX6_badLabel_124 : decode cX6_badLabel 124 = .ok (.iinc 2 1, 3) := by decide +kernel
theorem dX6_badLabel_127 : decode cX6_badLabel 127 = .ok (.goto (-121), 3) := by decide +kernel
theorem dX6_badLabel_130 : decode cX6_badLabel 130 = .ok (.iconst (-1), 1) := by decide +kernel
theorem dX6_badLabel_131 : decode cX6_badLabel 131 = .ok (.ireturn, 1) := by decide +kernel
set_option maxRecDepth 20000 in
theorem ggX6_badPiece_X6_hang : GoodIn wsX6_badPiece wsX6_hang := goodIn_r _ [7, 1, 2, 8, 42, 43, 44, 45, 46, 47, 48, 49, 50, 51, 52, 53, 54, 55, 56, 57, 58, 59, 60, 61, 62, 63, 64] (by decide +kernel) (by decide +kernel)
set_option maxRecDepth 20000 in
theorem gX6_badPiece_X6_hang : GoodIn wsX6_badPiece (wsV RX6 87 RX6 yX6_hang wsX6_hang) := goodIn_app (goodIn_of _ (by decide +kernel)) ggX6_badPiece_X6_hang
set_option maxRecDepth 20000 in
theorem ggX6_badPiece_X6_findFaces : GoodIn wsX6_badPiece wsX6_findFaces := goodIn_r _ [12, 13, 14, 15, 16, 17, 18, 19, 6, 20, 1, 8, 21, 22, 23, 24, 25, 26, 27, 28, 29, 30, 31, 32, 33, 34, 35, 36, 37, 42, 43, 44, 45, 46, 47, 48, 49, 50, 51, 52, 53, 54, 55, 56, 57, 58, 59, 60, 61, 62, 63, 64] (by decide +kernel) (by decide +kernel)
set_option maxRecDepth 20000 in
theorem gX6_badPiece_X6_findFaces : GoodIn wsX6_badPiece (wsV RX6 111 RX6 yX6_findFaces wsX6_findFaces) := goodIn_app (goodIn_of _ (by decide +kernel)) ggX6_badPiece_X6_findFaces
set_option maxRecDepth 20000 in
theorem ggX6_badPiece_X6_facesAt : GoodIn wsX6_badPiece wsX6_facesAt := goodIn_r _ [41, 15, 13, 2, 16, 29, 30, 31, 6, 32, 1, 8, 33, 34, 35, 36, 37, 42, 43, 44, 45, 46, 47, 48, 49, 50, 51, 52, 53, 54, 55, 56, 57, 58, 59, 60, 61, 62, 63, 64] (by decide +kernel) (by decide +kernel)
set_option maxRecDepth 20000 in
theorem gX6_badPiece_X6_facesAt : GoodIn wsX6_badPiece (wsV RX6 114 RX6 yX6_facesAt wsX6_facesAt) := goodIn_app (goodIn_of _ (by decide +kernel)) ggX6_badPiece_X6_facesAt
theorem dX6_badPiece_0 : decode cX6_badPiece 0 = .ok (.aload_n 0, 1) := by decide +kernel
theorem dX6_badPiece_1 : decode cX6_badPiece 1 = .ok (.invokevirtual 87, 3) := by decide +kernel
theorem dX6_badPiece_4 : decode cX6_badPiece 4 = .ok (.aload_n 0, 1) := by decide +kernel
theorem dX6_badPiece_5 : decode cX6_badPiece 5 = .ok (.invokevirtual 111, 3) := by decide +kernel
theorem dX6_badPiece_8 : decode cX6_badPiece 8 = .ok (.iconst (-1), 1) := by decide +kernel
theorem dX6_badPiece_9 : decode cX6_badPiece 9 = .ok (.istore_n 1, 1) := by decide +kernel
theorem dX6_badPiece_10 : decode cX6_badPiece 10 = .ok (.aload_n 0, 1) := by decide +kernel
theorem dX6_badPiece_11 : decode cX6_badPiece 11 = .ok (.getfield 57, 3) := by decide +kernel
theorem dX6_badPiece_14 : decode cX6_badPiece 14 = .ok (.iconst 1, 1) := by decide +kernel
theorem dX6_badPiece_15 : decode cX6_badPiece 15 = .ok (.isub, 1) := by decide +kernel
theorem dX6_badPiece_16 : decode cX6_badPiece 16 = .ok (.istore_n 2, 1) := by decide +kernel
theorem dX6_badPiece_17 : decode cX6_badPiece 17 = .ok (.iload_n 2, 1) := by decide +kernel
theorem dX6_badPiece_18 : decode cX6_badPiece 18 = .ok (.ifCond .lt 75, 3) := by decide +kernel
theorem dX6_badPiece_21 : decode cX6_badPiece 21 = .ok (.iconst 0, 1) := by decide +kernel
theorem dX6_badPiece_22 : decode cX6_badPiece 22 = .ok (.istore_n 3, 1) := by decide +kernel
theorem dX6_badPiece_23 : decode cX6_badPiece 23 = .ok (.iconst 0, 1) := by decide +kernel
theorem dX6_badPiece_24 : decode cX6_badPiece 24 = .ok (.istore 4, 2) := by decide +kernel
theorem dX6_badPiece_26 : decode cX6_badPiece 26 = .ok (.iload 4, 2) := by decide +kernel
theorem dX6_badPiece_28 : decode cX6_badPiece 28 = .ok (.aload_n 0, 1) := by decide +kernel
theorem dX6_badPiece_29 : decode cX6_badPiece 29 = .ok (.getfield 57, 3) := by decide +kernel
theorem dX6_badPiece_32 : decode cX6_badPiece 32 = .ok (.if_icmp .ge 28, 3) := by decide +kernel
theorem dX6_badPiece_35 : decode cX6_badPiece 35 = .ok (.iload_n 3, 1) := by decide +kernel
theorem dX6_badPiece_36 : decode cX6_badPiece 36 = .ok (.aload_n 0, 1) := by decide +kernel
theorem dX6_badPiece_37 : decode cX6_badPiece 37 = .ok (.getfield 45, 3) := by decide +kernel
theorem dX6_badPiece_40 : decode cX6_badPiece 40 = .ok (.iload 4, 2) := by decide +kernel
theorem dX6_badPiece_42 : decode cX6_badPiece 42 = .ok (.iaload, 1) := by decide +kernel
theorem dX6_badPiece_43 : decode cX6_badPiece 43 = .ok (.iload_n 2, 1) := by decide +kernel
theorem dX6_badPiece_44 : decode cX6_badPiece 44 = .ok (.if_icmp .ne 7, 3) := by decide +kernel
theorem dX6_badPiece_47 : decode cX6_badPiece 47 = .ok (.iconst 1, 1) := by decide +kernel
theorem dX6_badPiece_48 : decode cX6_badPiece 48 = .ok (.goto 4, 3) := by decide +kernel
theorem dX6_badPiece_51 : decode cX6_badPiece 51 = .ok (.iconst 0, 1) := by decide +kernel
theorem dX6_badPiece_52 : decode cX6_badPiece 52 = .ok (.iadd, 1) := by decide +kernel
theorem dX6_badPiece_53 : decode cX6_badPiece 53 = .ok (.istore_n 3, 1) := by decide +kernel
theorem dX6_badPiece_54 : decode cX6_badPiece 54 = .ok (.iinc 4 1, 3) := by decide +kernel
theorem dX6_badPiece_57 : decode cX6_badPiece 57 = .ok (.goto (-31), 3) := by decide +kernel
theorem dX6_badPiece_60 : decode cX6_badPiece 60 = .ok (.aload_n 0, 1) := by decide +kernel
theorem dX6_badPiece_61 : decode cX6_badPiece 61 = .ok (.getfield 45, 3) := by decide +kernel
theorem dX6_badPiece_64 : decode cX6_badPiece 64 = .ok (.iload_n 2, 1) := by decide +kernel
theorem dX6_badPiece_65 : decode cX6_badPiece 65 = .ok (.iaload, 1) := by decide +kernel
theorem dX6_badPiece_66 : decode cX6_badPiece 66 = .ok (.iload_n 2, 1) := by decide +kernel
theorem dX6_badPiece_67 : decode cX6_badPiece 67 = .ok (.if_icmp .ne 18, 3) := by decide +kernel
theorem dX6_badPiece_70 : decode cX6_badPiece 70 = .ok (.aload_n 0, 1) := by decide +kernel
theorem dX6_badPiece_71 : decode cX6_badPiece 71 = .ok (.iload_n 2, 1) := by decide +kernel
theorem dX6_badPiece_72 : decode cX6_badPiece 72 = .ok (.invokevirtual 114, 3) := by decide +kernel
theorem dX6_badPiece_75 : decode cX6_badPiece 75 = .ok (.iload_n 3, 1) := by decide +kernel
theorem dX6_badPiece_76 : decode cX6_badPiece 76 = .ok (.iconst 2, 1) := by decide +kernel
theorem dX6_badPiece_77 : decode cX6_badPiece 77 = .ok (.iadd, 1) := by decide +kernel
theorem dX6_badPiece_78 : decode cX6_badPiece 78 = .ok (.if_icmp .eq 7, 3) := by decide +kernel
theorem dX6_badPiece_81 : decode cX6_badPiece 81 = .ok (.iload_n 2, 1) := by decide +kernel
theorem dX6_badPiece_82 : decode cX6_badPiece 82 = .ok (.goto 4, 3) := by decide +kernel
theorem dX6_badPiece_85 : decode cX6_badPiece 85 = .ok (.iload_n 1, 1) := by decide +kernel
theorem dX6_badPiece_86 : decode cX6_badPiece 86 = .ok (.istore_n 1, 1) := by decide +kernel
theorem dX6_badPiece_87 : decode cX6_badPiece 87 = .ok (.iinc 2 (-1), 3) := by decide +kernel
theorem dX6_badPiece_90 : decode cX6_badPiece 90 = .ok (.goto (-73), 3) := by decide +kernel
theorem dX6_badPiece_93 : decode cX6_badPiece 93 = .ok (.iload_n 1, 1) := by decide +kernel
theorem dX6_badPiece_94 : decode cX6_badPiece 94 = .ok (.ireturn, 1) := by decide +kernel
set_option maxRecDepth 20000 in
theorem ggX6_fault_X6_badLabel : GoodIn wsX6_fault wsX6_badLabel := goodIn_r _ [6, 7, 8, 9, 10, 11, 12, 13, 5, 14, 15, 16, 17, 18, 19, 20, 21, 22, 23, 51, 52, 53, 54, 55, 56, 57, 58, 59, 60, 61, 62, 63, 64, 65, 66, 67, 68, 69, 70, 71, 72, 73] (by decide +kernel) (by decide +kernel)
set_option maxRecDepth 20000 in
theorem gX6_fault_X6_badLabel : GoodIn wsX6_fault (wsV RX6 117 RX6 yX6_badLabel wsX6_badLabel) := goodIn_app (goodIn_of _ (by decide +kernel)) ggX6_fault_X6_badLabel
set_option maxRecDepth 20000 in
theorem ggX6_fault_X6_badPiece : GoodIn wsX6_fault wsX6_badPiece := goodIn_r _ [27, 8, 28, 29, 30, 31, 5, 32, 9, 33, 34, 35, 36, 37, 38, 7, 10, 11, 12, 13, 14, 39, 40, 41, 42, 43, 44, 45, 46, 15, 16, 17, 18, 19, 20, 21, 22, 23, 47, 48, 49, 50, 51, 52, 53, 54, 55, 56, 57, 58, 59, 60, 61, 62, 63, 64, 65, 66, 67, 68, 69, 70, 71, 72, 73] (by decide +kernel) (by decide +kernel)
set_option maxRecDepth 20000 in
theorem gX6_fault_X6_badPiece : GoodIn wsX6_fault (wsV RX6 121 RX6 yX6_badPiece wsX6_badPiece) := goodIn_app (goodIn_of _ (by decide +kernel)) ggX6_fault_X6_badPiece
theorem dX6_fault_0 : decode cX6_fault 0 = .ok (.aload_n 0, 1) := by decide +kernel
theorem dX6_fault_1 : decode cX6_fault 1 = .ok (.aload_n 0, 1) := by decide +kernel
theorem dX6_fault_2 : decode cX6_fault 2 = .ok (.iconst 0, 1) := by decide +kernel
theorem dX6_fault_3 : decode cX6_fault 3 = .ok (.invokevirtual 117, 3) := by decide +kernel
theorem dX6_fault_6 : decode cX6_fault 6 = .ok (.putfield 7, 3) := by decide +kernel
theorem dX6_fault_9 : decode cX6_fault 9 = .ok (.aload_n 0, 1) := by decide +kernel
theorem dX6_fault_10 : decode cX6_fault 10 = .ok (.getfield 7, 3) := by decide +kernel
theorem dX6_fault_13 : decode cX6_fault 13 = .ok (.ifCond .lt 5, 3) := by decide +kernel
theorem dX6_fault_16 : decode cX6_fault 16 = .ok (.iconst 1, 1) := by decide +kernel
theorem dX6_fault_17 : decode cX6_fault 17 = .ok (.ireturn, 1) := by decide +kernel
theorem dX6_fault_18 : decode cX6_fault 18 = .ok (.aload_n 0, 1) := by decide +kernel
theorem dX6_fault_19 : decode cX6_fault 19 = .ok (.aload_n 0, 1) := by decide +kernel
theorem dX6_fault_20 : decode cX6_fault 20 = .ok (.iconst 1, 1) := by decide +kernel
theorem dX6_fault_21 : decode cX6_fault 21 = .ok (.invokevirtual 117, 3) := by decide +kernel
theorem dX6_fault_24 : decode cX6_fault 24 = .ok (.putfield 7, 3) := by decide +kernel
theorem dX6_fault_27 : decode cX6_fault 27 = .ok (.aload_n 0, 1) := by decide +kernel
theorem dX6_fault_28 : decode cX6_fault 28 = .ok (.getfield 7, 3) := by decide +kernel
theorem dX6_fault_31 : decode cX6_fault 31 = .ok (.ifCond .lt 5, 3) := by decide +kernel
theorem dX6_fault_34 : decode cX6_fault 34 = .ok (.iconst 2, 1) := by decide +kernel
theorem dX6_fault_35 : decode cX6_fault 35 = .ok (.ireturn, 1) := by decide +kernel
theorem dX6_fault_36 : decode cX6_fault 36 = .ok (.aload_n 0, 1) := by decide +kernel
theorem dX6_fault_37 : decode cX6_fault 37 = .ok (.aload_n 0, 1) := by decide +kernel
theorem dX6_fault_38 : decode cX6_fault 38 = .ok (.invokevirtual 121, 3) := by decide +kernel
theorem dX6_fault_41 : decode cX6_fault 41 = .ok (.putfield 7, 3) := by decide +kernel
theorem dX6_fault_44 : decode cX6_fault 44 = .ok (.aload_n 0, 1) := by decide +kernel
theorem dX6_fault_45 : decode cX6_fault 45 = .ok (.getfield 7, 3) := by decide +kernel
theorem dX6_fault_48 : decode cX6_fault 48 = .ok (.ifCond .lt 7, 3) := by decide +kernel
theorem dX6_fault_51 : decode cX6_fault 51 = .ok (.iconst 3, 1) := by decide +kernel
theorem dX6_fault_52 : decode cX6_fault 52 = .ok (.goto 4, 3) := by decide +kernel
theorem dX6_fault_55 : decode cX6_fault 55 = .ok (.iconst 0, 1) := by decide +kernel
theorem dX6_fault_56 : decode cX6_fault 56 = .ok (.ireturn, 1) := by decide +kernel
set_option maxRecDepth 20000 in
theorem ggX6_check_X6_take : GoodIn wsX6_check wsX6_take := goodIn_r _ [6, 7, 8, 1, 9, 10, 11, 12, 13, 14, 15, 16, 71, 72, 73, 74, 75, 76, 77, 78, 79, 80, 81, 82, 83, 84, 85, 86, 87, 88, 89, 90, 91, 92, 93] (by decide +kernel) (by decide +kernel)
set_option maxRecDepth 20000 in
theorem gX6_check_X6_take : GoodIn wsX6_check (wsV RX6 125 RX6 yX6_take wsX6_take) := goodIn_app (goodIn_of _ (by decide +kernel)) ggX6_check_X6_take
set_option maxRecDepth 20000 in
theorem ggX6_check_X6_fault : GoodIn wsX6_check wsX6_fault := goodIn_r _ [20, 21, 22, 23, 24, 5, 25, 26, 7, 13, 27, 28, 29, 30, 31, 32, 33, 34, 35, 36, 37, 38, 39, 11, 40, 41, 42, 43, 44, 45, 46, 47, 48, 49, 50, 51, 52, 53, 54, 55, 56, 57, 58, 59, 60, 61, 62, 63, 64, 65, 66, 71, 72, 73, 74, 75, 76, 77, 78, 79, 80, 81, 82, 83, 84, 85, 86, 87, 88, 89, 90, 91, 92, 93] (by decide +kernel) (by decide +kernel)
set_option maxRecDepth 20000 in
theorem gX6_check_X6_fault : GoodIn wsX6_check (wsV RX6 128 RX6 yX6_fault wsX6_fault) := goodIn_app (goodIn_of _ (by decide +kernel)) ggX6_check_X6_fault
set_option maxRecDepth 20000 in
theorem ggX6_check_X6_back : GoodIn wsX6_check wsX6_back := goodIn_r _ [70, 8, 7, 9, 1, 11, 10, 13, 12, 71, 72, 73, 74, 75, 76, 77, 78, 79, 80, 81, 82, 83, 84, 85, 86, 87, 88, 89, 90, 91, 92, 93] (by decide +kernel) (by decide +kernel)
set_option maxRecDepth 20000 in
theorem gX6_check_X6_back : GoodIn wsX6_check (wsV RX6 131 RX6 yX6_back wsX6_back) := goodIn_app (goodIn_of _ (by decide +kernel)) ggX6_check_X6_back
theorem dX6_check_0 : decode cX6_check 0 = .ok (.iload_n 1, 1) := by decide +kernel
theorem dX6_check_1 : decode cX6_check 1 = .ok (.ifCond .lt 9, 3) := by decide +kernel
theorem dX6_check_4 : decode cX6_check 4 = .ok (.iload_n 1, 1) := by decide +kernel
theorem dX6_check_5 : decode cX6_check 5 = .ok (.bipush 20, 2) := by decide +kernel
theorem dX6_check_7 : decode cX6_check 7 = .ok (.if_icmp .le 5, 3) := by decide +kernel
theorem dX6_check_10 : decode cX6_check 10 = .ok (.iconst (-1), 1) := by decide +kernel
theorem dX6_check_11 : decode cX6_check 11 = .ok (.ireturn, 1) := by decide +kernel
theorem dX6_check_12 : decode cX6_check 12 = .ok (.aload_n 0, 1) := by decide +kernel
theorem dX6_check_13 : decode cX6_check 13 = .ok (.invokevirtual 125, 3) := by decide +kernel
theorem dX6_check_16 : decode cX6_check 16 = .ok (.aload_n 0, 1) := by decide +kernel
theorem dX6_check_17 : decode cX6_check 17 = .ok (.iload_n 1, 1) := by decide +kernel
theorem dX6_check_18 : decode cX6_check 18 = .ok (.putfield 105, 3) := by decide +kernel
theorem dX6_check_21 : decode cX6_check 21 = .ok (.aload_n 0, 1) := by decide +kernel
theorem dX6_check_22 : decode cX6_check 22 = .ok (.invokevirtual 128, 3) := by decide +kernel
theorem dX6_check_25 : decode cX6_check 25 = .ok (.istore_n 2, 1) := by decide +kernel
theorem dX6_check_26 : decode cX6_check 26 = .ok (.iload_n 2, 1) := by decide +kernel
theorem dX6_check_27 : decode cX6_check 27 = .ok (.ifCond .le 7, 3) := by decide +kernel
theorem dX6_check_30 : decode cX6_check 30 = .ok (.aload_n 0, 1) := by decide +kernel
theorem dX6_check_31 : decode cX6_check 31 = .ok (.invokevirtual 131, 3) := by decide +kernel
theorem dX6_check_34 : decode cX6_check 34 = .ok (.iload_n 2, 1) := by decide +kernel
theorem dX6_check_35 : decode cX6_check 35 = .ok (.ireturn, 1) := by decide +kernel
theorem dX6_which_0 : decode cX6_which 0 = .ok (.aload_n 0, 1) := by decide +kernel
theorem dX6_which_1 : decode cX6_which 1 = .ok (.getfield 7, 3) := by decide +kernel
theorem dX6_which_4 : decode cX6_which 4 = .ok (.ireturn, 1) := by decide +kernel
theorem dX6_signs_0 : decode cX6_signs 0 = .ok (.iconst 0, 1) := by decide +kernel
theorem dX6_signs_1 : decode cX6_signs 1 = .ok (.istore_n 1, 1) := by decide +kernel
theorem dX6_signs_2 : decode cX6_signs 2 = .ok (.iconst 0, 1) := by decide +kernel
theorem dX6_signs_3 : decode cX6_signs 3 = .ok (.istore_n 2, 1) := by decide +kernel
theorem dX6_signs_4 : decode cX6_signs 4 = .ok (.iload_n 2, 1) := by decide +kernel
theorem dX6_signs_5 : decode cX6_signs 5 = .ok (.aload_n 0, 1) := by decide +kernel
theorem dX6_signs_6 : decode cX6_signs 6 = .ok (.getfield 57, 3) := by decide +kernel
theorem dX6_signs_9 : decode cX6_signs 9 = .ok (.if_icmp .ge 18, 3) := by decide +kernel
theorem dX6_signs_12 : decode cX6_signs 12 = .ok (.iload_n 1, 1) := by decide +kernel
theorem dX6_signs_13 : decode cX6_signs 13 = .ok (.aload_n 0, 1) := by decide +kernel
theorem dX6_signs_14 : decode cX6_signs 14 = .ok (.getfield 20, 3) := by decide +kernel
theorem dX6_signs_17 : decode cX6_signs 17 = .ok (.iload_n 2, 1) := by decide +kernel
theorem dX6_signs_18 : decode cX6_signs 18 = .ok (.iaload, 1) := by decide +kernel
theorem dX6_signs_19 : decode cX6_signs 19 = .ok (.iadd, 1) := by decide +kernel
theorem dX6_signs_20 : decode cX6_signs 20 = .ok (.istore_n 1, 1) := by decide +kernel
theorem dX6_signs_21 : decode cX6_signs 21 = .ok (.iinc 2 1, 3) := by decide +kernel
theorem dX6_signs_24 : decode cX6_signs 24 = .ok (.goto (-20), 3) := by decide +kernel
theorem dX6_signs_27 : decode cX6_signs 27 = .ok (.iload_n 1, 1) := by decide +kernel
theorem dX6_signs_28 : decode cX6_signs 28 = .ok (.ireturn, 1) := by decide +kernel
set_option maxRecDepth 20000 in
theorem ggX6_arcOf_X6_placeOf : GoodIn wsX6_arcOf wsX6_placeOf := goodIn_r _ [6, 7, 1, 8, 9, 10, 5, 11, 12, 23, 24, 25, 26, 27, 28, 29, 30, 31, 32, 33, 34, 35, 36, 37, 38, 39, 40, 41, 42, 43, 44, 45] (by decide +kernel) (by decide +kernel)
set_option maxRecDepth 20000 in
theorem gX6_arcOf_X6_placeOf : GoodIn wsX6_arcOf (wsV RX6 64 RX6 yX6_placeOf wsX6_placeOf) := goodIn_app (goodIn_of _ (by decide +kernel)) ggX6_arcOf_X6_placeOf
set_option maxRecDepth 20000 in
theorem ggX6_arcOf_X6_isUpper : GoodIn wsX6_arcOf wsX6_isUpper := goodIn_r _ [15] (by decide +kernel) (by decide +kernel)
set_option maxRecDepth 20000 in
theorem gX6_arcOf_X6_isUpper : GoodIn wsX6_arcOf (va_wsS RX6 134 yX6_isUpper wsX6_isUpper) := goodIn_app (goodIn_of _ (by decide +kernel)) ggX6_arcOf_X6_isUpper
set_option maxRecDepth 20000 in
theorem ggX6_arcOf_X6_across : GoodIn wsX6_arcOf wsX6_across := goodIn_r _ [18] (by decide +kernel) (by decide +kernel)
set_option maxRecDepth 20000 in
theorem gX6_arcOf_X6_across : GoodIn wsX6_arcOf (va_wsS RX6 68 yX6_across wsX6_across) := goodIn_app (goodIn_of _ (by decide +kernel)) ggX6_arcOf_X6_across
set_option maxRecDepth 20000 in
theorem ggX6_arcOf_X6_next : GoodIn wsX6_arcOf wsX6_next := goodIn_r _ [22, 1, 2, 3, 4, 5, 6, 7, 8, 9, 10, 11, 12, 16, 17, 18, 23, 24, 25, 26, 27, 28, 29, 30, 31, 32, 33, 34, 35, 36, 37, 38, 39, 40, 41, 42, 43, 44, 45] (by decide +kernel) (by decide +kernel)
set_option maxRecDepth 20000 in
theorem gX6_arcOf_X6_next : GoodIn wsX6_arcOf (wsV RX6 81 RX6 yX6_next wsX6_next) := goodIn_app (goodIn_of _ (by decide +kernel)) ggX6_arcOf_X6_next
theorem dX6_arcOf_0 : decode cX6_arcOf 0 = .ok (.iload_n 1, 1) := by decide +kernel
theorem dX6_arcOf_1 : decode cX6_arcOf 1 = .ok (.istore_n 2, 1) := by decide +kernel
theorem dX6_arcOf_2 : decode cX6_arcOf 2 = .ok (.aload_n 0, 1) := by decide +kernel
theorem dX6_arcOf_3 : decode cX6_arcOf 3 = .ok (.iload_n 2, 1) := by decide +kernel
theorem dX6_arcOf_4 : decode cX6_arcOf 4 = .ok (.iconst 1, 1) := by decide +kernel
theorem dX6_arcOf_5 : decode cX6_arcOf 5 = .ok (.invokevirtual 64, 3) := by decide +kernel
theorem dX6_arcOf_8 : decode cX6_arcOf 8 = .ok (.invokestatic 134, 3) := by decide +kernel
theorem dX6_arcOf_11 : decode cX6_arcOf 11 = .ok (.istore_n 3, 1) := by decide +kernel
theorem dX6_arcOf_12 : decode cX6_arcOf 12 = .ok (.iload_n 3, 1) := by decide +kernel
theorem dX6_arcOf_13 : decode cX6_arcOf 13 = .ok (.ifCond .eq 44, 3) := by decide +kernel
theorem dX6_arcOf_16 : decode cX6_arcOf 16 = .ok (.aload_n 0, 1) := by decide +kernel
theorem dX6_arcOf_17 : decode cX6_arcOf 17 = .ok (.getfield 23, 3) := by decide +kernel
theorem dX6_arcOf_20 : decode cX6_arcOf 20 = .ok (.aload_n 0, 1) := by decide +kernel
theorem dX6_arcOf_21 : decode cX6_arcOf 21 = .ok (.iload_n 2, 1) := by decide +kernel
theorem dX6_arcOf_22 : decode cX6_arcOf 22 = .ok (.iconst 1, 1) := by decide +kernel
theorem dX6_arcOf_23 : decode cX6_arcOf 23 = .ok (.invokevirtual 64, 3) := by decide +kernel
theorem dX6_arcOf_26 : decode cX6_arcOf 26 = .ok (.invokestatic 68, 3) := by decide +kernel
theorem dX6_arcOf_29 : decode cX6_arcOf 29 = .ok (.iaload, 1) := by decide +kernel
theorem dX6_arcOf_30 : decode cX6_arcOf 30 = .ok (.istore_n 2, 1) := by decide +kernel
theorem dX6_arcOf_31 : decode cX6_arcOf 31 = .ok (.iload_n 2, 1) := by decide +kernel
theorem dX6_arcOf_32 : decode cX6_arcOf 32 = .ok (.iload_n 1, 1) := by decide +kernel
theorem dX6_arcOf_33 : decode cX6_arcOf 33 = .ok (.if_icmp .eq 19, 3) := by decide +kernel
theorem dX6_arcOf_36 : decode cX6_arcOf 36 = .ok (.aload_n 0, 1) := by decide +kernel
theorem dX6_arcOf_37 : decode cX6_arcOf 37 = .ok (.iload_n 2, 1) := by decide +kernel
theorem dX6_arcOf_38 : decode cX6_arcOf 38 = .ok (.iconst 1, 1) := by decide +kernel
theorem dX6_arcOf_39 : decode cX6_arcOf 39 = .ok (.invokevirtual 64, 3) := by decide +kernel
theorem dX6_arcOf_42 : decode cX6_arcOf 42 = .ok (.invokestatic 134, 3) := by decide +kernel
theorem dX6_arcOf_45 : decode cX6_arcOf 45 = .ok (.ifCond .eq 7, 3) := by decide +kernel
theorem dX6_arcOf_48 : decode cX6_arcOf 48 = .ok (.iconst 1, 1) := by decide +kernel
theorem dX6_arcOf_49 : decode cX6_arcOf 49 = .ok (.goto 4, 3) := by decide +kernel
theorem dX6_arcOf_52 : decode cX6_arcOf 52 = .ok (.iconst 0, 1) := by decide +kernel
theorem dX6_arcOf_53 : decode cX6_arcOf 53 = .ok (.istore_n 3, 1) := by decide +kernel
theorem dX6_arcOf_54 : decode cX6_arcOf 54 = .ok (.goto (-42), 3) := by decide +kernel
theorem dX6_arcOf_57 : decode cX6_arcOf 57 = .ok (.iload_n 2, 1) := by decide +kernel
theorem dX6_arcOf_58 : decode cX6_arcOf 58 = .ok (.istore 4, 2) := by decide +kernel
theorem dX6_arcOf_60 : decode cX6_arcOf 60 = .ok (.iload_n 2, 1) := by decide +kernel
theorem dX6_arcOf_61 : decode cX6_arcOf 61 = .ok (.istore 5, 2) := by decide +kernel
theorem dX6_arcOf_63 : decode cX6_arcOf 63 = .ok (.aload_n 0, 1) := by decide +kernel
theorem dX6_arcOf_64 : decode cX6_arcOf 64 = .ok (.iload 5, 2) := by decide +kernel
theorem dX6_arcOf_66 : decode cX6_arcOf 66 = .ok (.iconst 0, 1) := by decide +kernel
theorem dX6_arcOf_67 : decode cX6_arcOf 67 = .ok (.invokevirtual 64, 3) := by decide +kernel
theorem dX6_arcOf_70 : decode cX6_arcOf 70 = .ok (.invokestatic 134, 3) := by decide +kernel
theorem dX6_arcOf_73 : decode cX6_arcOf 73 = .ok (.ifCond .eq 40, 3) := by decide +kernel
theorem dX6_arcOf_76 : decode cX6_arcOf 76 = .ok (.aload_n 0, 1) := by decide +kernel
theorem dX6_arcOf_77 : decode cX6_arcOf 77 = .ok (.iload 5, 2) := by decide +kernel
theorem dX6_arcOf_79 : decode cX6_arcOf 79 = .ok (.invokevirtual 81, 3) := by decide +kernel
theorem dX6_arcOf_82 : decode cX6_arcOf 82 = .ok (.iload_n 2, 1) := by decide +kernel
theorem dX6_arcOf_83 : decode cX6_arcOf 83 = .ok (.if_icmp .eq 30, 3) := by decide +kernel
theorem dX6_arcOf_86 : decode cX6_arcOf 86 = .ok (.aload_n 0, 1) := by decide +kernel
theorem dX6_arcOf_87 : decode cX6_arcOf 87 = .ok (.iload 5, 2) := by decide +kernel
theorem dX6_arcOf_89 : decode cX6_arcOf 89 = .ok (.invokevirtual 81, 3) := by decide +kernel
theorem dX6_arcOf_92 : decode cX6_arcOf 92 = .ok (.istore 5, 2) := by decide +kernel
theorem dX6_arcOf_94 : decode cX6_arcOf 94 = .ok (.iload 5, 2) := by decide +kernel
theorem dX6_arcOf_96 : decode cX6_arcOf 96 = .ok (.iload 4, 2) := by decide +kernel
theorem dX6_arcOf_98 : decode cX6_arcOf 98 = .ok (.if_icmp .ge 8, 3) := by decide +kernel
theorem dX6_arcOf_101 : decode cX6_arcOf 101 = .ok (.iload 5, 2) := by decide +kernel
theorem dX6_arcOf_103 : decode cX6_arcOf 103 = .ok (.goto 5, 3) := by decide +kernel
theorem dX6_arcOf_106 : decode cX6_arcOf 106 = .ok (.iload 4, 2) := by decide +kernel
theorem dX6_arcOf_108 : decode cX6_arcOf 108 = .ok (.istore 4, 2) := by decide +kernel
theorem dX6_arcOf_110 : decode cX6_arcOf 110 = .ok (.goto (-47), 3) := by decide +kernel
theorem dX6_arcOf_113 : decode cX6_arcOf 113 = .ok (.iload 4, 2) := by decide +kernel
theorem dX6_arcOf_115 : decode cX6_arcOf 115 = .ok (.ireturn, 1) := by decide +kernel
set_option maxRecDepth 20000 in
theorem ggX6_arcs_X6_sort : GoodIn wsX6_arcs wsX6_sort := goodIn_r _ [8, 2, 9, 3, 10, 34, 35, 36, 37, 38, 39, 40, 41, 42, 43, 44, 45, 46, 47, 48, 49, 50, 51, 52, 53, 54, 55, 56] (by decide +kernel) (by decide +kernel)
set_option maxRecDepth 20000 in
theorem gX6_arcs_X6_sort : GoodIn wsX6_arcs (wsV RX6 78 RX6 yX6_sort wsX6_sort) := goodIn_app (goodIn_of _ (by decide +kernel)) ggX6_arcs_X6_sort
set_option maxRecDepth 20000 in
theorem ggX6_arcs_X6_arcOf : GoodIn wsX6_arcs wsX6_arcOf := goodIn_r _ [14, 10, 15, 16, 17, 7, 18, 9, 19, 20, 21, 22, 23, 24, 25, 26, 27, 28, 29, 30, 31, 32, 33, 34, 35, 36, 37, 38, 39, 40, 41, 42, 43, 44, 45, 46, 47, 48, 49, 50, 51, 52, 53, 54, 55, 56] (by decide +kernel) (by decide +kernel)
set_option maxRecDepth 20000 in
theorem gX6_arcs_X6_arcOf : GoodIn wsX6_arcs (wsV RX6 137 RX6 yX6_arcOf wsX6_arcOf) := goodIn_app (goodIn_of _ (by decide +kernel)) ggX6_arcs_X6_arcOf
theorem dX6_arcs_0 : decode cX6_arcs 0 = .ok (.aload_n 0, 1) := by decide +kernel
theorem dX6_arcs_1 : decode cX6_arcs 1 = .ok (.getfield 105, 3) := by decide +kernel
theorem dX6_arcs_4 : decode cX6_arcs 4 = .ok (.istore_n 1, 1) := by decide +kernel
theorem dX6_arcs_5 : decode cX6_arcs 5 = .ok (.aload_n 0, 1) := by decide +kernel
theorem dX6_arcs_6 : decode cX6_arcs 6 = .ok (.invokevirtual 78, 3) := by decide +kernel
theorem dX6_arcs_9 : decode cX6_arcs 9 = .ok (.iconst 0, 1) := by decide +kernel
theorem dX6_arcs_10 : decode cX6_arcs 10 = .ok (.istore_n 2, 1) := by decide +kernel
theorem dX6_arcs_11 : decode cX6_arcs 11 = .ok (.iload_n 2, 1) := by decide +kernel
theorem dX6_arcs_12 : decode cX6_arcs 12 = .ok (.aload_n 0, 1) := by decide +kernel
theorem dX6_arcs_13 : decode cX6_arcs 13 = .ok (.getfield 72, 3) := by decide +kernel
theorem dX6_arcs_16 : decode cX6_arcs 16 = .ok (.if_icmp .ge 36, 3) := by decide +kernel
theorem dX6_arcs_19 : decode cX6_arcs 19 = .ok (.iload_n 1, 1) := by decide +kernel
theorem dX6_arcs_20 : decode cX6_arcs 20 = .ok (.aload_n 0, 1) := by decide +kernel
theorem dX6_arcs_21 : decode cX6_arcs 21 = .ok (.aload_n 0, 1) := by decide +kernel
theorem dX6_arcs_22 : decode cX6_arcs 22 = .ok (.getfield 32, 3) := by decide +kernel
theorem dX6_arcs_25 : decode cX6_arcs 25 = .ok (.iload_n 2, 1) := by decide +kernel
theorem dX6_arcs_26 : decode cX6_arcs 26 = .ok (.iaload, 1) := by decide +kernel
theorem dX6_arcs_27 : decode cX6_arcs 27 = .ok (.invokevirtual 137, 3) := by decide +kernel
theorem dX6_arcs_30 : decode cX6_arcs 30 = .ok (.aload_n 0, 1) := by decide +kernel
theorem dX6_arcs_31 : decode cX6_arcs 31 = .ok (.getfield 32, 3) := by decide +kernel
theorem dX6_arcs_34 : decode cX6_arcs 34 = .ok (.iload_n 2, 1) := by decide +kernel
theorem dX6_arcs_35 : decode cX6_arcs 35 = .ok (.iaload, 1) := by decide +kernel
theorem dX6_arcs_36 : decode cX6_arcs 36 = .ok (.if_icmp .ne 7, 3) := by decide +kernel
theorem dX6_arcs_39 : decode cX6_arcs 39 = .ok (.iconst 1, 1) := by decide +kernel
theorem dX6_arcs_40 : decode cX6_arcs 40 = .ok (.goto 4, 3) := by decide +kernel
theorem dX6_arcs_43 : decode cX6_arcs 43 = .ok (.iconst 0, 1) := by decide +kernel
theorem dX6_arcs_44 : decode cX6_arcs 44 = .ok (.iadd, 1) := by decide +kernel
theorem dX6_arcs_45 : decode cX6_arcs 45 = .ok (.istore_n 1, 1) := by decide +kernel
theorem dX6_arcs_46 : decode cX6_arcs 46 = .ok (.iinc 2 1, 3) := by decide +kernel
theorem dX6_arcs_49 : decode cX6_arcs 49 = .ok (.goto (-38), 3) := by decide +kernel
theorem dX6_arcs_52 : decode cX6_arcs 52 = .ok (.iload_n 1, 1) := by decide +kernel
theorem dX6_arcs_53 : decode cX6_arcs 53 = .ok (.ireturn, 1) := by decide +kernel
set_option maxRecDepth 20000 in
theorem ggX6_seifertNext_X6_placeOf : GoodIn wsX6_seifertNext wsX6_placeOf := goodIn_r _ [6, 7, 1, 8, 9, 10, 5, 11, 12, 20, 21, 22, 23, 24, 25, 26, 27, 28, 29, 30, 31, 32, 33, 34, 35, 36, 37, 38, 39, 40, 41, 42] (by decide +kernel) (by decide +kernel)
set_option maxRecDepth 20000 in
theorem gX6_seifertNext_X6_placeOf : GoodIn wsX6_seifertNext (wsV RX6 64 RX6 yX6_placeOf wsX6_placeOf) := goodIn_app (goodIn_of _ (by decide +kernel)) ggX6_seifertNext_X6_placeOf
set_option maxRecDepth 20000 in
theorem ggX6_seifertNext_X6_isUpper : GoodIn wsX6_seifertNext wsX6_isUpper := goodIn_r _ [15] (by decide +kernel) (by decide +kernel)
set_option maxRecDepth 20000 in
theorem gX6_seifertNext_X6_isUpper : GoodIn wsX6_seifertNext (va_wsS RX6 134 yX6_isUpper wsX6_isUpper) := goodIn_app (goodIn_of _ (by decide +kernel)) ggX6_seifertNext_X6_isUpper
set_option maxRecDepth 20000 in
theorem ggX6_seifertNext_X6_upperIn : GoodIn wsX6_seifertNext wsX6_upperIn := goodIn_r _ [19, 12, 20, 21, 22, 23, 24, 25, 26, 27, 28, 29, 30, 31, 32, 33, 34, 35, 36, 37, 38, 39, 40, 41, 42] (by decide +kernel) (by decide +kernel)
set_option maxRecDepth 20000 in
theorem gX6_seifertNext_X6_upperIn : GoodIn wsX6_seifertNext (wsV RX6 140 RX6 yX6_upperIn wsX6_upperIn) := goodIn_app (goodIn_of _ (by decide +kernel)) ggX6_seifertNext_X6_upperIn
theorem dX6_seifertNext_0 : decode cX6_seifertNext 0 = .ok (.aload_n 0, 1) := by decide +kernel
theorem dX6_seifertNext_1 : decode cX6_seifertNext 1 = .ok (.iload_n 1, 1) := by decide +kernel
theorem dX6_seifertNext_2 : decode cX6_seifertNext 2 = .ok (.iconst 0, 1) := by decide +kernel
theorem dX6_seifertNext_3 : decode cX6_seifertNext 3 = .ok (.invokevirtual 64, 3) := by decide +kernel
theorem dX6_seifertNext_6 : decode cX6_seifertNext 6 = .ok (.istore_n 2, 1) := by decide +kernel
theorem dX6_seifertNext_7 : decode cX6_seifertNext 7 = .ok (.iload_n 2, 1) := by decide +kernel
theorem dX6_seifertNext_8 : decode cX6_seifertNext 8 = .ok (.iconst 4, 1) := by decide +kernel
theorem dX6_seifertNext_9 : decode cX6_seifertNext 9 = .ok (.idiv, 1) := by decide +kernel
theorem dX6_seifertNext_10 : decode cX6_seifertNext 10 = .ok (.istore_n 3, 1) := by decide +kernel
theorem dX6_seifertNext_11 : decode cX6_seifertNext 11 = .ok (.aload_n 0, 1) := by decide +kernel
theorem dX6_seifertNext_12 : decode cX6_seifertNext 12 = .ok (.getfield 23, 3) := by decide +kernel
theorem dX6_seifertNext_15 : decode cX6_seifertNext 15 = .ok (.iconst 4, 1) := by decide +kernel
theorem dX6_seifertNext_16 : decode cX6_seifertNext 16 = .ok (.iload_n 3, 1) := by decide +kernel
theorem dX6_seifertNext_17 : decode cX6_seifertNext 17 = .ok (.imul, 1) := by decide +kernel
theorem dX6_seifertNext_18 : decode cX6_seifertNext 18 = .ok (.iload_n 2, 1) := by decide +kernel
theorem dX6_seifertNext_19 : decode cX6_seifertNext 19 = .ok (.invokestatic 134, 3) := by decide +kernel
theorem dX6_seifertNext_22 : decode cX6_seifertNext 22 = .ok (.ifCond .eq 7, 3) := by decide +kernel
theorem dX6_seifertNext_25 : decode cX6_seifertNext 25 = .ok (.iconst 2, 1) := by decide +kernel
theorem dX6_seifertNext_26 : decode cX6_seifertNext 26 = .ok (.goto 12, 3) := by decide +kernel
theorem dX6_seifertNext_29 : decode cX6_seifertNext 29 = .ok (.aload_n 0, 1) := by decide +kernel
theorem dX6_seifertNext_30 : decode cX6_seifertNext 30 = .ok (.iload_n 3, 1) := by decide +kernel
theorem dX6_seifertNext_31 : decode cX6_seifertNext 31 = .ok (.invokevirtual 140, 3) := by decide +kernel
theorem dX6_seifertNext_34 : decode cX6_seifertNext 34 = .ok (.iconst 2, 1) := by decide +kernel
theorem dX6_seifertNext_35 : decode cX6_seifertNext 35 = .ok (.iadd, 1) := by decide +kernel
theorem dX6_seifertNext_36 : decode cX6_seifertNext 36 = .ok (.iconst 4, 1) := by decide +kernel
theorem dX6_seifertNext_37 : decode cX6_seifertNext 37 = .ok (.irem, 1) := by decide +kernel
theorem dX6_seifertNext_38 : decode cX6_seifertNext 38 = .ok (.iadd, 1) := by decide +kernel
theorem dX6_seifertNext_39 : decode cX6_seifertNext 39 = .ok (.iaload, 1) := by decide +kernel
theorem dX6_seifertNext_40 : decode cX6_seifertNext 40 = .ok (.ireturn, 1) := by decide +kernel
set_option maxRecDepth 20000 in
theorem ggX6_seifert_X6_sort : GoodIn wsX6_seifert wsX6_sort := goodIn_r _ [8, 2, 9, 3, 10, 31, 32, 33, 34, 35, 36, 37, 38, 39, 40, 41, 42, 43, 44, 45, 46, 47, 48, 49, 50, 51, 52, 53] (by decide +kernel) (by decide +kernel)
set_option maxRecDepth 20000 in
theorem gX6_seifert_X6_sort : GoodIn wsX6_seifert (wsV RX6 78 RX6 yX6_sort wsX6_sort) := goodIn_app (goodIn_of _ (by decide +kernel)) ggX6_seifert_X6_sort
set_option maxRecDepth 20000 in
theorem ggX6_seifert_X6_seifertNext : GoodIn wsX6_seifert wsX6_seifertNext := goodIn_r _ [14, 10, 15, 16, 17, 7, 18, 9, 19, 20, 21, 22, 23, 24, 25, 26, 27, 28, 29, 30, 31, 32, 33, 34, 35, 36, 37, 38, 39, 40, 41, 42, 43, 44, 45, 46, 47, 48, 49, 50, 51, 52, 53] (by decide +kernel) (by decide +kernel)
set_option maxRecDepth 20000 in
theorem gX6_seifert_X6_seifertNext : GoodIn wsX6_seifert (wsV RX6 143 RX6 yX6_seifertNext wsX6_seifertNext) := goodIn_app (goodIn_of _ (by decide +kernel)) ggX6_seifert_X6_seifertNext
theorem dX6_seifert_0 : decode cX6_seifert 0 = .ok (.aload_n 0, 1) := by decide +kernel
theorem dX6_seifert_1 : decode cX6_seifert 1 = .ok (.getfield 105, 3) := by decide +kernel
theorem dX6_seifert_4 : decode cX6_seifert 4 = .ok (.istore_n 1, 1) := by decide +kernel
theorem dX6_seifert_5 : decode cX6_seifert 5 = .ok (.aload_n 0, 1) := by decide +kernel
theorem dX6_seifert_6 : decode cX6_seifert 6 = .ok (.invokevirtual 78, 3) := by decide +kernel
theorem dX6_seifert_9 : decode cX6_seifert 9 = .ok (.iconst 0, 1) := by decide +kernel
theorem dX6_seifert_10 : decode cX6_seifert 10 = .ok (.istore_n 2, 1) := by decide +kernel
theorem dX6_seifert_11 : decode cX6_seifert 11 = .ok (.iload_n 2, 1) := by decide +kernel
theorem dX6_seifert_12 : decode cX6_seifert 12 = .ok (.aload_n 0, 1) := by decide +kernel
theorem dX6_seifert_13 : decode cX6_seifert 13 = .ok (.getfield 72, 3) := by decide +kernel
theorem dX6_seifert_16 : decode cX6_seifert 16 = .ok (.if_icmp .ge 81, 3) := by decide +kernel
theorem dX6_seifert_19 : decode cX6_seifert 19 = .ok (.aload_n 0, 1) := by decide +kernel
theorem dX6_seifert_20 : decode cX6_seifert 20 = .ok (.getfield 32, 3) := by decide +kernel
theorem dX6_seifert_23 : decode cX6_seifert 23 = .ok (.iload_n 2, 1) := by decide +kernel
theorem dX6_seifert_24 : decode cX6_seifert 24 = .ok (.iaload, 1) := by decide +kernel
theorem dX6_seifert_25 : decode cX6_seifert 25 = .ok (.istore_n 3, 1) := by decide +kernel
theorem dX6_seifert_26 : decode cX6_seifert 26 = .ok (.aload_n 0, 1) := by decide +kernel
theorem dX6_seifert_27 : decode cX6_seifert 27 = .ok (.aload_n 0, 1) := by decide +kernel
theorem dX6_seifert_28 : decode cX6_seifert 28 = .ok (.getfield 32, 3) := by decide +kernel
theorem dX6_seifert_31 : decode cX6_seifert 31 = .ok (.iload_n 2, 1) := by decide +kernel
theorem dX6_seifert_32 : decode cX6_seifert 32 = .ok (.iaload, 1) := by decide +kernel
theorem dX6_seifert_33 : decode cX6_seifert 33 = .ok (.invokevirtual 143, 3) := by decide +kernel
theorem dX6_seifert_36 : decode cX6_seifert 36 = .ok (.istore 4, 2) := by decide +kernel
theorem dX6_seifert_38 : decode cX6_seifert 38 = .ok (.iload 4, 2) := by decide +kernel
theorem dX6_seifert_40 : decode cX6_seifert 40 = .ok (.aload_n 0, 1) := by decide +kernel
theorem dX6_seifert_41 : decode cX6_seifert 41 = .ok (.getfield 32, 3) := by decide +kernel
theorem dX6_seifert_44 : decode cX6_seifert 44 = .ok (.iload_n 2, 1) := by decide +kernel
theorem dX6_seifert_45 : decode cX6_seifert 45 = .ok (.iaload, 1) := by decide +kernel
theorem dX6_seifert_46 : decode cX6_seifert 46 = .ok (.if_icmp .eq 27, 3) := by decide +kernel
theorem dX6_seifert_49 : decode cX6_seifert 49 = .ok (.iload 4, 2) := by decide +kernel
theorem dX6_seifert_51 : decode cX6_seifert 51 = .ok (.iload_n 3, 1) := by decide +kernel
theorem dX6_seifert_52 : decode cX6_seifert 52 = .ok (.if_icmp .ge 8, 3) := by decide +kernel
theorem dX6_seifert_55 : decode cX6_seifert 55 = .ok (.iload 4, 2) := by decide +kernel
theorem dX6_seifert_57 : decode cX6_seifert 57 = .ok (.goto 4, 3) := by decide +kernel
theorem dX6_seifert_60 : decode cX6_seifert 60 = .ok (.iload_n 3, 1) := by decide +kernel
theorem dX6_seifert_61 : decode cX6_seifert 61 = .ok (.istore_n 3, 1) := by decide +kernel
theorem dX6_seifert_62 : decode cX6_seifert 62 = .ok (.aload_n 0, 1) := by decide +kernel
theorem dX6_seifert_63 : decode cX6_seifert 63 = .ok (.iload 4, 2) := by decide +kernel
theorem dX6_seifert_65 : decode cX6_seifert 65 = .ok (.invokevirtual 143, 3) := by decide +kernel
theorem dX6_seifert_68 : decode cX6_seifert 68 = .ok (.istore 4, 2) := by decide +kernel
theorem dX6_seifert_70 : decode cX6_seifert 70 = .ok (.goto (-32), 3) := by decide +kernel
theorem dX6_seifert_73 : decode cX6_seifert 73 = .ok (.iload_n 1, 1) := by decide +kernel
theorem dX6_seifert_74 : decode cX6_seifert 74 = .ok (.iload_n 3, 1) := by decide +kernel
theorem dX6_seifert_75 : decode cX6_seifert 75 = .ok (.aload_n 0, 1) := by decide +kernel
theorem dX6_seifert_76 : decode cX6_seifert 76 = .ok (.getfield 32, 3) := by decide +kernel
theorem dX6_seifert_79 : decode cX6_seifert 79 = .ok (.iload_n 2, 1) := by decide +kernel
theorem dX6_seifert_80 : decode cX6_seifert 80 = .ok (.iaload, 1) := by decide +kernel
theorem dX6_seifert_81 : decode cX6_seifert 81 = .ok (.if_icmp .ne 7, 3) := by decide +kernel
theorem dX6_seifert_84 : decode cX6_seifert 84 = .ok (.iconst 1, 1) := by decide +kernel
theorem dX6_seifert_85 : decode cX6_seifert 85 = .ok (.goto 4, 3) := by decide +kernel
theorem dX6_seifert_88 : decode cX6_seifert 88 = .ok (.iconst 0, 1) := by decide +kernel
theorem dX6_seifert_89 : decode cX6_seifert 89 = .ok (.iadd, 1) := by decide +kernel
theorem dX6_seifert_90 : decode cX6_seifert 90 = .ok (.istore_n 1, 1) := by decide +kernel
theorem dX6_seifert_91 : decode cX6_seifert 91 = .ok (.iinc 2 1, 3) := by decide +kernel
theorem dX6_seifert_94 : decode cX6_seifert 94 = .ok (.goto (-83), 3) := by decide +kernel
theorem dX6_seifert_97 : decode cX6_seifert 97 = .ok (.iload_n 1, 1) := by decide +kernel
theorem dX6_seifert_98 : decode cX6_seifert 98 = .ok (.ireturn, 1) := by decide +kernel
set_option maxRecDepth 20000 in
theorem ggX6_isAlternating_X6_isOut : GoodIn wsX6_isAlternating wsX6_isOut := goodIn_r _ [7, 8, 16, 17, 18, 19, 20, 21, 22, 23, 24, 25, 26, 27, 28, 29, 30, 31, 32, 33, 34, 35, 36, 37, 38] (by decide +kernel) (by decide +kernel)
set_option maxRecDepth 20000 in
theorem gX6_isAlternating_X6_isOut : GoodIn wsX6_isAlternating (wsV RX6 60 RX6 yX6_isOut wsX6_isOut) := goodIn_app (goodIn_of _ (by decide +kernel)) ggX6_isAlternating_X6_isOut
set_option maxRecDepth 20000 in
theorem ggX6_isAlternating_X6_isUpper : GoodIn wsX6_isAlternating wsX6_isUpper := goodIn_r _ [11] (by decide +kernel) (by decide +kernel)
set_option maxRecDepth 20000 in
theorem gX6_isAlternating_X6_isUpper : GoodIn wsX6_isAlternating (va_wsS RX6 134 yX6_isUpper wsX6_isUpper) := goodIn_app (goodIn_of _ (by decide +kernel)) ggX6_isAlternating_X6_isUpper
set_option maxRecDepth 20000 in
theorem ggX6_isAlternating_X6_placeOf : GoodIn wsX6_isAlternating wsX6_placeOf := goodIn_r _ [15, 1, 2, 3, 4, 5, 6, 7, 8, 16, 17, 18, 19, 20, 21, 22, 23, 24, 25, 26, 27, 28, 29, 30, 31, 32, 33, 34, 35, 36, 37, 38] (by decide +kernel) (by decide +kernel)
set_option maxRecDepth 20000 in
theorem gX6_isAlternating_X6_placeOf : GoodIn wsX6_isAlternating (wsV RX6 64 RX6 yX6_placeOf wsX6_placeOf) := goodIn_app (goodIn_of _ (by decide +kernel)) ggX6_isAlternating_X6_placeOf
theorem dX6_isAlternating_0 : decode cX6_isAlternating 0 = .ok (.iconst 1, 1) := by decide +kernel
theorem dX6_isAlternating_1 : decode cX6_isAlternating 1 = .ok (.istore_n 1, 1) := by decide +kernel
theorem dX6_isAlternating_2 : decode cX6_isAlternating 2 = .ok (.iconst 0, 1) := by decide +kernel
theorem dX6_isAlternating_3 : decode cX6_isAlternating 3 = .ok (.istore_n 2, 1) := by decide +kernel
theorem dX6_isAlternating_4 : decode cX6_isAlternating 4 = .ok (.iload_n 2, 1) := by decide +kernel
theorem dX6_isAlternating_5 : decode cX6_isAlternating 5 = .ok (.iconst 4, 1) := by decide +kernel
theorem dX6_isAlternating_6 : decode cX6_isAlternating 6 = .ok (.aload_n 0, 1) := by decide +kernel
theorem dX6_isAlternating_7 : decode cX6_isAlternating 7 = .ok (.getfield 57, 3) := by decide +kernel
theorem dX6_isAlternating_10 : decode cX6_isAlternating 10 = .ok (.imul, 1) := by decide +kernel
theorem dX6_isAlternating_11 : decode cX6_isAlternating 11 = .ok (.if_icmp .ge 48, 3) := by decide +kernel
theorem dX6_isAlternating_14 : decode cX6_isAlternating 14 = .ok (.iload_n 1, 1) := by decide +kernel
theorem dX6_isAlternating_15 : decode cX6_isAlternating 15 = .ok (.ifCond .eq 36, 3) := by decide +kernel
theorem dX6_isAlternating_18 : decode cX6_isAlternating 18 = .ok (.aload_n 0, 1) := by decide +kernel
theorem dX6_isAlternating_19 : decode cX6_isAlternating 19 = .ok (.iload_n 2, 1) := by decide +kernel
theorem dX6_isAlternating_20 : decode cX6_isAlternating 20 = .ok (.invokevirtual 60, 3) := by decide +kernel
theorem dX6_isAlternating_23 : decode cX6_isAlternating 23 = .ok (.ifCond .eq 24, 3) := by decide +kernel
theorem dX6_isAlternating_26 : decode cX6_isAlternating 26 = .ok (.iload_n 2, 1) := by decide +kernel
theorem dX6_isAlternating_27 : decode cX6_isAlternating 27 = .ok (.invokestatic 134, 3) := by decide +kernel
theorem dX6_isAlternating_30 : decode cX6_isAlternating 30 = .ok (.aload_n 0, 1) := by decide +kernel
theorem dX6_isAlternating_31 : decode cX6_isAlternating 31 = .ok (.aload_n 0, 1) := by decide +kernel
theorem dX6_isAlternating_32 : decode cX6_isAlternating 32 = .ok (.getfield 23, 3) := by decide +kernel
theorem dX6_isAlternating_35 : decode cX6_isAlternating 35 = .ok (.iload_n 2, 1) := by decide +kernel
theorem dX6_isAlternating_36 : decode cX6_isAlternating 36 = .ok (.iaload, 1) := by decide +kernel
theorem dX6_isAlternating_37 : decode cX6_isAlternating 37 = .ok (.iconst 0, 1) := by decide +kernel
theorem dX6_isAlternating_38 : decode cX6_isAlternating 38 = .ok (.invokevirtual 64, 3) := by decide +kernel
theorem dX6_isAlternating_41 : decode cX6_isAlternating 41 = .ok (.invokestatic 134, 3) := by decide +kernel
theorem dX6_isAlternating_44 : decode cX6_isAlternating 44 = .ok (.if_icmp .eq 7, 3) := by decide +kernel
theorem dX6_isAlternating_47 : decode cX6_isAlternating 47 = .ok (.iconst 1, 1) := by decide +kernel
theorem dX6_isAlternating_48 : decode cX6_isAlternating 48 = .ok (.goto 4, 3) := by decide +kernel
theorem dX6_isAlternating_51 : decode cX6_isAlternating 51 = .ok (.iconst 0, 1) := by decide +kernel
theorem dX6_isAlternating_52 : decode cX6_isAlternating 52 = .ok (.istore_n 1, 1) := by decide +kernel
theorem dX6_isAlternating_53 : decode cX6_isAlternating 53 = .ok (.iinc 2 1, 3) := by decide +kernel
theorem dX6_isAlternating_56 : decode cX6_isAlternating 56 = .ok (.goto (-52), 3) := by decide +kernel
theorem dX6_isAlternating_59 : decode cX6_isAlternating 59 = .ok (.iload_n 1, 1) := by decide +kernel
theorem dX6_isAlternating_60 : decode cX6_isAlternating 60 = .ok (.ireturn, 1) := by decide +kernel
set_option maxRecDepth 20000 in
theorem ggX6_many_X6_allComponents : GoodIn wsX6_many wsX6_allComponents := goodIn_r _ [8, 9, 2, 10, 11, 12, 7, 13, 14, 15, 16, 17, 18, 19, 20, 1, 21, 22, 23, 24, 25, 26, 27, 28, 29, 30, 31, 32, 33, 34, 35, 36, 37, 96, 97, 98, 99, 100, 101, 102, 103, 104, 105, 106, 107, 108, 109, 110, 111, 112, 113, 114, 115, 116, 117, 118] (by decide +kernel) (by decide +kernel)
set_option maxRecDepth 20000 in
theorem gX6_many_X6_allComponents : GoodIn wsX6_many (wsV RX6 146 RX6 yX6_allComponents wsX6_allComponents) := goodIn_app (goodIn_of _ (by decide +kernel)) ggX6_many_X6_allComponents
set_option maxRecDepth 20000 in
theorem ggX6_many_X6_pieces : GoodIn wsX6_many wsX6_pieces := goodIn_r _ [41, 1, 42, 43, 44, 45, 7, 46, 21, 96, 97, 98, 99, 100, 101, 102, 103, 104, 105, 106, 107, 108, 109, 110, 111, 112, 113, 114, 115, 116, 117, 118] (by decide +kernel) (by decide +kernel)
set_option maxRecDepth 20000 in
theorem gX6_many_X6_pieces : GoodIn wsX6_many (wsV RX6 149 RX6 yX6_pieces wsX6_pieces) := goodIn_app (goodIn_of _ (by decide +kernel)) ggX6_many_X6_pieces
set_option maxRecDepth 20000 in
theorem ggX6_many_X6_signs : GoodIn wsX6_many wsX6_signs := goodIn_r _ [50, 1, 30, 96, 97, 98, 99, 100, 101, 102, 103, 104, 105, 106, 107, 108, 109, 110, 111, 112, 113, 114, 115, 116, 117, 118] (by decide +kernel) (by decide +kernel)
set_option maxRecDepth 20000 in
theorem gX6_many_X6_signs : GoodIn wsX6_many (wsV RX6 152 RX6 yX6_signs wsX6_signs) := goodIn_app (goodIn_of _ (by decide +kernel)) ggX6_many_X6_signs
set_option maxRecDepth 20000 in
theorem ggX6_many_X6_allFaces : GoodIn wsX6_many wsX6_allFaces := goodIn_r _ [54, 55, 56, 57, 58, 7, 59, 60, 15, 16, 17, 18, 19, 20, 1, 21, 61, 62, 63, 64, 65, 66, 67, 68, 22, 23, 24, 25, 26, 27, 28, 29, 30, 96, 97, 98, 99, 100, 101, 102, 103, 104, 105, 106, 107, 108, 109, 110, 111, 112, 113, 114, 115, 116, 117, 118] (by decide +kernel) (by decide +kernel)
set_option maxRecDepth 20000 in
theorem gX6_many_X6_allFaces : GoodIn wsX6_many (wsV RX6 155 RX6 yX6_allFaces wsX6_allFaces) := goodIn_app (goodIn_of _ (by decide +kernel)) ggX6_many_X6_allFaces
set_option maxRecDepth 20000 in
theorem ggX6_many_X6_arcs : GoodIn wsX6_many wsX6_arcs := goodIn_r _ [72, 2, 15, 16, 17, 18, 19, 7, 20, 1, 21, 73, 74, 75, 76, 22, 23, 24, 25, 26, 27, 28, 29, 30, 77, 78, 79, 35, 36, 37, 31, 32, 33, 34, 96, 97, 98, 99, 100, 101, 102, 103, 104, 105, 106, 107, 108, 109, 110, 111, 112, 113, 114, 115, 116, 117, 118] (by decide +kernel) (by decide +kernel)
set_option maxRecDepth 20000 in
theorem gX6_many_X6_arcs : GoodIn wsX6_many (wsV RX6 158 RX6 yX6_arcs wsX6_arcs) := goodIn_app (goodIn_of _ (by decide +kernel)) ggX6_many_X6_arcs
set_option maxRecDepth 20000 in
theorem ggX6_many_X6_seifert : GoodIn wsX6_many wsX6_seifert := goodIn_r _ [83, 2, 15, 16, 17, 18, 19, 7, 20, 1, 21, 84, 85, 86, 87, 22, 23, 24, 25, 26, 27, 28, 29, 30, 77, 78, 79, 88, 89, 90, 91, 96, 97, 98, 99, 100, 101, 102, 103, 104, 105, 106, 107, 108, 109, 110, 111, 112, 113, 114, 115, 116, 117, 118] (by decide +kernel) (by decide +kernel)
set_option maxRecDepth 20000 in
theorem gX6_many_X6_seifert : GoodIn wsX6_many (wsV RX6 161 RX6 yX6_seifert wsX6_seifert) := goodIn_app (goodIn_of _ (by decide +kernel)) ggX6_many_X6_seifert
set_option maxRecDepth 20000 in
theorem ggX6_many_X6_isAlternating : GoodIn wsX6_many wsX6_isAlternating := goodIn_r _ [95, 1, 21, 26, 27, 28, 7, 29, 30, 77, 78, 79, 22, 23, 24, 25, 96, 97, 98, 99, 100, 101, 102, 103, 104, 105, 106, 107, 108, 109, 110, 111, 112, 113, 114, 115, 116, 117, 118] (by decide +kernel) (by decide +kernel)
set_option maxRecDepth 20000 in
theorem gX6_many_X6_isAlternating : GoodIn wsX6_many (wsV RX6 164 RX6 yX6_isAlternating wsX6_isAlternating) := goodIn_app (goodIn_of _ (by decide +kernel)) ggX6_many_X6_isAlternating
theorem dX6_many_0 : decode cX6_many 0 = .ok (.iload_n 1, 1) := by decide +kernel
theorem dX6_many_1 : decode cX6_many 1 = .ok (.tableswitch 129 0 10 #[59, 64, 71, 76, 86, 91, 96, 101, 106, 111, 124], 59) := by decide +kernel
theorem dX6_many_60 : decode cX6_many 60 = .ok (.aload_n 0, 1) := by decide +kernel
theorem dX6_many_61 : decode cX6_many 61 = .ok (.getfield 57, 3) := by decide +kernel
theorem dX6_many_64 : decode cX6_many 64 = .ok (.ireturn, 1) := by decide +kernel
theorem dX6_many_65 : decode cX6_many 65 = .ok (.iconst 2, 1) := by decide +kernel
theorem dX6_many_66 : decode cX6_many 66 = .ok (.aload_n 0, 1) := by decide +kernel
theorem dX6_many_67 : decode cX6_many 67 = .ok (.getfield 57, 3) := by decide +kernel
theorem dX6_many_70 : decode cX6_many 70 = .ok (.imul, 1) := by decide +kernel
theorem dX6_many_71 : decode cX6_many 71 = .ok (.ireturn, 1) := by decide +kernel
theorem dX6_many_72 : decode cX6_many 72 = .ok (.aload_n 0, 1) := by decide +kernel
theorem dX6_many_73 : decode cX6_many 73 = .ok (.invokevirtual 146, 3) := by decide +kernel
theorem dX6_many_76 : decode cX6_many 76 = .ok (.ireturn, 1) := by decide +kernel
theorem dX6_many_77 : decode cX6_many 77 = .ok (.aload_n 0, 1) := by decide +kernel
theorem dX6_many_78 : decode cX6_many 78 = .ok (.invokevirtual 149, 3) := by decide +kernel
theorem dX6_many_81 : decode cX6_many 81 = .ok (.aload_n 0, 1) := by decide +kernel
theorem dX6_many_82 : decode cX6_many 82 = .ok (.getfield 105, 3) := by decide +kernel
theorem dX6_many_85 : decode cX6_many 85 = .ok (.iadd, 1) := by decide +kernel
theorem dX6_many_86 : decode cX6_many 86 = .ok (.ireturn, 1) := by decide +kernel
theorem dX6_many_87 : decode cX6_many 87 = .ok (.aload_n 0, 1) := by decide +kernel
theorem dX6_many_88 : decode cX6_many 88 = .ok (.getfield 105, 3) := by decide +kernel
theorem dX6_many_91 : decode cX6_many 91 = .ok (.ireturn, 1) := by decide +kernel
theorem dX6_many_92 : decode cX6_many 92 = .ok (.aload_n 0, 1) := by decide +kernel
theorem dX6_many_93 : decode cX6_many 93 = .ok (.invokevirtual 152, 3) := by decide +kernel
theorem dX6_many_96 : decode cX6_many 96 = .ok (.ireturn, 1) := by decide +kernel
theorem dX6_many_97 : decode cX6_many 97 = .ok (.aload_n 0, 1) := by decide +kernel
theorem dX6_many_98 : decode cX6_many 98 = .ok (.invokevirtual 155, 3) := by decide +kernel
theorem dX6_many_101 : decode cX6_many 101 = .ok (.ireturn, 1) := by decide +kernel
theorem dX6_many_102 : decode cX6_many 102 = .ok (.aload_n 0, 1) := by decide +kernel
theorem dX6_many_103 : decode cX6_many 103 = .ok (.invokevirtual 158, 3) := by decide +kernel
theorem dX6_many_106 : decode cX6_many 106 = .ok (.ireturn, 1) := by decide +kernel
theorem dX6_many_107 : decode cX6_many 107 = .ok (.aload_n 0, 1) := by decide +kernel
theorem dX6_many_108 : decode cX6_many 108 = .ok (.invokevirtual 161, 3) := by decide +kernel
theorem dX6_many_111 : decode cX6_many 111 = .ok (.ireturn, 1) := by decide +kernel
theorem dX6_many_112 : decode cX6_many 112 = .ok (.aload_n 0, 1) := by decide +kernel
theorem dX6_many_113 : decode cX6_many 113 = .ok (.invokevirtual 164, 3) := by decide +kernel
theorem dX6_many_116 : decode cX6_many 116 = .ok (.ifCond .eq 7, 3) := by decide +kernel
theorem dX6_many_119 : decode cX6_many 119 = .ok (.iconst 1, 1) := by decide +kernel
theorem dX6_many_120 : decode cX6_many 120 = .ok (.goto 4, 3) := by decide +kernel
theorem dX6_many_123 : decode cX6_many 123 = .ok (.iconst 0, 1) := by decide +kernel
theorem dX6_many_124 : decode cX6_many 124 = .ok (.ireturn, 1) := by decide +kernel
theorem dX6_many_125 : decode cX6_many 125 = .ok (.aload_n 0, 1) := by decide +kernel
theorem dX6_many_126 : decode cX6_many 126 = .ok (.getfield 99, 3) := by decide +kernel
theorem dX6_many_129 : decode cX6_many 129 = .ok (.ireturn, 1) := by decide +kernel
theorem dX6_many_130 : decode cX6_many 130 = .ok (.sipush (-1000), 3) := by decide +kernel
theorem dX6_many_133 : decode cX6_many 133 = .ok (.ireturn, 1) := by decide +kernel
set_option maxRecDepth 20000 in
theorem ggX6_look_X6_pieceOf : GoodIn wsX6_look wsX6_pieceOf := goodIn_r _ [8, 9, 10, 11, 12, 7, 13, 1, 2, 45, 46, 47, 48, 49, 50, 51, 52, 53, 54, 55, 56, 57, 58, 59, 60, 61, 62, 63, 64, 65, 66, 67] (by decide +kernel) (by decide +kernel)
set_option maxRecDepth 20000 in
theorem gX6_look_X6_pieceOf : GoodIn wsX6_look (wsV RX6 168 RX6 yX6_pieceOf wsX6_pieceOf) := goodIn_app (goodIn_of _ (by decide +kernel)) ggX6_look_X6_pieceOf
set_option maxRecDepth 20000 in
theorem ggX6_look_X6_componentOf : GoodIn wsX6_look wsX6_componentOf := goodIn_r _ [17, 18, 19, 20, 21, 7, 22, 23, 24, 25, 26, 27, 28, 29, 1, 2, 30, 31, 32, 33, 34, 35, 36, 37, 3, 38, 39, 40, 41, 42, 43, 44, 45, 46, 47, 48, 49, 50, 51, 52, 53, 54, 55, 56, 57, 58, 59, 60, 61, 62, 63, 64, 65, 66, 67] (by decide +kernel) (by decide +kernel)
set_option maxRecDepth 20000 in
theorem gX6_look_X6_componentOf : GoodIn wsX6_look (wsV RX6 171 RX6 yX6_componentOf wsX6_componentOf) := goodIn_app (goodIn_of _ (by decide +kernel)) ggX6_look_X6_componentOf
theorem dX6_look_0 : decode cX6_look 0 = .ok (.iload_n 1, 1) := by decide +kernel
theorem dX6_look_1 : decode cX6_look 1 = .ok (.ifCond .lt 21, 3) := by decide +kernel
theorem dX6_look_4 : decode cX6_look 4 = .ok (.iload_n 1, 1) := by decide +kernel
theorem dX6_look_5 : decode cX6_look 5 = .ok (.aload_n 0, 1) := by decide +kernel
theorem dX6_look_6 : decode cX6_look 6 = .ok (.getfield 57, 3) := by decide +kernel
theorem dX6_look_9 : decode cX6_look 9 = .ok (.if_icmp .ge 13, 3) := by decide +kernel
theorem dX6_look_12 : decode cX6_look 12 = .ok (.iload_n 2, 1) := by decide +kernel
theorem dX6_look_13 : decode cX6_look 13 = .ok (.ifCond .lt 9, 3) := by decide +kernel
theorem dX6_look_16 : decode cX6_look 16 = .ok (.iload_n 2, 1) := by decide +kernel
theorem dX6_look_17 : decode cX6_look 17 = .ok (.bipush 7, 2) := by decide +kernel
theorem dX6_look_19 : decode cX6_look 19 = .ok (.if_icmp .le 7, 3) := by decide +kernel
theorem dX6_look_22 : decode cX6_look 22 = .ok (.sipush (-1000), 3) := by decide +kernel
theorem dX6_look_25 : decode cX6_look 25 = .ok (.ireturn, 1) := by decide +kernel
theorem dX6_look_26 : decode cX6_look 26 = .ok (.iload_n 2, 1) := by decide +kernel
theorem dX6_look_27 : decode cX6_look 27 = .ok (.iconst 4, 1) := by decide +kernel
theorem dX6_look_28 : decode cX6_look 28 = .ok (.if_icmp .ge 14, 3) := by decide +kernel
theorem dX6_look_31 : decode cX6_look 31 = .ok (.aload_n 0, 1) := by decide +kernel
theorem dX6_look_32 : decode cX6_look 32 = .ok (.getfield 23, 3) := by decide +kernel
theorem dX6_look_35 : decode cX6_look 35 = .ok (.iconst 4, 1) := by decide +kernel
theorem dX6_look_36 : decode cX6_look 36 = .ok (.iload_n 1, 1) := by decide +kernel
theorem dX6_look_37 : decode cX6_look 37 = .ok (.imul, 1) := by decide +kernel
theorem dX6_look_38 : decode cX6_look 38 = .ok (.iload_n 2, 1) := by decide +kernel
theorem dX6_look_39 : decode cX6_look 39 = .ok (.iadd, 1) := by decide +kernel
theorem dX6_look_40 : decode cX6_look 40 = .ok (.iaload, 1) := by decide +kernel
theorem dX6_look_41 : decode cX6_look 41 = .ok (.ireturn, 1) := by decide +kernel
theorem dX6_look_42 : decode cX6_look 42 = .ok (.iload_n 2, 1) := by decide +kernel
theorem dX6_look_43 : decode cX6_look 43 = .ok (.iconst 4, 1) := by decide +kernel
theorem dX6_look_44 : decode cX6_look 44 = .ok (.if_icmp .ne 12, 3) := by decide +kernel
theorem dX6_look_47 : decode cX6_look 47 = .ok (.aload_n 0, 1) := by decide +kernel
theorem dX6_look_48 : decode cX6_look 48 = .ok (.getfield 20, 3) := by decide +kernel
theorem dX6_look_51 : decode cX6_look 51 = .ok (.iload_n 1, 1) := by decide +kernel
theorem dX6_look_52 : decode cX6_look 52 = .ok (.iaload, 1) := by decide +kernel
theorem dX6_look_53 : decode cX6_look 53 = .ok (.goto 40, 3) := by decide +kernel
theorem dX6_look_56 : decode cX6_look 56 = .ok (.iload_n 2, 1) := by decide +kernel
theorem dX6_look_57 : decode cX6_look 57 = .ok (.iconst 5, 1) := by decide +kernel
theorem dX6_look_58 : decode cX6_look 58 = .ok (.if_icmp .ne 11, 3) := by decide +kernel
theorem dX6_look_61 : decode cX6_look 61 = .ok (.aload_n 0, 1) := by decide +kernel
theorem dX6_look_62 : decode cX6_look 62 = .ok (.iload_n 1, 1) := by decide +kernel
theorem dX6_look_63 : decode cX6_look 63 = .ok (.invokevirtual 168, 3) := by decide +kernel
theorem dX6_look_66 : decode cX6_look 66 = .ok (.goto 27, 3) := by decide +kernel
theorem dX6_look_69 : decode cX6_look 69 = .ok (.aload_n 0, 1) := by decide +kernel
theorem dX6_look_70 : decode cX6_look 70 = .ok (.aload_n 0, 1) := by decide +kernel
theorem dX6_look_71 : decode cX6_look 71 = .ok (.getfield 23, 3) := by decide +kernel
theorem dX6_look_74 : decode cX6_look 74 = .ok (.iconst 4, 1) := by decide +kernel
theorem dX6_look_75 : decode cX6_look 75 = .ok (.iload_n 1, 1) := by decide +kernel
theorem dX6_look_76 : decode cX6_look 76 = .ok (.imul, 1) := by decide +kernel
theorem dX6_look_77 : decode cX6_look 77 = .ok (.iload_n 2, 1) := by decide +kernel
theorem dX6_look_78 : decode cX6_look 78 = .ok (.bipush 6, 2) := by decide +kernel
theorem dX6_look_80 : decode cX6_look 80 = .ok (.if_icmp .ne 7, 3) := by decide +kernel
theorem dX6_look_83 : decode cX6_look 83 = .ok (.iconst 0, 1) := by decide +kernel
theorem dX6_look_84 : decode cX6_look 84 = .ok (.goto 4, 3) := by decide +kernel
theorem dX6_look_87 : decode cX6_look 87 = .ok (.iconst 1, 1) := by decide +kernel
theorem dX6_look_88 : decode cX6_look 88 = .ok (.iadd, 1) := by decide +kernel
theorem dX6_look_89 : decode cX6_look 89 = .ok (.iaload, 1) := by decide +kernel
theorem dX6_look_90 : decode cX6_look 90 = .ok (.invokevirtual 171, 3) := by decide +kernel
theorem dX6_look_93 : decode cX6_look 93 = .ok (.ireturn, 1) := by decide +kernel
set_option maxRecDepth 20000 in
theorem ggX6_edge_X6_placeOf : GoodIn wsX6_edge wsX6_placeOf := goodIn_r _ [5, 6, 7, 8, 9, 10, 4, 11, 12, 61, 62, 63, 64, 65, 66, 67, 68, 69, 70, 71, 72, 73, 74, 75, 76, 77, 78, 79, 80, 81, 82, 83] (by decide +kernel) (by decide +kernel)
set_option maxRecDepth 20000 in
theorem gX6_edge_X6_placeOf : GoodIn wsX6_edge (wsV RX6 64 RX6 yX6_placeOf wsX6_placeOf) := goodIn_app (goodIn_of _ (by decide +kernel)) ggX6_edge_X6_placeOf
set_option maxRecDepth 20000 in
theorem ggX6_edge_X6_next : GoodIn wsX6_edge wsX6_next := goodIn_r _ [16, 7, 1, 2, 3, 4, 5, 6, 8, 9, 10, 11, 12, 17, 18, 19, 61, 62, 63, 64, 65, 66, 67, 68, 69, 70, 71, 72, 73, 74, 75, 76, 77, 78, 79, 80, 81, 82, 83] (by decide +kernel) (by decide +kernel)
set_option maxRecDepth 20000 in
theorem gX6_edge_X6_next : GoodIn wsX6_edge (wsV RX6 81 RX6 yX6_next wsX6_next) := goodIn_app (goodIn_of _ (by decide +kernel)) ggX6_edge_X6_next
set_option maxRecDepth 20000 in
theorem ggX6_edge_X6_componentOf : GoodIn wsX6_edge wsX6_componentOf := goodIn_r _ [23, 24, 25, 26, 27, 4, 28, 29, 30, 31, 32, 33, 34, 35, 6, 7, 1, 2, 3, 5, 8, 9, 10, 11, 12, 13, 14, 15, 16, 17, 18, 19, 61, 62, 63, 64, 65, 66, 67, 68, 69, 70, 71, 72, 73, 74, 75, 76, 77, 78, 79, 80, 81, 82, 83] (by decide +kernel) (by decide +kernel)
set_option maxRecDepth 20000 in
theorem gX6_edge_X6_componentOf : GoodIn wsX6_edge (wsV RX6 171 RX6 yX6_componentOf wsX6_componentOf) := goodIn_app (goodIn_of _ (by decide +kernel)) ggX6_edge_X6_componentOf
set_option maxRecDepth 20000 in
theorem ggX6_edge_X6_faceAt : GoodIn wsX6_edge wsX6_faceAt := goodIn_r _ [39, 40, 41, 42, 43, 4, 44, 45, 30, 31, 32, 33, 34, 35, 6, 7, 46, 47, 48, 49, 50, 51, 52, 53, 1, 2, 3, 5, 8, 9, 10, 11, 12, 61, 62, 63, 64, 65, 66, 67, 68, 69, 70, 71, 72, 73, 74, 75, 76, 77, 78, 79, 80, 81, 82, 83] (by decide +kernel) (by decide +kernel)
set_option maxRecDepth 20000 in
theorem gX6_edge_X6_faceAt : GoodIn wsX6_edge (wsV RX6 174 RX6 yX6_faceAt wsX6_faceAt) := goodIn_app (goodIn_of _ (by decide +kernel)) ggX6_edge_X6_faceAt
set_option maxRecDepth 20000 in
theorem ggX6_edge_X6_arcOf : GoodIn wsX6_edge wsX6_arcOf := goodIn_r _ [57, 7, 1, 2, 3, 4, 5, 6, 8, 9, 10, 11, 12, 58, 59, 60, 17, 18, 19, 13, 14, 15, 16, 61, 62, 63, 64, 65, 66, 67, 68, 69, 70, 71, 72, 73, 74, 75, 76, 77, 78, 79, 80, 81, 82, 83] (by decide +kernel) (by decide +kernel)
set_option maxRecDepth 20000 in
theorem gX6_edge_X6_arcOf : GoodIn wsX6_edge (wsV RX6 137 RX6 yX6_arcOf wsX6_arcOf) := goodIn_app (goodIn_of _ (by decide +kernel)) ggX6_edge_X6_arcOf
theorem dX6_edge_0 : decode cX6_edge 0 = .ok (.iload_n 1, 1) := by decide +kernel
theorem dX6_edge_1 : decode cX6_edge 1 = .ok (.ifCond .le 12, 3) := by decide +kernel
theorem dX6_edge_4 : decode cX6_edge 4 = .ok (.aload_n 0, 1) := by decide +kernel
theorem dX6_edge_5 : decode cX6_edge 5 = .ok (.iload_n 1, 1) := by decide +kernel
theorem dX6_edge_6 : decode cX6_edge 6 = .ok (.iconst 1, 1) := by decide +kernel
theorem dX6_edge_7 : decode cX6_edge 7 = .ok (.invokevirtual 64, 3) := by decide +kernel
theorem dX6_edge_10 : decode cX6_edge 10 = .ok (.goto 4, 3) := by decide +kernel
theorem dX6_edge_13 : decode cX6_edge 13 = .ok (.iconst (-1), 1) := by decide +kernel
theorem dX6_edge_14 : decode cX6_edge 14 = .ok (.istore_n 3, 1) := by decide +kernel
theorem dX6_edge_15 : decode cX6_edge 15 = .ok (.iload_n 3, 1) := by decide +kernel
theorem dX6_edge_16 : decode cX6_edge 16 = .ok (.ifCond .lt 13, 3) := by decide +kernel
theorem dX6_edge_19 : decode cX6_edge 19 = .ok (.iload_n 2, 1) := by decide +kernel
theorem dX6_edge_20 : decode cX6_edge 20 = .ok (.ifCond .lt 9, 3) := by decide +kernel
theorem dX6_edge_23 : decode cX6_edge 23 = .ok (.iload_n 2, 1) := by decide +kernel
theorem dX6_edge_24 : decode cX6_edge 24 = .ok (.bipush 8, 2) := by decide +kernel
theorem dX6_edge_26 : decode cX6_edge 26 = .ok (.if_icmp .le 5, 3) := by decide +kernel
theorem dX6_edge_29 : decode cX6_edge 29 = .ok (.iconst (-1), 1) := by decide +kernel
theorem dX6_edge_30 : decode cX6_edge 30 = .ok (.ireturn, 1) := by decide +kernel
theorem dX6_edge_31 : decode cX6_edge 31 = .ok (.aload_n 0, 1) := by decide +kernel
theorem dX6_edge_32 : decode cX6_edge 32 = .ok (.iload_n 1, 1) := by decide +kernel
theorem dX6_edge_33 : decode cX6_edge 33 = .ok (.iconst 0, 1) := by decide +kernel
theorem dX6_edge_34 : decode cX6_edge 34 = .ok (.invokevirtual 64, 3) := by decide +kernel
theorem dX6_edge_37 : decode cX6_edge 37 = .ok (.istore 4, 2) := by decide +kernel
theorem dX6_edge_39 : decode cX6_edge 39 = .ok (.iload_n 2, 1) := by decide +kernel
theorem dX6_edge_40 : decode cX6_edge 40 = .ok (.tableswitch 92 0 7 #[48, 52, 56, 61, 66, 72, 78, 85], 48) := by decide +kernel
theorem dX6_edge_88 : decode cX6_edge 88 = .ok (.iload_n 3, 1) := by decide +kernel
theorem dX6_edge_89 : decode cX6_edge 89 = .ok (.iconst 4, 1) := by decide +kernel
theorem dX6_edge_90 : decode cX6_edge 90 = .ok (.idiv, 1) := by decide +kernel
theorem dX6_edge_91 : decode cX6_edge 91 = .ok (.ireturn, 1) := by decide +kernel
theorem dX6_edge_92 : decode cX6_edge 92 = .ok (.iload_n 3, 1) := by decide +kernel
theorem dX6_edge_93 : decode cX6_edge 93 = .ok (.iconst 4, 1) := by decide +kernel
theorem dX6_edge_94 : decode cX6_edge 94 = .ok (.irem, 1) := by decide +kernel
theorem dX6_edge_95 : decode cX6_edge 95 = .ok (.ireturn, 1) := by decide +kernel
theorem dX6_edge_96 : decode cX6_edge 96 = .ok (.iload 4, 2) := by decide +kernel
theorem dX6_edge_98 : decode cX6_edge 98 = .ok (.iconst 4, 1) := by decide +kernel
theorem dX6_edge_99 : decode cX6_edge 99 = .ok (.idiv, 1) := by decide +kernel
theorem dX6_edge_100 : decode cX6_edge 100 = .ok (.ireturn, 1) := by decide +kernel
theorem dX6_edge_101 : decode cX6_edge 101 = .ok (.iload 4, 2) := by decide +kernel
theorem dX6_edge_103 : decode cX6_edge 103 = .ok (.iconst 4, 1) := by decide +kernel
theorem dX6_edge_104 : decode cX6_edge 104 = .ok (.irem, 1) := by decide +kernel
theorem dX6_edge_105 : decode cX6_edge 105 = .ok (.ireturn, 1) := by decide +kernel
theorem dX6_edge_106 : decode cX6_edge 106 = .ok (.aload_n 0, 1) := by decide +kernel
theorem dX6_edge_107 : decode cX6_edge 107 = .ok (.iload_n 1, 1) := by decide +kernel
theorem dX6_edge_108 : decode cX6_edge 108 = .ok (.invokevirtual 81, 3) := by decide +kernel
theorem dX6_edge_111 : decode cX6_edge 111 = .ok (.ireturn, 1) := by decide +kernel
theorem dX6_edge_112 : decode cX6_edge 112 = .ok (.aload_n 0, 1) := by decide +kernel
theorem dX6_edge_113 : decode cX6_edge 113 = .ok (.iload_n 1, 1) := by decide +kernel
theorem dX6_edge_114 : decode cX6_edge 114 = .ok (.invokevirtual 171, 3) := by decide +kernel
theorem dX6_edge_117 : decode cX6_edge 117 = .ok (.ireturn, 1) := by decide +kernel
theorem dX6_edge_118 : decode cX6_edge 118 = .ok (.aload_n 0, 1) := by decide +kernel
theorem dX6_edge_119 : decode cX6_edge 119 = .ok (.iload_n 1, 1) := by decide +kernel
theorem dX6_edge_120 : decode cX6_edge 120 = .ok (.iconst 0, 1) := by decide +kernel
theorem dX6_edge_121 : decode cX6_edge 121 = .ok (.invokevirtual 174, 3) := by decide +kernel
theorem dX6_edge_124 : decode cX6_edge 124 = .ok (.ireturn, 1) := by decide +kernel
theorem dX6_edge_125 : decode cX6_edge 125 = .ok (.aload_n 0, 1) := by decide +kernel
theorem dX6_edge_126 : decode cX6_edge 126 = .ok (.iload_n 1, 1) := by decide +kernel
theorem dX6_edge_127 : decode cX6_edge 127 = .ok (.iconst 1, 1) := by decide +kernel
theorem dX6_edge_128 : decode cX6_edge 128 = .ok (.invokevirtual 174, 3) := by decide +kernel
theorem dX6_edge_131 : decode cX6_edge 131 = .ok (.ireturn, 1) := by decide +kernel
theorem dX6_edge_132 : decode cX6_edge 132 = .ok (.aload_n 0, 1) := by decide +kernel
theorem dX6_edge_133 : decode cX6_edge 133 = .ok (.iload_n 1, 1) := by decide +kernel
theorem dX6_edge_134 : decode cX6_edge 134 = .ok (.invokevirtual 137, 3) := by decide +kernel
theorem dX6_edge_137 : decode cX6_edge 137 = .ok (.ireturn, 1) := by decide +kernel
set_option maxRecDepth 20000 in
theorem ggX6_faceAt_X6_findFaces : GoodIn wsX6_faceAt wsX6_findFaces := goodIn_r _ [6, 1, 7, 8, 9, 10, 11, 12, 5, 13, 14, 15, 16, 17, 18, 19, 20, 21, 22, 23, 24, 25, 26, 27, 28, 29, 30, 31, 32, 33, 34, 35, 36, 37, 38, 39, 40, 41, 42, 43, 44, 45, 46, 47, 48, 49, 50, 51, 52, 53, 54, 55] (by decide +kernel) (by decide +kernel)
set_option maxRecDepth 20000 in
theorem gX6_faceAt_X6_findFaces : GoodIn wsX6_faceAt (wsV RX6 111 RX6 yX6_findFaces wsX6_findFaces) := goodIn_app (goodIn_of _ (by decide +kernel)) ggX6_faceAt_X6_findFaces
set_option maxRecDepth 20000 in
theorem ggX6_faceAt_X6_rowOf : GoodIn wsX6_faceAt wsX6_rowOf := goodIn_r _ [19, 9, 33, 34, 35, 36, 37, 38, 39, 40, 41, 42, 43, 44, 45, 46, 47, 48, 49, 50, 51, 52, 53, 54, 55] (by decide +kernel) (by decide +kernel)
set_option maxRecDepth 20000 in
theorem gX6_faceAt_X6_rowOf : GoodIn wsX6_faceAt (wsV RX6 93 RX6 yX6_rowOf wsX6_rowOf) := goodIn_app (goodIn_of _ (by decide +kernel)) ggX6_faceAt_X6_rowOf
theorem dX6_faceAt_0 : decode cX6_faceAt 0 = .ok (.aload_n 0, 1) := by decide +kernel
theorem dX6_faceAt_1 : decode cX6_faceAt 1 = .ok (.invokevirtual 111, 3) := by decide +kernel
theorem dX6_faceAt_4 : decode cX6_faceAt 4 = .ok (.aload_n 0, 1) := by decide +kernel
theorem dX6_faceAt_5 : decode cX6_faceAt 5 = .ok (.getfield 51, 3) := by decide +kernel
theorem dX6_faceAt_8 : decode cX6_faceAt 8 = .ok (.iconst 2, 1) := by decide +kernel
theorem dX6_faceAt_9 : decode cX6_faceAt 9 = .ok (.aload_n 0, 1) := by decide +kernel
theorem dX6_faceAt_10 : decode cX6_faceAt 10 = .ok (.iload_n 1, 1) := by decide +kernel
theorem dX6_faceAt_11 : decode cX6_faceAt 11 = .ok (.invokevirtual 93, 3) := by decide +kernel
theorem dX6_faceAt_14 : decode cX6_faceAt 14 = .ok (.imul, 1) := by decide +kernel
theorem dX6_faceAt_15 : decode cX6_faceAt 15 = .ok (.iload_n 2, 1) := by decide +kernel
theorem dX6_faceAt_16 : decode cX6_faceAt 16 = .ok (.iadd, 1) := by decide +kernel
theorem dX6_faceAt_17 : decode cX6_faceAt 17 = .ok (.iaload, 1) := by decide +kernel
theorem dX6_faceAt_18 : decode cX6_faceAt 18 = .ok (.ireturn, 1) := by decide +kernel
set_option maxRecDepth 20000 in
theorem ggX6_allFaces_X6_findFaces : GoodIn wsX6_allFaces wsX6_findFaces := goodIn_r _ [6, 7, 1, 8, 9, 10, 11, 12, 5, 13, 14, 15, 16, 17, 18, 19, 20, 21, 22, 23, 24, 25, 26, 27, 28, 29, 30, 31, 32, 33, 34, 35, 36, 37, 38, 39, 40, 41, 42, 43, 44, 45, 46, 47, 48, 49, 50, 51, 52, 53, 54, 55] (by decide +kernel) (by decide +kernel)
set_option maxRecDepth 20000 in
theorem gX6_allFaces_X6_findFaces : GoodIn wsX6_allFaces (wsV RX6 111 RX6 yX6_findFaces wsX6_findFaces) := goodIn_app (goodIn_of _ (by decide +kernel)) ggX6_allFaces_X6_findFaces
theorem dX6_allFaces_0 : decode cX6_allFaces 0 = .ok (.aload_n 0, 1) := by decide +kernel
theorem dX6_allFaces_1 : decode cX6_allFaces 1 = .ok (.invokevirtual 111, 3) := by decide +kernel
theorem dX6_allFaces_4 : decode cX6_allFaces 4 = .ok (.aload_n 0, 1) := by decide +kernel
theorem dX6_allFaces_5 : decode cX6_allFaces 5 = .ok (.getfield 90, 3) := by decide +kernel
theorem dX6_allFaces_8 : decode cX6_allFaces 8 = .ok (.ireturn, 1) := by decide +kernel
set_option maxRecDepth 20000 in
theorem ggX6_allComponents_X6_components : GoodIn wsX6_allComponents wsX6_components := goodIn_r _ [7, 8, 1, 9, 10, 11, 12, 13, 6, 14, 15, 16, 17, 18, 19, 20, 21, 22, 23, 24, 25, 26, 27, 28, 29, 30, 31, 32, 33, 34, 35, 36, 37, 38, 39, 40, 41, 42, 43, 44, 45, 46, 47, 48, 49, 50, 51, 52, 53, 54, 55] (by decide +kernel) (by decide +kernel)
set_option maxRecDepth 20000 in
theorem gX6_allComponents_X6_components : GoodIn wsX6_allComponents (wsV RX6 84 RX6 yX6_components wsX6_components) := goodIn_app (goodIn_of _ (by decide +kernel)) ggX6_allComponents_X6_components
theorem dX6_allComponents_0 : decode cX6_allComponents 0 = .ok (.aload_n 0, 1) := by decide +kernel
theorem dX6_allComponents_1 : decode cX6_allComponents 1 = .ok (.invokevirtual 84, 3) := by decide +kernel
theorem dX6_allComponents_4 : decode cX6_allComponents 4 = .ok (.aload_n 0, 1) := by decide +kernel
theorem dX6_allComponents_5 : decode cX6_allComponents 5 = .ok (.getfield 75, 3) := by decide +kernel
theorem dX6_allComponents_8 : decode cX6_allComponents 8 = .ok (.aload_n 0, 1) := by decide +kernel
theorem dX6_allComponents_9 : decode cX6_allComponents 9 = .ok (.getfield 105, 3) := by decide +kernel
theorem dX6_allComponents_12 : decode cX6_allComponents 12 = .ok (.iadd, 1) := by decide +kernel
theorem dX6_allComponents_13 : decode cX6_allComponents 13 = .ok (.ireturn, 1) := by decide +kernel
theorem dX6_together_0 : decode cX6_together 0 = .ok (.iconst 0, 1) := by decide +kernel
theorem dX6_together_1 : decode cX6_together 1 = .ok (.istore_n 3, 1) := by decide +kernel
theorem dX6_together_2 : decode cX6_together 2 = .ok (.iconst 0, 1) := by decide +kernel
theorem dX6_together_3 : decode cX6_together 3 = .ok (.istore 4, 2) := by decide +kernel
theorem dX6_together_5 : decode cX6_together 5 = .ok (.iload 4, 2) := by decide +kernel
theorem dX6_together_7 : decode cX6_together 7 = .ok (.aload_n 0, 1) := by decide +kernel
theorem dX6_together_8 : decode cX6_together 8 = .ok (.getfield 57, 3) := by decide +kernel
theorem dX6_together_11 : decode cX6_together 11 = .ok (.if_icmp .ge 71, 3) := by decide +kernel
theorem dX6_together_14 : decode cX6_together 14 = .ok (.aload_n 0, 1) := by decide +kernel
theorem dX6_together_15 : decode cX6_together 15 = .ok (.getfield 48, 3) := by decide +kernel
theorem dX6_together_18 : decode cX6_together 18 = .ok (.iconst 4, 1) := by decide +kernel
theorem dX6_together_19 : decode cX6_together 19 = .ok (.iload 4, 2) := by decide +kernel
theorem dX6_together_21 : decode cX6_together 21 = .ok (.imul, 1) := by decide +kernel
theorem dX6_together_22 : decode cX6_together 22 = .ok (.iaload, 1) := by decide +kernel
theorem dX6_together_23 : decode cX6_together 23 = .ok (.istore 5, 2) := by decide +kernel
theorem dX6_together_25 : decode cX6_together 25 = .ok (.aload_n 0, 1) := by decide +kernel
theorem dX6_together_26 : decode cX6_together 26 = .ok (.getfield 48, 3) := by decide +kernel
theorem dX6_together_29 : decode cX6_together 29 = .ok (.iconst 4, 1) := by decide +kernel
theorem dX6_together_30 : decode cX6_together 30 = .ok (.iload 4, 2) := by decide +kernel
theorem dX6_together_32 : decode cX6_together 32 = .ok (.imul, 1) := by decide +kernel
theorem dX6_together_33 : decode cX6_together 33 = .ok (.iconst 1, 1) := by decide +kernel
theorem dX6_together_34 : decode cX6_together 34 = .ok (.iadd, 1) := by decide +kernel
theorem dX6_together_35 : decode cX6_together 35 = .ok (.iaload, 1) := by decide +kernel
theorem dX6_together_36 : decode cX6_together 36 = .ok (.istore 6, 2) := by decide +kernel
theorem dX6_together_38 : decode cX6_together 38 = .ok (.iload_n 3, 1) := by decide +kernel
theorem dX6_together_39 : decode cX6_together 39 = .ok (.iload 5, 2) := by decide +kernel
theorem dX6_together_41 : decode cX6_together 41 = .ok (.iload_n 1, 1) := by decide +kernel
theorem dX6_together_42 : decode cX6_together 42 = .ok (.if_icmp .ne 9, 3) := by decide +kernel
theorem dX6_together_45 : decode cX6_together 45 = .ok (.iload 6, 2) := by decide +kernel
theorem dX6_together_47 : decode cX6_together 47 = .ok (.iload_n 2, 1) := by decide +kernel
theorem dX6_together_48 : decode cX6_together 48 = .ok (.if_icmp .eq 15, 3) := by decide +kernel
theorem dX6_together_51 : decode cX6_together 51 = .ok (.iload 5, 2) := by decide +kernel
theorem dX6_together_53 : decode cX6_together 53 = .ok (.iload_n 2, 1) := by decide +kernel
theorem dX6_together_54 : decode cX6_together 54 = .ok (.if_icmp .ne 19, 3) := by decide +kernel
theorem dX6_together_57 : decode cX6_together 57 = .ok (.iload 6, 2) := by decide +kernel
theorem dX6_together_59 : decode cX6_together 59 = .ok (.iload_n 1, 1) := by decide +kernel
theorem dX6_together_60 : decode cX6_together 60 = .ok (.if_icmp .ne 13, 3) := by decide +kernel
theorem dX6_together_63 : decode cX6_together 63 = .ok (.aload_n 0, 1) := by decide +kernel
theorem dX6_together_64 : decode cX6_together 64 = .ok (.getfield 20, 3) := by decide +kernel
theorem dX6_together_67 : decode cX6_together 67 = .ok (.iload 4, 2) := by decide +kernel
theorem dX6_together_69 : decode cX6_together 69 = .ok (.iaload, 1) := by decide +kernel
theorem dX6_together_70 : decode cX6_together 70 = .ok (.goto 4, 3) := by decide +kernel
theorem dX6_together_73 : decode cX6_together 73 = .ok (.iconst 0, 1) := by decide +kernel
theorem dX6_together_74 : decode cX6_together 74 = .ok (.iadd, 1) := by decide +kernel
theorem dX6_together_75 : decode cX6_together 75 = .ok (.istore_n 3, 1) := by decide +kernel
theorem dX6_together_76 : decode cX6_together 76 = .ok (.iinc 4 1, 3) := by decide +kernel
theorem dX6_together_79 : decode cX6_together 79 = .ok (.goto (-74), 3) := by decide +kernel
theorem dX6_together_82 : decode cX6_together 82 = .ok (.iload_n 3, 1) := by decide +kernel
theorem dX6_together_83 : decode cX6_together 83 = .ok (.ireturn, 1) := by decide +kernel
set_option maxRecDepth 20000 in
theorem ggX6_edgesOf_X6_next : GoodIn wsX6_edgesOf wsX6_next := goodIn_r _ [5, 6, 7, 8, 9, 4, 10, 11, 12, 13, 14, 15, 16, 17, 18, 19, 20, 21, 22, 23, 24, 25, 26, 27, 28, 29, 30, 31, 32, 33, 34, 35, 36, 37, 38, 39, 40, 41, 42] (by decide +kernel) (by decide +kernel)
set_option maxRecDepth 20000 in
theorem gX6_edgesOf_X6_next : GoodIn wsX6_edgesOf (wsV RX6 81 RX6 yX6_next wsX6_next) := goodIn_app (goodIn_of _ (by decide +kernel)) ggX6_edgesOf_X6_next
theorem dX6_edgesOf_0 : decode cX6_edgesOf 0 = .ok (.iconst 1, 1) := by decide +kernel
theorem dX6_edgesOf_1 : decode cX6_edgesOf 1 = .ok (.istore_n 2, 1) := by decide +kernel
theorem dX6_edgesOf_2 : decode cX6_edgesOf 2 = .ok (.aload_n 0, 1) := by decide +kernel
theorem dX6_edgesOf_3 : decode cX6_edgesOf 3 = .ok (.iload_n 1, 1) := by decide +kernel
theorem dX6_edgesOf_4 : decode cX6_edgesOf 4 = .ok (.invokevirtual 81, 3) := by decide +kernel
theorem dX6_edgesOf_7 : decode cX6_edgesOf 7 = .ok (.istore_n 3, 1) := by decide +kernel
theorem dX6_edgesOf_8 : decode cX6_edgesOf 8 = .ok (.iload_n 3, 1) := by decide +kernel
theorem dX6_edgesOf_9 : decode cX6_edgesOf 9 = .ok (.iload_n 1, 1) := by decide +kernel
theorem dX6_edgesOf_10 : decode cX6_edgesOf 10 = .ok (.if_icmp .eq 15, 3) := by decide +kernel
theorem dX6_edgesOf_13 : decode cX6_edgesOf 13 = .ok (.iinc 2 1, 3) := by decide +kernel
theorem dX6_edgesOf_16 : decode cX6_edgesOf 16 = .ok (.aload_n 0, 1) := by decide +kernel
theorem dX6_edgesOf_17 : decode cX6_edgesOf 17 = .ok (.iload_n 3, 1) := by decide +kernel
theorem dX6_edgesOf_18 : decode cX6_edgesOf 18 = .ok (.invokevirtual 81, 3) := by decide +kernel
theorem dX6_edgesOf_21 : decode cX6_edgesOf 21 = .ok (.istore_n 3, 1) := by decide +kernel
theorem dX6_edgesOf_22 : decode cX6_edgesOf 22 = .ok (.goto (-14), 3) := by decide +kernel
theorem dX6_edgesOf_25 : decode cX6_edgesOf 25 = .ok (.iload_n 2, 1) := by decide +kernel
theorem dX6_edgesOf_26 : decode cX6_edgesOf 26 = .ok (.ireturn, 1) := by decide +kernel
set_option maxRecDepth 20000 in
theorem ggX6_component_X6_components : GoodIn wsX6_component wsX6_components := goodIn_r _ [7, 8, 1, 9, 10, 11, 12, 13, 6, 14, 15, 16, 17, 18, 19, 20, 21, 22, 23, 24, 25, 26, 27, 28, 29, 30, 31, 32, 58, 59, 60, 61, 62, 63, 64, 65, 66, 67, 68, 69, 70, 71, 72, 73, 74, 75, 76, 77, 78, 79, 80] (by decide +kernel) (by decide +kernel)
set_option maxRecDepth 20000 in
theorem gX6_component_X6_components : GoodIn wsX6_component (wsV RX6 84 RX6 yX6_components wsX6_components) := goodIn_app (goodIn_of _ (by decide +kernel)) ggX6_component_X6_components
set_option maxRecDepth 20000 in
theorem ggX6_component_X6_together : GoodIn wsX6_component wsX6_together := goodIn_r _ [36, 15, 8, 25, 58, 59, 60, 61, 62, 63, 64, 65, 66, 67, 68, 69, 70, 71, 72, 73, 74, 75, 76, 77, 78, 79, 80] (by decide +kernel) (by decide +kernel)
set_option maxRecDepth 20000 in
theorem gX6_component_X6_together : GoodIn wsX6_component (wsV RX6 178 RX6 yX6_together wsX6_together) := goodIn_app (goodIn_of _ (by decide +kernel)) ggX6_component_X6_together
set_option maxRecDepth 20000 in
theorem ggX6_component_X6_beginning : GoodIn wsX6_component wsX6_beginning := goodIn_r _ [40, 9, 8, 10, 3, 4, 5, 6, 7, 1, 11, 12, 13, 14, 15, 16, 17, 18, 19, 20, 21, 22, 23, 24, 25, 26, 27, 28, 29, 30, 31, 32, 58, 59, 60, 61, 62, 63, 64, 65, 66, 67, 68, 69, 70, 71, 72, 73, 74, 75, 76, 77, 78, 79, 80] (by decide +kernel) (by decide +kernel)
set_option maxRecDepth 20000 in
theorem gX6_component_X6_beginning : GoodIn wsX6_component (wsV RX6 181 RX6 yX6_beginning wsX6_beginning) := goodIn_app (goodIn_of _ (by decide +kernel)) ggX6_component_X6_beginning
set_option maxRecDepth 20000 in
theorem ggX6_component_X6_edgesOf : GoodIn wsX6_component wsX6_edgesOf := goodIn_r _ [44, 26, 27, 28, 6, 29, 16, 17, 18, 19, 20, 15, 21, 22, 23, 24, 25, 30, 31, 32, 58, 59, 60, 61, 62, 63, 64, 65, 66, 67, 68, 69, 70, 71, 72, 73, 74, 75, 76, 77, 78, 79, 80] (by decide +kernel) (by decide +kernel)
set_option maxRecDepth 20000 in
theorem gX6_component_X6_edgesOf : GoodIn wsX6_component (wsV RX6 184 RX6 yX6_edgesOf wsX6_edgesOf) := goodIn_app (goodIn_of _ (by decide +kernel)) ggX6_component_X6_edgesOf
set_option maxRecDepth 20000 in
theorem ggX6_component_X6_pieces : GoodIn wsX6_component wsX6_pieces := goodIn_r _ [48, 15, 49, 50, 51, 52, 6, 53, 16, 58, 59, 60, 61, 62, 63, 64, 65, 66, 67, 68, 69, 70, 71, 72, 73, 74, 75, 76, 77, 78, 79, 80] (by decide +kernel) (by decide +kernel)
set_option maxRecDepth 20000 in
theorem gX6_component_X6_pieces : GoodIn wsX6_component (wsV RX6 149 RX6 yX6_pieces wsX6_pieces) := goodIn_app (goodIn_of _ (by decide +kernel)) ggX6_component_X6_pieces
set_option maxRecDepth 20000 in
theorem ggX6_component_X6_placeOf : GoodIn wsX6_component wsX6_placeOf := goodIn_r _ [20, 15, 16, 21, 22, 23, 6, 24, 25, 58, 59, 60, 61, 62, 63, 64, 65, 66, 67, 68, 69, 70, 71, 72, 73, 74, 75, 76, 77, 78, 79, 80] (by decide +kernel) (by decide +kernel)
set_option maxRecDepth 20000 in
theorem gX6_component_X6_placeOf : GoodIn wsX6_component (wsV RX6 64 RX6 yX6_placeOf wsX6_placeOf) := goodIn_app (goodIn_of _ (by decide +kernel)) ggX6_component_X6_placeOf
set_option maxRecDepth 20000 in
theorem ggX6_component_X6_pieceOf : GoodIn wsX6_component wsX6_pieceOf := goodIn_r _ [57, 49, 50, 51, 52, 6, 53, 15, 16, 58, 59, 60, 61, 62, 63, 64, 65, 66, 67, 68, 69, 70, 71, 72, 73, 74, 75, 76, 77, 78, 79, 80] (by decide +kernel) (by decide +kernel)
set_option maxRecDepth 20000 in
theorem gX6_component_X6_pieceOf : GoodIn wsX6_component (wsV RX6 168 RX6 yX6_pieceOf wsX6_pieceOf) := goodIn_app (goodIn_of _ (by decide +kernel)) ggX6_component_X6_pieceOf
theorem dX6_component_0 : decode cX6_component 0 = .ok (.aload_n 0, 1) := by decide +kernel
theorem dX6_component_1 : decode cX6_component 1 = .ok (.invokevirtual 84, 3) := by decide +kernel
theorem dX6_component_4 : decode cX6_component 4 = .ok (.aload_n 0, 1) := by decide +kernel
theorem dX6_component_5 : decode cX6_component 5 = .ok (.getfield 75, 3) := by decide +kernel
theorem dX6_component_8 : decode cX6_component 8 = .ok (.istore_n 3, 1) := by decide +kernel
theorem dX6_component_9 : decode cX6_component 9 = .ok (.iload_n 1, 1) := by decide +kernel
theorem dX6_component_10 : decode cX6_component 10 = .ok (.ifCond .lt 13, 3) := by decide +kernel
theorem dX6_component_13 : decode cX6_component 13 = .ok (.iload_n 1, 1) := by decide +kernel
theorem dX6_component_14 : decode cX6_component 14 = .ok (.iload_n 3, 1) := by decide +kernel
theorem dX6_component_15 : decode cX6_component 15 = .ok (.aload_n 0, 1) := by decide +kernel
theorem dX6_component_16 : decode cX6_component 16 = .ok (.getfield 105, 3) := by decide +kernel
theorem dX6_component_19 : decode cX6_component 19 = .ok (.iadd, 1) := by decide +kernel
theorem dX6_component_20 : decode cX6_component 20 = .ok (.if_icmp .lt 7, 3) := by decide +kernel
theorem dX6_component_23 : decode cX6_component 23 = .ok (.sipush (-1000), 3) := by decide +kernel
theorem dX6_component_26 : decode cX6_component 26 = .ok (.ireturn, 1) := by decide +kernel
theorem dX6_component_27 : decode cX6_component 27 = .ok (.iload_n 1, 1) := by decide +kernel
theorem dX6_component_28 : decode cX6_component 28 = .ok (.iload_n 3, 1) := by decide +kernel
theorem dX6_component_29 : decode cX6_component 29 = .ok (.if_icmp .lt 7, 3) := by decide +kernel
theorem dX6_component_32 : decode cX6_component 32 = .ok (.iconst 1, 1) := by decide +kernel
theorem dX6_component_33 : decode cX6_component 33 = .ok (.goto 4, 3) := by decide +kernel
theorem dX6_component_36 : decode cX6_component 36 = .ok (.iconst 0, 1) := by decide +kernel
theorem dX6_component_37 : decode cX6_component 37 = .ok (.istore 4, 2) := by decide +kernel
theorem dX6_component_39 : decode cX6_component 39 = .ok (.iload_n 2, 1) := by decide +kernel
theorem dX6_component_40 : decode cX6_component 40 = .ok (.bipush 10, 2) := by decide +kernel
theorem dX6_component_42 : decode cX6_component 42 = .ok (.if_icmp .lt 55, 3) := by decide +kernel
theorem dX6_component_45 : decode cX6_component 45 = .ok (.iload_n 2, 1) := by decide +kernel
theorem dX6_component_46 : decode cX6_component 46 = .ok (.bipush 10, 2) := by decide +kernel
theorem dX6_component_48 : decode cX6_component 48 = .ok (.isub, 1) := by decide +kernel
theorem dX6_component_49 : decode cX6_component 49 = .ok (.istore 5, 2) := by decide +kernel
theorem dX6_component_51 : decode cX6_component 51 = .ok (.iload 5, 2) := by decide +kernel
theorem dX6_component_53 : decode cX6_component 53 = .ok (.iload_n 3, 1) := by decide +kernel
theorem dX6_component_54 : decode cX6_component 54 = .ok (.aload_n 0, 1) := by decide +kernel
theorem dX6_component_55 : decode cX6_component 55 = .ok (.getfield 105, 3) := by decide +kernel
theorem dX6_component_58 : decode cX6_component 58 = .ok (.iadd, 1) := by decide +kernel
theorem dX6_component_59 : decode cX6_component 59 = .ok (.if_icmp .lt 7, 3) := by decide +kernel
theorem dX6_component_62 : decode cX6_component 62 = .ok (.sipush (-1000), 3) := by decide +kernel
theorem dX6_component_65 : decode cX6_component 65 = .ok (.ireturn, 1) := by decide +kernel
theorem dX6_component_66 : decode cX6_component 66 = .ok (.iload 4, 2) := by decide +kernel
theorem dX6_component_68 : decode cX6_component 68 = .ok (.ifCond .ne 15, 3) := by decide +kernel
theorem dX6_component_71 : decode cX6_component 71 = .ok (.iload 5, 2) := by decide +kernel
theorem dX6_component_73 : decode cX6_component 73 = .ok (.iload_n 3, 1) := by decide +kernel
theorem dX6_component_74 : decode cX6_component 74 = .ok (.if_icmp .ge 9, 3) := by decide +kernel
theorem dX6_component_77 : decode cX6_component 77 = .ok (.iload 5, 2) := by decide +kernel
theorem dX6_component_79 : decode cX6_component 79 = .ok (.iload_n 1, 1) := by decide +kernel
theorem dX6_component_80 : decode cX6_component 80 = .ok (.if_icmp .ne 7, 3) := by decide +kernel
theorem dX6_component_83 : decode cX6_component 83 = .ok (.iconst 0, 1) := by decide +kernel
theorem dX6_component_84 : decode cX6_component 84 = .ok (.goto 12, 3) := by decide +kernel
theorem dX6_component_87 : decode cX6_component 87 = .ok (.aload_n 0, 1) := by decide +kernel
theorem dX6_component_88 : decode cX6_component 88 = .ok (.iload_n 1, 1) := by decide +kernel
theorem dX6_component_89 : decode cX6_component 89 = .ok (.iload 5, 2) := by decide +kernel
theorem dX6_component_91 : decode cX6_component 91 = .ok (.invokevirtual 178, 3) := by decide +kernel
theorem dX6_component_94 : decode cX6_component 94 = .ok (.iconst 2, 1) := by decide +kernel
theorem dX6_component_95 : decode cX6_component 95 = .ok (.idiv, 1) := by decide +kernel
theorem dX6_component_96 : decode cX6_component 96 = .ok (.ireturn, 1) := by decide +kernel
theorem dX6_component_97 : decode cX6_component 97 = .ok (.iload 4, 2) := by decide +kernel
theorem dX6_component_99 : decode cX6_component 99 = .ok (.ifCond .eq 7, 3) := by decide +kernel
theorem dX6_component_102 : decode cX6_component 102 = .ok (.iconst 0, 1) := by decide +kernel
theorem dX6_component_103 : decode cX6_component 103 = .ok (.goto 8, 3) := by decide +kernel
theorem dX6_component_106 : decode cX6_component 106 = .ok (.aload_n 0, 1) := by decide +kernel
theorem dX6_component_107 : decode cX6_component 107 = .ok (.iload_n 1, 1) := by decide +kernel
theorem dX6_component_108 : decode cX6_component 108 = .ok (.invokevirtual 181, 3) := by decide +kernel
theorem dX6_component_111 : decode cX6_component 111 = .ok (.istore 5, 2) := by decide +kernel
theorem dX6_component_113 : decode cX6_component 113 = .ok (.iload_n 2, 1) := by decide +kernel
theorem dX6_component_114 : decode cX6_component 114 = .ok (.tableswitch 95 0 3 #[30, 33, 49, 65], 30) := by decide +kernel
theorem dX6_component_144 : decode cX6_component 144 = .ok (.iload 5, 2) := by decide +kernel
theorem dX6_component_146 : decode cX6_component 146 = .ok (.ireturn, 1) := by decide +kernel
theorem dX6_component_147 : decode cX6_component 147 = .ok (.iload 4, 2) := by decide +kernel
theorem dX6_component_149 : decode cX6_component 149 = .ok (.ifCond .eq 7, 3) := by decide +kernel
theorem dX6_component_152 : decode cX6_component 152 = .ok (.iconst 0, 1) := by decide +kernel
theorem dX6_component_153 : decode cX6_component 153 = .ok (.goto 9, 3) := by decide +kernel
theorem dX6_component_156 : decode cX6_component 156 = .ok (.aload_n 0, 1) := by decide +kernel
theorem dX6_component_157 : decode cX6_component 157 = .ok (.iload 5, 2) := by decide +kernel
theorem dX6_component_159 : decode cX6_component 159 = .ok (.invokevirtual 184, 3) := by decide +kernel
theorem dX6_component_162 : decode cX6_component 162 = .ok (.ireturn, 1) := by decide +kernel
theorem dX6_component_163 : decode cX6_component 163 = .ok (.iload 4, 2) := by decide +kernel
theorem dX6_component_165 : decode cX6_component 165 = .ok (.ifCond .eq 7, 3) := by decide +kernel
theorem dX6_component_168 : decode cX6_component 168 = .ok (.iconst 0, 1) := by decide +kernel
theorem dX6_component_169 : decode cX6_component 169 = .ok (.goto 9, 3) := by decide +kernel
theorem dX6_component_172 : decode cX6_component 172 = .ok (.aload_n 0, 1) := by decide +kernel
theorem dX6_component_173 : decode cX6_component 173 = .ok (.iload_n 1, 1) := by decide +kernel
theorem dX6_component_174 : decode cX6_component 174 = .ok (.iload_n 1, 1) := by decide +kernel
theorem dX6_component_175 : decode cX6_component 175 = .ok (.invokevirtual 178, 3) := by decide +kernel
theorem dX6_component_178 : decode cX6_component 178 = .ok (.ireturn, 1) := by decide +kernel
theorem dX6_component_179 : decode cX6_component 179 = .ok (.iload 4, 2) := by decide +kernel
theorem dX6_component_181 : decode cX6_component 181 = .ok (.ifCond .eq 14, 3) := by decide +kernel
theorem dX6_component_184 : decode cX6_component 184 = .ok (.aload_n 0, 1) := by decide +kernel
theorem dX6_component_185 : decode cX6_component 185 = .ok (.invokevirtual 149, 3) := by decide +kernel
theorem dX6_component_188 : decode cX6_component 188 = .ok (.iload_n 1, 1) := by decide +kernel
theorem dX6_component_189 : decode cX6_component 189 = .ok (.iadd, 1) := by decide +kernel
theorem dX6_component_190 : decode cX6_component 190 = .ok (.iload_n 3, 1) := by decide +kernel
theorem dX6_component_191 : decode cX6_component 191 = .ok (.isub, 1) := by decide +kernel
theorem dX6_component_192 : decode cX6_component 192 = .ok (.goto 16, 3) := by decide +kernel
theorem dX6_component_195 : decode cX6_component 195 = .ok (.aload_n 0, 1) := by decide +kernel
theorem dX6_component_196 : decode cX6_component 196 = .ok (.aload_n 0, 1) := by decide +kernel
theorem dX6_component_197 : decode cX6_component 197 = .ok (.iload 5, 2) := by decide +kernel
theorem dX6_component_199 : decode cX6_component 199 = .ok (.iconst 1, 1) := by decide +kernel
theorem dX6_component_200 : decode cX6_component 200 = .ok (.invokevirtual 64, 3) := by decide +kernel
theorem dX6_component_203 : decode cX6_component 203 = .ok (.iconst 4, 1) := by decide +kernel
theorem dX6_component_204 : decode cX6_component 204 = .ok (.idiv, 1) := by decide +kernel
theorem dX6_component_205 : decode cX6_component 205 = .ok (.invokevirtual 168, 3) := by decide +kernel
theorem dX6_component_208 : decode cX6_component 208 = .ok (.ireturn, 1) := by decide +kernel
theorem dX6_component_209 : decode cX6_component 209 = .ok (.sipush (-1000), 3) := by decide +kernel
theorem dX6_component_212 : decode cX6_component 212 = .ok (.ireturn, 1) := by decide +kernel
set_option maxRecDepth 20000 in
theorem ggX6_face_X6_findFaces : GoodIn wsX6_face wsX6_findFaces := goodIn_r _ [8, 2, 1, 9, 3, 10, 11, 12, 7, 13, 14, 15, 16, 17, 18, 19, 20, 21, 22, 23, 24, 25, 26, 27, 28, 29, 30, 31, 32, 33, 34, 35, 36, 37, 38, 39, 40, 41, 42, 43, 44, 45, 46, 47, 48, 49, 50, 51, 52, 53, 54, 55] (by decide +kernel) (by decide +kernel)
set_option maxRecDepth 20000 in
theorem gX6_face_X6_findFaces : GoodIn wsX6_face (wsV RX6 111 RX6 yX6_findFaces wsX6_findFaces) := goodIn_app (goodIn_of _ (by decide +kernel)) ggX6_face_X6_findFaces
set_option maxRecDepth 20000 in
theorem ggX6_face_X6_turn : GoodIn wsX6_face wsX6_turn := goodIn_r _ [23, 15, 24, 25, 26, 7, 27, 14, 28, 29, 30, 31, 32, 33, 34, 35, 36, 37, 38, 39, 40, 41, 42, 43, 44, 45, 46, 47, 48, 49, 50, 51, 52, 53, 54, 55] (by decide +kernel) (by decide +kernel)
set_option maxRecDepth 20000 in
theorem gX6_face_X6_turn : GoodIn wsX6_face (wsV RX6 96 RX6 yX6_turn wsX6_turn) := goodIn_app (goodIn_of _ (by decide +kernel)) ggX6_face_X6_turn
theorem dX6_face_0 : decode cX6_face 0 = .ok (.aload_n 0, 1) := by decide +kernel
theorem dX6_face_1 : decode cX6_face 1 = .ok (.invokevirtual 111, 3) := by decide +kernel
theorem dX6_face_4 : decode cX6_face 4 = .ok (.iload_n 1, 1) := by decide +kernel
theorem dX6_face_5 : decode cX6_face 5 = .ok (.ifCond .lt 16, 3) := by decide +kernel
theorem dX6_face_8 : decode cX6_face 8 = .ok (.iload_n 2, 1) := by decide +kernel
theorem dX6_face_9 : decode cX6_face 9 = .ok (.iconst (-1), 1) := by decide +kernel
theorem dX6_face_10 : decode cX6_face 10 = .ok (.if_icmp .lt 11, 3) := by decide +kernel
theorem dX6_face_13 : decode cX6_face 13 = .ok (.iload_n 1, 1) := by decide +kernel
theorem dX6_face_14 : decode cX6_face 14 = .ok (.aload_n 0, 1) := by decide +kernel
theorem dX6_face_15 : decode cX6_face 15 = .ok (.getfield 90, 3) := by decide +kernel
theorem dX6_face_18 : decode cX6_face 18 = .ok (.if_icmp .lt 5, 3) := by decide +kernel
theorem dX6_face_21 : decode cX6_face 21 = .ok (.iconst 0, 1) := by decide +kernel
theorem dX6_face_22 : decode cX6_face 22 = .ok (.ireturn, 1) := by decide +kernel
theorem dX6_face_23 : decode cX6_face 23 = .ok (.iconst 0, 1) := by decide +kernel
theorem dX6_face_24 : decode cX6_face 24 = .ok (.istore_n 3, 1) := by decide +kernel
theorem dX6_face_25 : decode cX6_face 25 = .ok (.aload_n 0, 1) := by decide +kernel
theorem dX6_face_26 : decode cX6_face 26 = .ok (.getfield 51, 3) := by decide +kernel
theorem dX6_face_29 : decode cX6_face 29 = .ok (.iload_n 3, 1) := by decide +kernel
theorem dX6_face_30 : decode cX6_face 30 = .ok (.iaload, 1) := by decide +kernel
theorem dX6_face_31 : decode cX6_face 31 = .ok (.iload_n 1, 1) := by decide +kernel
theorem dX6_face_32 : decode cX6_face 32 = .ok (.if_icmp .eq 9, 3) := by decide +kernel
theorem dX6_face_35 : decode cX6_face 35 = .ok (.iinc 3 1, 3) := by decide +kernel
theorem dX6_face_38 : decode cX6_face 38 = .ok (.goto (-13), 3) := by decide +kernel
theorem dX6_face_41 : decode cX6_face 41 = .ok (.iconst 2, 1) := by decide +kernel
theorem dX6_face_42 : decode cX6_face 42 = .ok (.aload_n 0, 1) := by decide +kernel
theorem dX6_face_43 : decode cX6_face 43 = .ok (.getfield 32, 3) := by decide +kernel
theorem dX6_face_46 : decode cX6_face 46 = .ok (.iload_n 3, 1) := by decide +kernel
theorem dX6_face_47 : decode cX6_face 47 = .ok (.iconst 2, 1) := by decide +kernel
theorem dX6_face_48 : decode cX6_face 48 = .ok (.idiv, 1) := by decide +kernel
theorem dX6_face_49 : decode cX6_face 49 = .ok (.iaload, 1) := by decide +kernel
theorem dX6_face_50 : decode cX6_face 50 = .ok (.imul, 1) := by decide +kernel
theorem dX6_face_51 : decode cX6_face 51 = .ok (.iload_n 3, 1) := by decide +kernel
theorem dX6_face_52 : decode cX6_face 52 = .ok (.iconst 2, 1) := by decide +kernel
theorem dX6_face_53 : decode cX6_face 53 = .ok (.irem, 1) := by decide +kernel
theorem dX6_face_54 : decode cX6_face 54 = .ok (.iadd, 1) := by decide +kernel
theorem dX6_face_55 : decode cX6_face 55 = .ok (.istore 4, 2) := by decide +kernel
theorem dX6_face_57 : decode cX6_face 57 = .ok (.iconst 1, 1) := by decide +kernel
theorem dX6_face_58 : decode cX6_face 58 = .ok (.istore 5, 2) := by decide +kernel
theorem dX6_face_60 : decode cX6_face 60 = .ok (.iload_n 2, 1) := by decide +kernel
theorem dX6_face_61 : decode cX6_face 61 = .ok (.ifCond .ne 8, 3) := by decide +kernel
theorem dX6_face_64 : decode cX6_face 64 = .ok (.iload 4, 2) := by decide +kernel
theorem dX6_face_66 : decode cX6_face 66 = .ok (.goto 4, 3) := by decide +kernel
theorem dX6_face_69 : decode cX6_face 69 = .ok (.iconst 0, 1) := by decide +kernel
theorem dX6_face_70 : decode cX6_face 70 = .ok (.istore 6, 2) := by decide +kernel
theorem dX6_face_72 : decode cX6_face 72 = .ok (.aload_n 0, 1) := by decide +kernel
theorem dX6_face_73 : decode cX6_face 73 = .ok (.iload 4, 2) := by decide +kernel
theorem dX6_face_75 : decode cX6_face 75 = .ok (.invokevirtual 96, 3) := by decide +kernel
theorem dX6_face_78 : decode cX6_face 78 = .ok (.istore 7, 2) := by decide +kernel
theorem dX6_face_80 : decode cX6_face 80 = .ok (.iload 7, 2) := by decide +kernel
theorem dX6_face_82 : decode cX6_face 82 = .ok (.iload 4, 2) := by decide +kernel
theorem dX6_face_84 : decode cX6_face 84 = .ok (.if_icmp .eq 32, 3) := by decide +kernel
theorem dX6_face_87 : decode cX6_face 87 = .ok (.iload 5, 2) := by decide +kernel
theorem dX6_face_89 : decode cX6_face 89 = .ok (.iload_n 2, 1) := by decide +kernel
theorem dX6_face_90 : decode cX6_face 90 = .ok (.if_icmp .ne 8, 3) := by decide +kernel
theorem dX6_face_93 : decode cX6_face 93 = .ok (.iload 7, 2) := by decide +kernel
theorem dX6_face_95 : decode cX6_face 95 = .ok (.goto 5, 3) := by decide +kernel
theorem dX6_face_98 : decode cX6_face 98 = .ok (.iload 6, 2) := by decide +kernel
theorem dX6_face_100 : decode cX6_face 100 = .ok (.istore 6, 2) := by decide +kernel
theorem dX6_face_102 : decode cX6_face 102 = .ok (.iinc 5 1, 3) := by decide +kernel
theorem dX6_face_105 : decode cX6_face 105 = .ok (.aload_n 0, 1) := by decide +kernel
theorem dX6_face_106 : decode cX6_face 106 = .ok (.iload 7, 2) := by decide +kernel
theorem dX6_face_108 : decode cX6_face 108 = .ok (.invokevirtual 96, 3) := by decide +kernel
theorem dX6_face_111 : decode cX6_face 111 = .ok (.istore 7, 2) := by decide +kernel
theorem dX6_face_113 : decode cX6_face 113 = .ok (.goto (-33), 3) := by decide +kernel
theorem dX6_face_116 : decode cX6_face 116 = .ok (.iload_n 2, 1) := by decide +kernel
theorem dX6_face_117 : decode cX6_face 117 = .ok (.ifCond .ge 6, 3) := by decide +kernel
theorem dX6_face_120 : decode cX6_face 120 = .ok (.iload 5, 2) := by decide +kernel
theorem dX6_face_122 : decode cX6_face 122 = .ok (.ireturn, 1) := by decide +kernel
theorem dX6_face_123 : decode cX6_face 123 = .ok (.iload 6, 2) := by decide +kernel
theorem dX6_face_125 : decode cX6_face 125 = .ok (.iconst 2, 1) := by decide +kernel
theorem dX6_face_126 : decode cX6_face 126 = .ok (.irem, 1) := by decide +kernel
theorem dX6_face_127 : decode cX6_face 127 = .ok (.iconst 1, 1) := by decide +kernel
theorem dX6_face_128 : decode cX6_face 128 = .ok (.if_icmp .ne 11, 3) := by decide +kernel
theorem dX6_face_131 : decode cX6_face 131 = .ok (.iload 6, 2) := by decide +kernel
theorem dX6_face_133 : decode cX6_face 133 = .ok (.iconst 2, 1) := by decide +kernel
theorem dX6_face_134 : decode cX6_face 134 = .ok (.idiv, 1) := by decide +kernel
theorem dX6_face_135 : decode cX6_face 135 = .ok (.ineg, 1) := by decide +kernel
theorem dX6_face_136 : decode cX6_face 136 = .ok (.goto 7, 3) := by decide +kernel
theorem dX6_face_139 : decode cX6_face 139 = .ok (.iload 6, 2) := by decide +kernel
theorem dX6_face_141 : decode cX6_face 141 = .ok (.iconst 2, 1) := by decide +kernel
theorem dX6_face_142 : decode cX6_face 142 = .ok (.idiv, 1) := by decide +kernel
theorem dX6_face_143 : decode cX6_face 143 = .ok (.ireturn, 1) := by decide +kernel
set_option maxRecDepth 20000 in
theorem ggX6_mirror_X6_change : GoodIn wsX6_mirror wsX6_change := goodIn_r _ [6, 1, 7, 8, 9, 10, 11, 12, 5, 13, 14, 15, 16, 17, 18, 19, 20, 21, 22, 23, 24, 25, 26, 27, 28, 29, 30, 31, 32, 33, 34, 35, 36] (by decide +kernel) (by decide +kernel)
set_option maxRecDepth 20000 in
theorem gX6_mirror_X6_change : GoodIn wsX6_mirror (wsV RX6 187 RX6 yX6_change wsX6_change) := goodIn_app (goodIn_of _ (by decide +kernel)) ggX6_mirror_X6_change
theorem dX6_mirror_0 : decode cX6_mirror 0 = .ok (.iconst 0, 1) := by decide +kernel
theorem dX6_mirror_1 : decode cX6_mirror 1 = .ok (.istore_n 1, 1) := by decide +kernel
theorem dX6_mirror_2 : decode cX6_mirror 2 = .ok (.iload_n 1, 1) := by decide +kernel
theorem dX6_mirror_3 : decode cX6_mirror 3 = .ok (.aload_n 0, 1) := by decide +kernel
theorem dX6_mirror_4 : decode cX6_mirror 4 = .ok (.getfield 57, 3) := by decide +kernel
theorem dX6_mirror_7 : decode cX6_mirror 7 = .ok (.if_icmp .ge 15, 3) := by decide +kernel
theorem dX6_mirror_10 : decode cX6_mirror 10 = .ok (.aload_n 0, 1) := by decide +kernel
theorem dX6_mirror_11 : decode cX6_mirror 11 = .ok (.iload_n 1, 1) := by decide +kernel
theorem dX6_mirror_12 : decode cX6_mirror 12 = .ok (.invokevirtual 187, 3) := by decide +kernel
theorem dX6_mirror_15 : decode cX6_mirror 15 = .ok (.pop, 1) := by decide +kernel
theorem dX6_mirror_16 : decode cX6_mirror 16 = .ok (.iinc 1 1, 3) := by decide +kernel
theorem dX6_mirror_19 : decode cX6_mirror 19 = .ok (.goto (-17), 3) := by decide +kernel
theorem dX6_mirror_22 : decode cX6_mirror 22 = .ok (.return_, 1) := by decide +kernel
set_option maxRecDepth 20000 in
theorem ggX6_change_X6_upperIn : GoodIn wsX6_change wsX6_upperIn := goodIn_r _ [9, 4, 10, 11, 12, 13, 14, 15, 16, 17, 18, 19, 20, 21, 22, 23, 24, 25, 26, 27, 28, 29, 30, 31, 32] (by decide +kernel) (by decide +kernel)
set_option maxRecDepth 20000 in
theorem gX6_change_X6_upperIn : GoodIn wsX6_change (wsV RX6 140 RX6 yX6_upperIn wsX6_upperIn) := goodIn_app (goodIn_of _ (by decide +kernel)) ggX6_change_X6_upperIn
theorem dX6_change_0 : decode cX6_change 0 = .ok (.iload_n 1, 1) := by decide +kernel
theorem dX6_change_1 : decode cX6_change 1 = .ok (.ifCond .lt 11, 3) := by decide +kernel
theorem dX6_change_4 : decode cX6_change 4 = .ok (.iload_n 1, 1) := by decide +kernel
theorem dX6_change_5 : decode cX6_change 5 = .ok (.aload_n 0, 1) := by decide +kernel
theorem dX6_change_6 : decode cX6_change 6 = .ok (.getfield 57, 3) := by decide +kernel
theorem dX6_change_9 : decode cX6_change 9 = .ok (.if_icmp .lt 5, 3) := by decide +kernel
theorem dX6_change_12 : decode cX6_change 12 = .ok (.iconst 0, 1) := by decide +kernel
theorem dX6_change_13 : decode cX6_change 13 = .ok (.ireturn, 1) := by decide +kernel
theorem dX6_change_14 : decode cX6_change 14 = .ok (.aload_n 0, 1) := by decide +kernel
theorem dX6_change_15 : decode cX6_change 15 = .ok (.iload_n 1, 1) := by decide +kernel
theorem dX6_change_16 : decode cX6_change 16 = .ok (.invokevirtual 140, 3) := by decide +kernel
theorem dX6_change_19 : decode cX6_change 19 = .ok (.istore_n 2, 1) := by decide +kernel
theorem dX6_change_20 : decode cX6_change 20 = .ok (.iconst 0, 1) := by decide +kernel
theorem dX6_change_21 : decode cX6_change 21 = .ok (.istore_n 3, 1) := by decide +kernel
theorem dX6_change_22 : decode cX6_change 22 = .ok (.iload_n 3, 1) := by decide +kernel
theorem dX6_change_23 : decode cX6_change 23 = .ok (.iconst 4, 1) := by decide +kernel
theorem dX6_change_24 : decode cX6_change 24 = .ok (.if_icmp .ge 29, 3) := by decide +kernel
theorem dX6_change_27 : decode cX6_change 27 = .ok (.aload_n 0, 1) := by decide +kernel
theorem dX6_change_28 : decode cX6_change 28 = .ok (.getfield 35, 3) := by decide +kernel
theorem dX6_change_31 : decode cX6_change 31 = .ok (.iload_n 3, 1) := by decide +kernel
theorem dX6_change_32 : decode cX6_change 32 = .ok (.aload_n 0, 1) := by decide +kernel
theorem dX6_change_33 : decode cX6_change 33 = .ok (.getfield 23, 3) := by decide +kernel
theorem dX6_change_36 : decode cX6_change 36 = .ok (.iconst 4, 1) := by decide +kernel
theorem dX6_change_37 : decode cX6_change 37 = .ok (.iload_n 1, 1) := by decide +kernel
theorem dX6_change_38 : decode cX6_change 38 = .ok (.imul, 1) := by decide +kernel
theorem dX6_change_39 : decode cX6_change 39 = .ok (.iload_n 2, 1) := by decide +kernel
theorem dX6_change_40 : decode cX6_change 40 = .ok (.iload_n 3, 1) := by decide +kernel
theorem dX6_change_41 : decode cX6_change 41 = .ok (.iadd, 1) := by decide +kernel
theorem dX6_change_42 : decode cX6_change 42 = .ok (.iconst 4, 1) := by decide +kernel
theorem dX6_change_43 : decode cX6_change 43 = .ok (.irem, 1) := by decide +kernel
theorem dX6_change_44 : decode cX6_change 44 = .ok (.iadd, 1) := by decide +kernel
theorem dX6_change_45 : decode cX6_change 45 = .ok (.iaload, 1) := by decide +kernel
theorem dX6_change_46 : decode cX6_change 46 = .ok (.iastore, 1) := by decide +kernel
theorem dX6_change_47 : decode cX6_change 47 = .ok (.iinc 3 1, 3) := by decide +kernel
theorem dX6_change_50 : decode cX6_change 50 = .ok (.goto (-28), 3) := by decide +kernel
theorem dX6_change_53 : decode cX6_change 53 = .ok (.iconst 0, 1) := by decide +kernel
theorem dX6_change_54 : decode cX6_change 54 = .ok (.istore_n 3, 1) := by decide +kernel
theorem dX6_change_55 : decode cX6_change 55 = .ok (.iload_n 3, 1) := by decide +kernel
theorem dX6_change_56 : decode cX6_change 56 = .ok (.iconst 4, 1) := by decide +kernel
theorem dX6_change_57 : decode cX6_change 57 = .ok (.if_icmp .ge 25, 3) := by decide +kernel
theorem dX6_change_60 : decode cX6_change 60 = .ok (.aload_n 0, 1) := by decide +kernel
theorem dX6_change_61 : decode cX6_change 61 = .ok (.getfield 23, 3) := by decide +kernel
theorem dX6_change_64 : decode cX6_change 64 = .ok (.iconst 4, 1) := by decide +kernel
theorem dX6_change_65 : decode cX6_change 65 = .ok (.iload_n 1, 1) := by decide +kernel
theorem dX6_change_66 : decode cX6_change 66 = .ok (.imul, 1) := by decide +kernel
theorem dX6_change_67 : decode cX6_change 67 = .ok (.iload_n 3, 1) := by decide +kernel
theorem dX6_change_68 : decode cX6_change 68 = .ok (.iadd, 1) := by decide +kernel
theorem dX6_change_69 : decode cX6_change 69 = .ok (.aload_n 0, 1) := by decide +kernel
theorem dX6_change_70 : decode cX6_change 70 = .ok (.getfield 35, 3) := by decide +kernel
theorem dX6_change_73 : decode cX6_change 73 = .ok (.iload_n 3, 1) := by decide +kernel
theorem dX6_change_74 : decode cX6_change 74 = .ok (.iaload, 1) := by decide +kernel
theorem dX6_change_75 : decode cX6_change 75 = .ok (.iastore, 1) := by decide +kernel
theorem dX6_change_76 : decode cX6_change 76 = .ok (.iinc 3 1, 3) := by decide +kernel
theorem dX6_change_79 : decode cX6_change 79 = .ok (.goto (-24), 3) := by decide +kernel
theorem dX6_change_82 : decode cX6_change 82 = .ok (.aload_n 0, 1) := by decide +kernel
theorem dX6_change_83 : decode cX6_change 83 = .ok (.getfield 20, 3) := by decide +kernel
theorem dX6_change_86 : decode cX6_change 86 = .ok (.iload_n 1, 1) := by decide +kernel
theorem dX6_change_87 : decode cX6_change 87 = .ok (.aload_n 0, 1) := by decide +kernel
theorem dX6_change_88 : decode cX6_change 88 = .ok (.getfield 20, 3) := by decide +kernel
theorem dX6_change_91 : decode cX6_change 91 = .ok (.iload_n 1, 1) := by decide +kernel
theorem dX6_change_92 : decode cX6_change 92 = .ok (.iaload, 1) := by decide +kernel
theorem dX6_change_93 : decode cX6_change 93 = .ok (.ineg, 1) := by decide +kernel
theorem dX6_change_94 : decode cX6_change 94 = .ok (.iastore, 1) := by decide +kernel
theorem dX6_change_95 : decode cX6_change 95 = .ok (.iconst 1, 1) := by decide +kernel
theorem dX6_change_96 : decode cX6_change 96 = .ok (.ireturn, 1) := by decide +kernel
set_option maxRecDepth 20000 in
theorem ggX6_reverse_X6_components : GoodIn wsX6_reverse wsX6_components := goodIn_r _ [14, 5, 1, 15, 16, 17, 18, 19, 13, 20, 3, 8, 21, 22, 23, 24, 25, 26, 27, 28, 9, 29, 30, 31, 32, 33, 34, 35, 36, 37, 38, 39, 40, 41, 42, 43, 44, 45, 46, 47, 48, 49, 50, 51, 52, 53, 54, 55, 56, 57, 58] (by decide +kernel) (by decide +kernel)
set_option maxRecDepth 20000 in
theorem gX6_reverse_X6_components : GoodIn wsX6_reverse (wsV RX6 84 RX6 yX6_components wsX6_components) := goodIn_app (goodIn_of _ (by decide +kernel)) ggX6_reverse_X6_components
theorem dX6_reverse_0 : decode cX6_reverse 0 = .ok (.aload_n 0, 1) := by decide +kernel
theorem dX6_reverse_1 : decode cX6_reverse 1 = .ok (.invokevirtual 84, 3) := by decide +kernel
theorem dX6_reverse_4 : decode cX6_reverse 4 = .ok (.iload_n 1, 1) := by decide +kernel
theorem dX6_reverse_5 : decode cX6_reverse 5 = .ok (.ifCond .lt 16, 3) := by decide +kernel
theorem dX6_reverse_8 : decode cX6_reverse 8 = .ok (.iload_n 1, 1) := by decide +kernel
theorem dX6_reverse_9 : decode cX6_reverse 9 = .ok (.aload_n 0, 1) := by decide +kernel
theorem dX6_reverse_10 : decode cX6_reverse 10 = .ok (.getfield 75, 3) := by decide +kernel
theorem dX6_reverse_13 : decode cX6_reverse 13 = .ok (.aload_n 0, 1) := by decide +kernel
theorem dX6_reverse_14 : decode cX6_reverse 14 = .ok (.getfield 105, 3) := by decide +kernel
theorem dX6_reverse_17 : decode cX6_reverse 17 = .ok (.iadd, 1) := by decide +kernel
theorem dX6_reverse_18 : decode cX6_reverse 18 = .ok (.if_icmp .lt 5, 3) := by decide +kernel
theorem dX6_reverse_21 : decode cX6_reverse 21 = .ok (.iconst 0, 1) := by decide +kernel
theorem dX6_reverse_22 : decode cX6_reverse 22 = .ok (.ireturn, 1) := by decide +kernel
theorem dX6_reverse_23 : decode cX6_reverse 23 = .ok (.iconst 0, 1) := by decide +kernel
theorem dX6_reverse_24 : decode cX6_reverse 24 = .ok (.istore_n 2, 1) := by decide +kernel
theorem dX6_reverse_25 : decode cX6_reverse 25 = .ok (.iload_n 2, 1) := by decide +kernel
theorem dX6_reverse_26 : decode cX6_reverse 26 = .ok (.aload_n 0, 1) := by decide +kernel
theorem dX6_reverse_27 : decode cX6_reverse 27 = .ok (.getfield 57, 3) := by decide +kernel
theorem dX6_reverse_30 : decode cX6_reverse 30 = .ok (.if_icmp .ge 57, 3) := by decide +kernel
theorem dX6_reverse_33 : decode cX6_reverse 33 = .ok (.aload_n 0, 1) := by decide +kernel
theorem dX6_reverse_34 : decode cX6_reverse 34 = .ok (.getfield 38, 3) := by decide +kernel
theorem dX6_reverse_37 : decode cX6_reverse 37 = .ok (.iload_n 2, 1) := by decide +kernel
theorem dX6_reverse_38 : decode cX6_reverse 38 = .ok (.aload_n 0, 1) := by decide +kernel
theorem dX6_reverse_39 : decode cX6_reverse 39 = .ok (.getfield 48, 3) := by decide +kernel
theorem dX6_reverse_42 : decode cX6_reverse 42 = .ok (.iconst 4, 1) := by decide +kernel
theorem dX6_reverse_43 : decode cX6_reverse 43 = .ok (.iload_n 2, 1) := by decide +kernel
theorem dX6_reverse_44 : decode cX6_reverse 44 = .ok (.imul, 1) := by decide +kernel
theorem dX6_reverse_45 : decode cX6_reverse 45 = .ok (.iaload, 1) := by decide +kernel
theorem dX6_reverse_46 : decode cX6_reverse 46 = .ok (.iload_n 1, 1) := by decide +kernel
theorem dX6_reverse_47 : decode cX6_reverse 47 = .ok (.if_icmp .ne 7, 3) := by decide +kernel
theorem dX6_reverse_50 : decode cX6_reverse 50 = .ok (.iconst 1, 1) := by decide +kernel
theorem dX6_reverse_51 : decode cX6_reverse 51 = .ok (.goto 4, 3) := by decide +kernel
theorem dX6_reverse_54 : decode cX6_reverse 54 = .ok (.iconst 0, 1) := by decide +kernel
theorem dX6_reverse_55 : decode cX6_reverse 55 = .ok (.bastore, 1) := by decide +kernel
theorem dX6_reverse_56 : decode cX6_reverse 56 = .ok (.aload_n 0, 1) := by decide +kernel
theorem dX6_reverse_57 : decode cX6_reverse 57 = .ok (.getfield 42, 3) := by decide +kernel
theorem dX6_reverse_60 : decode cX6_reverse 60 = .ok (.iload_n 2, 1) := by decide +kernel
theorem dX6_reverse_61 : decode cX6_reverse 61 = .ok (.aload_n 0, 1) := by decide +kernel
theorem dX6_reverse_62 : decode cX6_reverse 62 = .ok (.getfield 48, 3) := by decide +kernel
theorem dX6_reverse_65 : decode cX6_reverse 65 = .ok (.iconst 4, 1) := by decide +kernel
theorem dX6_reverse_66 : decode cX6_reverse 66 = .ok (.iload_n 2, 1) := by decide +kernel
theorem dX6_reverse_67 : decode cX6_reverse 67 = .ok (.imul, 1) := by decide +kernel
theorem dX6_reverse_68 : decode cX6_reverse 68 = .ok (.iconst 1, 1) := by decide +kernel
theorem dX6_reverse_69 : decode cX6_reverse 69 = .ok (.iadd, 1) := by decide +kernel
theorem dX6_reverse_70 : decode cX6_reverse 70 = .ok (.iaload, 1) := by decide +kernel
theorem dX6_reverse_71 : decode cX6_reverse 71 = .ok (.iload_n 1, 1) := by decide +kernel
theorem dX6_reverse_72 : decode cX6_reverse 72 = .ok (.if_icmp .ne 7, 3) := by decide +kernel
theorem dX6_reverse_75 : decode cX6_reverse 75 = .ok (.iconst 1, 1) := by decide +kernel
theorem dX6_reverse_76 : decode cX6_reverse 76 = .ok (.goto 4, 3) := by decide +kernel
theorem dX6_reverse_79 : decode cX6_reverse 79 = .ok (.iconst 0, 1) := by decide +kernel
theorem dX6_reverse_80 : decode cX6_reverse 80 = .ok (.bastore, 1) := by decide +kernel
theorem dX6_reverse_81 : decode cX6_reverse 81 = .ok (.iinc 2 1, 3) := by decide +kernel
theorem dX6_reverse_84 : decode cX6_reverse 84 = .ok (.goto (-59), 3) := by decide +kernel
theorem dX6_reverse_87 : decode cX6_reverse 87 = .ok (.iconst 0, 1) := by decide +kernel
theorem dX6_reverse_88 : decode cX6_reverse 88 = .ok (.istore_n 2, 1) := by decide +kernel
theorem dX6_reverse_89 : decode cX6_reverse 89 = .ok (.iload_n 2, 1) := by decide +kernel
theorem dX6_reverse_90 : decode cX6_reverse 90 = .ok (.aload_n 0, 1) := by decide +kernel
theorem dX6_reverse_91 : decode cX6_reverse 91 = .ok (.getfield 57, 3) := by decide +kernel
theorem dX6_reverse_94 : decode cX6_reverse 94 = .ok (.if_icmp .ge 121, 3) := by decide +kernel
theorem dX6_reverse_97 : decode cX6_reverse 97 = .ok (.iconst 0, 1) := by decide +kernel
theorem dX6_reverse_98 : decode cX6_reverse 98 = .ok (.istore_n 3, 1) := by decide +kernel
theorem dX6_reverse_99 : decode cX6_reverse 99 = .ok (.iload_n 3, 1) := by decide +kernel
theorem dX6_reverse_100 : decode cX6_reverse 100 = .ok (.iconst 4, 1) := by decide +kernel
theorem dX6_reverse_101 : decode cX6_reverse 101 = .ok (.if_icmp .ge 42, 3) := by decide +kernel
theorem dX6_reverse_104 : decode cX6_reverse 104 = .ok (.aload_n 0, 1) := by decide +kernel
theorem dX6_reverse_105 : decode cX6_reverse 105 = .ok (.getfield 35, 3) := by decide +kernel
theorem dX6_reverse_108 : decode cX6_reverse 108 = .ok (.iload_n 3, 1) := by decide +kernel
theorem dX6_reverse_109 : decode cX6_reverse 109 = .ok (.aload_n 0, 1) := by decide +kernel
theorem dX6_reverse_110 : decode cX6_reverse 110 = .ok (.getfield 23, 3) := by decide +kernel
theorem dX6_reverse_113 : decode cX6_reverse 113 = .ok (.iconst 4, 1) := by decide +kernel
theorem dX6_reverse_114 : decode cX6_reverse 114 = .ok (.iload_n 2, 1) := by decide +kernel
theorem dX6_reverse_115 : decode cX6_reverse 115 = .ok (.imul, 1) := by decide +kernel
theorem dX6_reverse_116 : decode cX6_reverse 116 = .ok (.aload_n 0, 1) := by decide +kernel
theorem dX6_reverse_117 : decode cX6_reverse 117 = .ok (.getfield 38, 3) := by decide +kernel
theorem dX6_reverse_120 : decode cX6_reverse 120 = .ok (.iload_n 2, 1) := by decide +kernel
theorem dX6_reverse_121 : decode cX6_reverse 121 = .ok (.baload, 1) := by decide +kernel
theorem dX6_reverse_122 : decode cX6_reverse 122 = .ok (.ifCond .eq 9, 3) := by decide +kernel
theorem dX6_reverse_125 : decode cX6_reverse 125 = .ok (.iload_n 3, 1) := by decide +kernel
theorem dX6_reverse_126 : decode cX6_reverse 126 = .ok (.iconst 2, 1) := by decide +kernel
theorem dX6_reverse_127 : decode cX6_reverse 127 = .ok (.iadd, 1) := by decide +kernel
theorem dX6_reverse_128 : decode cX6_reverse 128 = .ok (.goto 4, 3) := by decide +kernel
theorem dX6_reverse_131 : decode cX6_reverse 131 = .ok (.iload_n 3, 1) := by decide +kernel
theorem dX6_reverse_132 : decode cX6_reverse 132 = .ok (.iconst 4, 1) := by decide +kernel
theorem dX6_reverse_133 : decode cX6_reverse 133 = .ok (.irem, 1) := by decide +kernel
theorem dX6_reverse_134 : decode cX6_reverse 134 = .ok (.iadd, 1) := by decide +kernel
theorem dX6_reverse_135 : decode cX6_reverse 135 = .ok (.iaload, 1) := by decide +kernel
theorem dX6_reverse_136 : decode cX6_reverse 136 = .ok (.iastore, 1) := by decide +kernel
theorem dX6_reverse_137 : decode cX6_reverse 137 = .ok (.iinc 3 1, 3) := by decide +kernel
theorem dX6_reverse_140 : decode cX6_reverse 140 = .ok (.goto (-41), 3) := by decide +kernel
theorem dX6_reverse_143 : decode cX6_reverse 143 = .ok (.iconst 0, 1) := by decide +kernel
theorem dX6_reverse_144 : decode cX6_reverse 144 = .ok (.istore_n 3, 1) := by decide +kernel
theorem dX6_reverse_145 : decode cX6_reverse 145 = .ok (.iload_n 3, 1) := by decide +kernel
theorem dX6_reverse_146 : decode cX6_reverse 146 = .ok (.iconst 4, 1) := by decide +kernel
theorem dX6_reverse_147 : decode cX6_reverse 147 = .ok (.if_icmp .ge 25, 3) := by decide +kernel
theorem dX6_reverse_150 : decode cX6_reverse 150 = .ok (.aload_n 0, 1) := by decide +kernel
theorem dX6_reverse_151 : decode cX6_reverse 151 = .ok (.getfield 23, 3) := by decide +kernel
theorem dX6_reverse_154 : decode cX6_reverse 154 = .ok (.iconst 4, 1) := by decide +kernel
theorem dX6_reverse_155 : decode cX6_reverse 155 = .ok (.iload_n 2, 1) := by decide +kernel
theorem dX6_reverse_156 : decode cX6_reverse 156 = .ok (.imul, 1) := by decide +kernel
theorem dX6_reverse_157 : decode cX6_reverse 157 = .ok (.iload_n 3, 1) := by decide +kernel
theorem dX6_reverse_158 : decode cX6_reverse 158 = .ok (.iadd, 1) := by decide +kernel
theorem dX6_reverse_159 : decode cX6_reverse 159 = .ok (.aload_n 0, 1) := by decide +kernel
theorem dX6_reverse_160 : decode cX6_reverse 160 = .ok (.getfield 35, 3) := by decide +kernel
theorem dX6_reverse_163 : decode cX6_reverse 163 = .ok (.iload_n 3, 1) := by decide +kernel
theorem dX6_reverse_164 : decode cX6_reverse 164 = .ok (.iaload, 1) := by decide +kernel
theorem dX6_reverse_165 : decode cX6_reverse 165 = .ok (.iastore, 1) := by decide +kernel
theorem dX6_reverse_166 : decode cX6_reverse 166 = .ok (.iinc 3 1, 3) := by decide +kernel
theorem dX6_reverse_169 : decode cX6_reverse 169 = .ok (.goto (-24), 3) := by decide +kernel
theorem dX6_reverse_172 : decode cX6_reverse 172 = .ok (.aload_n 0, 1) := by decide +kernel
theorem dX6_reverse_173 : decode cX6_reverse 173 = .ok (.getfield 20, 3) := by decide +kernel
theorem dX6_reverse_176 : decode cX6_reverse 176 = .ok (.iload_n 2, 1) := by decide +kernel
theorem dX6_reverse_177 : decode cX6_reverse 177 = .ok (.aload_n 0, 1) := by decide +kernel
theorem dX6_reverse_178 : decode cX6_reverse 178 = .ok (.getfield 38, 3) := by decide +kernel
theorem dX6_reverse_181 : decode cX6_reverse 181 = .ok (.iload_n 2, 1) := by decide +kernel
theorem dX6_reverse_182 : decode cX6_reverse 182 = .ok (.baload, 1) := by decide +kernel
theorem dX6_reverse_183 : decode cX6_reverse 183 = .ok (.aload_n 0, 1) := by decide +kernel
theorem dX6_reverse_184 : decode cX6_reverse 184 = .ok (.getfield 42, 3) := by decide +kernel
theorem dX6_reverse_187 : decode cX6_reverse 187 = .ok (.iload_n 2, 1) := by decide +kernel
theorem dX6_reverse_188 : decode cX6_reverse 188 = .ok (.baload, 1) := by decide +kernel
theorem dX6_reverse_189 : decode cX6_reverse 189 = .ok (.if_icmp .ne 12, 3) := by decide +kernel
theorem dX6_reverse_192 : decode cX6_reverse 192 = .ok (.aload_n 0, 1) := by decide +kernel
theorem dX6_reverse_193 : decode cX6_reverse 193 = .ok (.getfield 20, 3) := by decide +kernel
theorem dX6_reverse_196 : decode cX6_reverse 196 = .ok (.iload_n 2, 1) := by decide +kernel
theorem dX6_reverse_197 : decode cX6_reverse 197 = .ok (.iaload, 1) := by decide +kernel
theorem dX6_reverse_198 : decode cX6_reverse 198 = .ok (.goto 10, 3) := by decide +kernel
theorem dX6_reverse_201 : decode cX6_reverse 201 = .ok (.aload_n 0, 1) := by decide +kernel
theorem dX6_reverse_202 : decode cX6_reverse 202 = .ok (.getfield 20, 3) := by decide +kernel
theorem dX6_reverse_205 : decode cX6_reverse 205 = .ok (.iload_n 2, 1) := by decide +kernel
theorem dX6_reverse_206 : decode cX6_reverse 206 = .ok (.iaload, 1) := by decide +kernel
theorem dX6_reverse_207 : decode cX6_reverse 207 = .ok (.ineg, 1) := by decide +kernel
theorem dX6_reverse_208 : decode cX6_reverse 208 = .ok (.iastore, 1) := by decide +kernel
theorem dX6_reverse_209 : decode cX6_reverse 209 = .ok (.iinc 2 1, 3) := by decide +kernel
theorem dX6_reverse_212 : decode cX6_reverse 212 = .ok (.goto (-123), 3) := by decide +kernel
theorem dX6_reverse_215 : decode cX6_reverse 215 = .ok (.iconst 1, 1) := by decide +kernel
theorem dX6_reverse_216 : decode cX6_reverse 216 = .ok (.ireturn, 1) := by decide +kernel
set_option maxRecDepth 20000 in
theorem ggX6_number_X6_components : GoodIn wsX6_number wsX6_components := goodIn_r _ [9, 10, 1, 11, 12, 13, 14, 15, 8, 16, 3, 4, 17, 18, 19, 20, 21, 22, 23, 24, 25, 26, 27, 28, 29, 30, 31, 32, 41, 42, 43, 44, 45, 46, 47, 48, 49, 50, 51, 52, 53, 54, 55, 56, 57, 58, 59, 60, 61, 62, 63] (by decide +kernel) (by decide +kernel)
set_option maxRecDepth 20000 in
theorem gX6_number_X6_components : GoodIn wsX6_number (wsV RX6 84 RX6 yX6_components wsX6_components) := goodIn_app (goodIn_of _ (by decide +kernel)) ggX6_number_X6_components
set_option maxRecDepth 20000 in
theorem ggX6_number_X6_beginning : GoodIn wsX6_number wsX6_beginning := goodIn_r _ [36, 11, 10, 12, 5, 6, 7, 8, 9, 1, 13, 14, 15, 16, 3, 4, 17, 18, 19, 20, 21, 22, 23, 24, 25, 26, 27, 28, 29, 30, 31, 32, 41, 42, 43, 44, 45, 46, 47, 48, 49, 50, 51, 52, 53, 54, 55, 56, 57, 58, 59, 60, 61, 62, 63] (by decide +kernel) (by decide +kernel)
set_option maxRecDepth 20000 in
theorem gX6_number_X6_beginning : GoodIn wsX6_number (wsV RX6 181 RX6 yX6_beginning wsX6_beginning) := goodIn_app (goodIn_of _ (by decide +kernel)) ggX6_number_X6_beginning
set_option maxRecDepth 20000 in
theorem ggX6_number_X6_edgesOf : GoodIn wsX6_number wsX6_edgesOf := goodIn_r _ [40, 26, 27, 28, 8, 29, 4, 17, 18, 19, 20, 3, 21, 22, 23, 24, 25, 30, 31, 32, 41, 42, 43, 44, 45, 46, 47, 48, 49, 50, 51, 52, 53, 54, 55, 56, 57, 58, 59, 60, 61, 62, 63] (by decide +kernel) (by decide +kernel)
set_option maxRecDepth 20000 in
theorem gX6_number_X6_edgesOf : GoodIn wsX6_number (wsV RX6 184 RX6 yX6_edgesOf wsX6_edgesOf) := goodIn_app (goodIn_of _ (by decide +kernel)) ggX6_number_X6_edgesOf
set_option maxRecDepth 20000 in
theorem ggX6_number_X6_placeOf : GoodIn wsX6_number wsX6_placeOf := goodIn_r _ [20, 3, 4, 21, 22, 23, 8, 24, 25, 41, 42, 43, 44, 45, 46, 47, 48, 49, 50, 51, 52, 53, 54, 55, 56, 57, 58, 59, 60, 61, 62, 63] (by decide +kernel) (by decide +kernel)
set_option maxRecDepth 20000 in
theorem gX6_number_X6_placeOf : GoodIn wsX6_number (wsV RX6 64 RX6 yX6_placeOf wsX6_placeOf) := goodIn_app (goodIn_of _ (by decide +kernel)) ggX6_number_X6_placeOf
set_option maxRecDepth 20000 in
theorem ggX6_number_X6_next : GoodIn wsX6_number wsX6_next := goodIn_r _ [29, 4, 17, 18, 19, 8, 20, 3, 21, 22, 23, 24, 25, 30, 31, 32, 41, 42, 43, 44, 45, 46, 47, 48, 49, 50, 51, 52, 53, 54, 55, 56, 57, 58, 59, 60, 61, 62, 63] (by decide +kernel) (by decide +kernel)
set_option maxRecDepth 20000 in
theorem gX6_number_X6_next : GoodIn wsX6_number (wsV RX6 81 RX6 yX6_next wsX6_next) := goodIn_app (goodIn_of _ (by decide +kernel)) ggX6_number_X6_next
theorem dX6_number_0 : decode cX6_number 0 = .ok (.aload_n 0, 1) := by decide +kernel
theorem dX6_number_1 : decode cX6_number 1 = .ok (.invokevirtual 84, 3) := by decide +kernel
theorem dX6_number_4 : decode cX6_number 4 = .ok (.aload_n 0, 1) := by decide +kernel
theorem dX6_number_5 : decode cX6_number 5 = .ok (.getfield 75, 3) := by decide +kernel
theorem dX6_number_8 : decode cX6_number 8 = .ok (.istore_n 1, 1) := by decide +kernel
theorem dX6_number_9 : decode cX6_number 9 = .ok (.iconst 0, 1) := by decide +kernel
theorem dX6_number_10 : decode cX6_number 10 = .ok (.istore_n 2, 1) := by decide +kernel
theorem dX6_number_11 : decode cX6_number 11 = .ok (.iconst 0, 1) := by decide +kernel
theorem dX6_number_12 : decode cX6_number 12 = .ok (.istore_n 3, 1) := by decide +kernel
theorem dX6_number_13 : decode cX6_number 13 = .ok (.iload_n 3, 1) := by decide +kernel
theorem dX6_number_14 : decode cX6_number 14 = .ok (.iload_n 1, 1) := by decide +kernel
theorem dX6_number_15 : decode cX6_number 15 = .ok (.if_icmp .ge 77, 3) := by decide +kernel
theorem dX6_number_18 : decode cX6_number 18 = .ok (.aload_n 0, 1) := by decide +kernel
theorem dX6_number_19 : decode cX6_number 19 = .ok (.iload_n 3, 1) := by decide +kernel
theorem dX6_number_20 : decode cX6_number 20 = .ok (.invokevirtual 181, 3) := by decide +kernel
theorem dX6_number_23 : decode cX6_number 23 = .ok (.istore 4, 2) := by decide +kernel
theorem dX6_number_25 : decode cX6_number 25 = .ok (.aload_n 0, 1) := by decide +kernel
theorem dX6_number_26 : decode cX6_number 26 = .ok (.iload 4, 2) := by decide +kernel
theorem dX6_number_28 : decode cX6_number 28 = .ok (.invokevirtual 184, 3) := by decide +kernel
theorem dX6_number_31 : decode cX6_number 31 = .ok (.istore 5, 2) := by decide +kernel
theorem dX6_number_33 : decode cX6_number 33 = .ok (.iconst 0, 1) := by decide +kernel
theorem dX6_number_34 : decode cX6_number 34 = .ok (.istore 6, 2) := by decide +kernel
theorem dX6_number_36 : decode cX6_number 36 = .ok (.iload 6, 2) := by decide +kernel
theorem dX6_number_38 : decode cX6_number 38 = .ok (.iload 5, 2) := by decide +kernel
theorem dX6_number_40 : decode cX6_number 40 = .ok (.if_icmp .ge 46, 3) := by decide +kernel
theorem dX6_number_43 : decode cX6_number 43 = .ok (.iinc 2 1, 3) := by decide +kernel
theorem dX6_number_46 : decode cX6_number 46 = .ok (.aload_n 0, 1) := by decide +kernel
theorem dX6_number_47 : decode cX6_number 47 = .ok (.getfield 35, 3) := by decide +kernel
theorem dX6_number_50 : decode cX6_number 50 = .ok (.aload_n 0, 1) := by decide +kernel
theorem dX6_number_51 : decode cX6_number 51 = .ok (.iload 4, 2) := by decide +kernel
theorem dX6_number_53 : decode cX6_number 53 = .ok (.iconst 1, 1) := by decide +kernel
theorem dX6_number_54 : decode cX6_number 54 = .ok (.invokevirtual 64, 3) := by decide +kernel
theorem dX6_number_57 : decode cX6_number 57 = .ok (.iload_n 2, 1) := by decide +kernel
theorem dX6_number_58 : decode cX6_number 58 = .ok (.iastore, 1) := by decide +kernel
theorem dX6_number_59 : decode cX6_number 59 = .ok (.aload_n 0, 1) := by decide +kernel
theorem dX6_number_60 : decode cX6_number 60 = .ok (.getfield 35, 3) := by decide +kernel
theorem dX6_number_63 : decode cX6_number 63 = .ok (.aload_n 0, 1) := by decide +kernel
theorem dX6_number_64 : decode cX6_number 64 = .ok (.iload 4, 2) := by decide +kernel
theorem dX6_number_66 : decode cX6_number 66 = .ok (.iconst 0, 1) := by decide +kernel
theorem dX6_number_67 : decode cX6_number 67 = .ok (.invokevirtual 64, 3) := by decide +kernel
theorem dX6_number_70 : decode cX6_number 70 = .ok (.iload_n 2, 1) := by decide +kernel
theorem dX6_number_71 : decode cX6_number 71 = .ok (.iastore, 1) := by decide +kernel
theorem dX6_number_72 : decode cX6_number 72 = .ok (.aload_n 0, 1) := by decide +kernel
theorem dX6_number_73 : decode cX6_number 73 = .ok (.iload 4, 2) := by decide +kernel
theorem dX6_number_75 : decode cX6_number 75 = .ok (.invokevirtual 81, 3) := by decide +kernel
theorem dX6_number_78 : decode cX6_number 78 = .ok (.istore 4, 2) := by decide +kernel
theorem dX6_number_80 : decode cX6_number 80 = .ok (.iinc 6 1, 3) := by decide +kernel
theorem dX6_number_83 : decode cX6_number 83 = .ok (.goto (-47), 3) := by decide +kernel
theorem dX6_number_86 : decode cX6_number 86 = .ok (.iinc 3 1, 3) := by decide +kernel
theorem dX6_number_89 : decode cX6_number 89 = .ok (.goto (-76), 3) := by decide +kernel
theorem dX6_number_92 : decode cX6_number 92 = .ok (.iconst 0, 1) := by decide +kernel
theorem dX6_number_93 : decode cX6_number 93 = .ok (.istore_n 3, 1) := by decide +kernel
theorem dX6_number_94 : decode cX6_number 94 = .ok (.iload_n 3, 1) := by decide +kernel
theorem dX6_number_95 : decode cX6_number 95 = .ok (.iconst 4, 1) := by decide +kernel
theorem dX6_number_96 : decode cX6_number 96 = .ok (.aload_n 0, 1) := by decide +kernel
theorem dX6_number_97 : decode cX6_number 97 = .ok (.getfield 57, 3) := by decide +kernel
theorem dX6_number_100 : decode cX6_number 100 = .ok (.imul, 1) := by decide +kernel
theorem dX6_number_101 : decode cX6_number 101 = .ok (.if_icmp .ge 21, 3) := by decide +kernel
theorem dX6_number_104 : decode cX6_number 104 = .ok (.aload_n 0, 1) := by decide +kernel
theorem dX6_number_105 : decode cX6_number 105 = .ok (.getfield 23, 3) := by decide +kernel
theorem dX6_number_108 : decode cX6_number 108 = .ok (.iload_n 3, 1) := by decide +kernel
theorem dX6_number_109 : decode cX6_number 109 = .ok (.aload_n 0, 1) := by decide +kernel
theorem dX6_number_110 : decode cX6_number 110 = .ok (.getfield 35, 3) := by decide +kernel
theorem dX6_number_113 : decode cX6_number 113 = .ok (.iload_n 3, 1) := by decide +kernel
theorem dX6_number_114 : decode cX6_number 114 = .ok (.iaload, 1) := by decide +kernel
theorem dX6_number_115 : decode cX6_number 115 = .ok (.iastore, 1) := by decide +kernel
theorem dX6_number_116 : decode cX6_number 116 = .ok (.iinc 3 1, 3) := by decide +kernel
theorem dX6_number_119 : decode cX6_number 119 = .ok (.goto (-25), 3) := by decide +kernel
theorem dX6_number_122 : decode cX6_number 122 = .ok (.return_, 1) := by decide +kernel
theorem dX6_rename_0 : decode cX6_rename 0 = .ok (.iconst 0, 1) := by decide +kernel
theorem dX6_rename_1 : decode cX6_rename 1 = .ok (.istore_n 3, 1) := by decide +kernel
theorem dX6_rename_2 : decode cX6_rename 2 = .ok (.iload_n 3, 1) := by decide +kernel
theorem dX6_rename_3 : decode cX6_rename 3 = .ok (.iconst 4, 1) := by decide +kernel
theorem dX6_rename_4 : decode cX6_rename 4 = .ok (.aload_n 0, 1) := by decide +kernel
theorem dX6_rename_5 : decode cX6_rename 5 = .ok (.getfield 57, 3) := by decide +kernel
theorem dX6_rename_8 : decode cX6_rename 8 = .ok (.imul, 1) := by decide +kernel
theorem dX6_rename_9 : decode cX6_rename 9 = .ok (.if_icmp .ge 35, 3) := by decide +kernel
theorem dX6_rename_12 : decode cX6_rename 12 = .ok (.aload_n 0, 1) := by decide +kernel
theorem dX6_rename_13 : decode cX6_rename 13 = .ok (.getfield 23, 3) := by decide +kernel
theorem dX6_rename_16 : decode cX6_rename 16 = .ok (.iload_n 3, 1) := by decide +kernel
theorem dX6_rename_17 : decode cX6_rename 17 = .ok (.aload_n 0, 1) := by decide +kernel
theorem dX6_rename_18 : decode cX6_rename 18 = .ok (.getfield 23, 3) := by decide +kernel
theorem dX6_rename_21 : decode cX6_rename 21 = .ok (.iload_n 3, 1) := by decide +kernel
theorem dX6_rename_22 : decode cX6_rename 22 = .ok (.iaload, 1) := by decide +kernel
theorem dX6_rename_23 : decode cX6_rename 23 = .ok (.iload_n 1, 1) := by decide +kernel
theorem dX6_rename_24 : decode cX6_rename 24 = .ok (.if_icmp .ne 7, 3) := by decide +kernel
theorem dX6_rename_27 : decode cX6_rename 27 = .ok (.iload_n 2, 1) := by decide +kernel
theorem dX6_rename_28 : decode cX6_rename 28 = .ok (.goto 9, 3) := by decide +kernel
theorem dX6_rename_31 : decode cX6_rename 31 = .ok (.aload_n 0, 1) := by decide +kernel
theorem dX6_rename_32 : decode cX6_rename 32 = .ok (.getfield 23, 3) := by decide +kernel
theorem dX6_rename_35 : decode cX6_rename 35 = .ok (.iload_n 3, 1) := by decide +kernel
theorem dX6_rename_36 : decode cX6_rename 36 = .ok (.iaload, 1) := by decide +kernel
theorem dX6_rename_37 : decode cX6_rename 37 = .ok (.iastore, 1) := by decide +kernel
theorem dX6_rename_38 : decode cX6_rename 38 = .ok (.iinc 3 1, 3) := by decide +kernel
theorem dX6_rename_41 : decode cX6_rename 41 = .ok (.goto (-39), 3) := by decide +kernel
theorem dX6_rename_44 : decode cX6_rename 44 = .ok (.iconst 0, 1) := by decide +kernel
theorem dX6_rename_45 : decode cX6_rename 45 = .ok (.istore_n 3, 1) := by decide +kernel
theorem dX6_rename_46 : decode cX6_rename 46 = .ok (.iload_n 3, 1) := by decide +kernel
theorem dX6_rename_47 : decode cX6_rename 47 = .ok (.iconst 4, 1) := by decide +kernel
theorem dX6_rename_48 : decode cX6_rename 48 = .ok (.if_icmp .ge 35, 3) := by decide +kernel
theorem dX6_rename_51 : decode cX6_rename 51 = .ok (.aload_n 0, 1) := by decide +kernel
theorem dX6_rename_52 : decode cX6_rename 52 = .ok (.getfield 35, 3) := by decide +kernel
theorem dX6_rename_55 : decode cX6_rename 55 = .ok (.iload_n 3, 1) := by decide +kernel
theorem dX6_rename_56 : decode cX6_rename 56 = .ok (.aload_n 0, 1) := by decide +kernel
theorem dX6_rename_57 : decode cX6_rename 57 = .ok (.getfield 35, 3) := by decide +kernel
theorem dX6_rename_60 : decode cX6_rename 60 = .ok (.iload_n 3, 1) := by decide +kernel
theorem dX6_rename_61 : decode cX6_rename 61 = .ok (.iaload, 1) := by decide +kernel
theorem dX6_rename_62 : decode cX6_rename 62 = .ok (.iload_n 1, 1) := by decide +kernel
theorem dX6_rename_63 : decode cX6_rename 63 = .ok (.if_icmp .ne 7, 3) := by decide +kernel
theorem dX6_rename_66 : decode cX6_rename 66 = .ok (.iload_n 2, 1) := by decide +kernel
theorem dX6_rename_67 : decode cX6_rename 67 = .ok (.goto 9, 3) := by decide +kernel
theorem dX6_rename_70 : decode cX6_rename 70 = .ok (.aload_n 0, 1) := by decide +kernel
theorem dX6_rename_71 : decode cX6_rename 71 = .ok (.getfield 35, 3) := by decide +kernel
theorem dX6_rename_74 : decode cX6_rename 74 = .ok (.iload_n 3, 1) := by decide +kernel
theorem dX6_rename_75 : decode cX6_rename 75 = .ok (.iaload, 1) := by decide +kernel
theorem dX6_rename_76 : decode cX6_rename 76 = .ok (.iastore, 1) := by decide +kernel
theorem dX6_rename_77 : decode cX6_rename 77 = .ok (.iinc 3 1, 3) := by decide +kernel
theorem dX6_rename_80 : decode cX6_rename 80 = .ok (.goto (-34), 3) := by decide +kernel
theorem dX6_rename_83 : decode cX6_rename 83 = .ok (.return_, 1) := by decide +kernel
set_option maxRecDepth 20000 in
theorem ggX6_join_X6_rename : GoodIn wsX6_join wsX6_rename := goodIn_r _ [6, 7, 8, 9, 10, 11, 12, 13, 14, 15, 16, 17, 18, 19, 20, 21, 22, 23, 24, 25, 26, 27, 28, 29, 30, 31, 32] (by decide +kernel) (by decide +kernel)
set_option maxRecDepth 20000 in
theorem gX6_join_X6_rename : GoodIn wsX6_join (wsV RX6 190 RX6 yX6_rename wsX6_rename) := goodIn_app (goodIn_of _ (by decide +kernel)) ggX6_join_X6_rename
theorem dX6_join_0 : decode cX6_join 0 = .ok (.iload_n 1, 1) := by decide +kernel
theorem dX6_join_1 : decode cX6_join 1 = .ok (.iload_n 2, 1) := by decide +kernel
theorem dX6_join_2 : decode cX6_join 2 = .ok (.if_icmp .ne 16, 3) := by decide +kernel
theorem dX6_join_5 : decode cX6_join 5 = .ok (.aload_n 0, 1) := by decide +kernel
theorem dX6_join_6 : decode cX6_join 6 = .ok (.dup, 1) := by decide +kernel
theorem dX6_join_7 : decode cX6_join 7 = .ok (.getfield 105, 3) := by decide +kernel
theorem dX6_join_10 : decode cX6_join 10 = .ok (.iconst 1, 1) := by decide +kernel
theorem dX6_join_11 : decode cX6_join 11 = .ok (.iadd, 1) := by decide +kernel
theorem dX6_join_12 : decode cX6_join 12 = .ok (.putfield 105, 3) := by decide +kernel
theorem dX6_join_15 : decode cX6_join 15 = .ok (.goto 27, 3) := by decide +kernel
theorem dX6_join_18 : decode cX6_join 18 = .ok (.aload_n 0, 1) := by decide +kernel
theorem dX6_join_19 : decode cX6_join 19 = .ok (.iload_n 1, 1) := by decide +kernel
theorem dX6_join_20 : decode cX6_join 20 = .ok (.iload_n 2, 1) := by decide +kernel
theorem dX6_join_21 : decode cX6_join 21 = .ok (.if_icmp .ge 7, 3) := by decide +kernel
theorem dX6_join_24 : decode cX6_join 24 = .ok (.iload_n 2, 1) := by decide +kernel
theorem dX6_join_25 : decode cX6_join 25 = .ok (.goto 4, 3) := by decide +kernel
theorem dX6_join_28 : decode cX6_join 28 = .ok (.iload_n 1, 1) := by decide +kernel
theorem dX6_join_29 : decode cX6_join 29 = .ok (.iload_n 1, 1) := by decide +kernel
theorem dX6_join_30 : decode cX6_join 30 = .ok (.iload_n 2, 1) := by decide +kernel
theorem dX6_join_31 : decode cX6_join 31 = .ok (.if_icmp .ge 7, 3) := by decide +kernel
theorem dX6_join_34 : decode cX6_join 34 = .ok (.iload_n 1, 1) := by decide +kernel
theorem dX6_join_35 : decode cX6_join 35 = .ok (.goto 4, 3) := by decide +kernel
theorem dX6_join_38 : decode cX6_join 38 = .ok (.iload_n 2, 1) := by decide +kernel
theorem dX6_join_39 : decode cX6_join 39 = .ok (.invokevirtual 190, 3) := by decide +kernel
theorem dX6_join_42 : decode cX6_join 42 = .ok (.return_, 1) := by decide +kernel
set_option maxRecDepth 20000 in
theorem ggX6_smooth_X6_upperIn : GoodIn wsX6_smooth wsX6_upperIn := goodIn_r _ [9, 4, 19, 20, 21, 22, 23, 24, 25, 26, 27, 28, 29, 30, 31, 32, 33, 34, 35, 36, 37, 38, 39, 40, 41] (by decide +kernel) (by decide +kernel)
set_option maxRecDepth 20000 in
theorem gX6_smooth_X6_upperIn : GoodIn wsX6_smooth (wsV RX6 140 RX6 yX6_upperIn wsX6_upperIn) := goodIn_app (goodIn_of _ (by decide +kernel)) ggX6_smooth_X6_upperIn
set_option maxRecDepth 20000 in
theorem ggX6_smooth_X6_join : GoodIn wsX6_smooth wsX6_join := goodIn_r _ [13, 14, 15, 16, 17, 8, 18, 1, 3, 2, 19, 20, 21, 22, 23, 24, 25, 26, 27, 28, 29, 30, 31, 32, 33, 34, 35, 36, 37, 38, 39, 40, 41] (by decide +kernel) (by decide +kernel)
set_option maxRecDepth 20000 in
theorem gX6_smooth_X6_join : GoodIn wsX6_smooth (wsV RX6 194 RX6 yX6_join wsX6_join) := goodIn_app (goodIn_of _ (by decide +kernel)) ggX6_smooth_X6_join
theorem dX6_smooth_0 : decode cX6_smooth 0 = .ok (.iload_n 1, 1) := by decide +kernel
theorem dX6_smooth_1 : decode cX6_smooth 1 = .ok (.ifCond .lt 11, 3) := by decide +kernel
theorem dX6_smooth_4 : decode cX6_smooth 4 = .ok (.iload_n 1, 1) := by decide +kernel
theorem dX6_smooth_5 : decode cX6_smooth 5 = .ok (.aload_n 0, 1) := by decide +kernel
theorem dX6_smooth_6 : decode cX6_smooth 6 = .ok (.getfield 57, 3) := by decide +kernel
theorem dX6_smooth_9 : decode cX6_smooth 9 = .ok (.if_icmp .lt 5, 3) := by decide +kernel
theorem dX6_smooth_12 : decode cX6_smooth 12 = .ok (.iconst 0, 1) := by decide +kernel
theorem dX6_smooth_13 : decode cX6_smooth 13 = .ok (.ireturn, 1) := by decide +kernel
theorem dX6_smooth_14 : decode cX6_smooth 14 = .ok (.aload_n 0, 1) := by decide +kernel
theorem dX6_smooth_15 : decode cX6_smooth 15 = .ok (.iload_n 1, 1) := by decide +kernel
theorem dX6_smooth_16 : decode cX6_smooth 16 = .ok (.invokevirtual 140, 3) := by decide +kernel
theorem dX6_smooth_19 : decode cX6_smooth 19 = .ok (.istore_n 2, 1) := by decide +kernel
theorem dX6_smooth_20 : decode cX6_smooth 20 = .ok (.aload_n 0, 1) := by decide +kernel
theorem dX6_smooth_21 : decode cX6_smooth 21 = .ok (.getfield 35, 3) := by decide +kernel
theorem dX6_smooth_24 : decode cX6_smooth 24 = .ok (.iconst 0, 1) := by decide +kernel
theorem dX6_smooth_25 : decode cX6_smooth 25 = .ok (.aload_n 0, 1) := by decide +kernel
theorem dX6_smooth_26 : decode cX6_smooth 26 = .ok (.getfield 23, 3) := by decide +kernel
theorem dX6_smooth_29 : decode cX6_smooth 29 = .ok (.iconst 4, 1) := by decide +kernel
theorem dX6_smooth_30 : decode cX6_smooth 30 = .ok (.iload_n 1, 1) := by decide +kernel
theorem dX6_smooth_31 : decode cX6_smooth 31 = .ok (.imul, 1) := by decide +kernel
theorem dX6_smooth_32 : decode cX6_smooth 32 = .ok (.iaload, 1) := by decide +kernel
theorem dX6_smooth_33 : decode cX6_smooth 33 = .ok (.iastore, 1) := by decide +kernel
theorem dX6_smooth_34 : decode cX6_smooth 34 = .ok (.aload_n 0, 1) := by decide +kernel
theorem dX6_smooth_35 : decode cX6_smooth 35 = .ok (.getfield 35, 3) := by decide +kernel
theorem dX6_smooth_38 : decode cX6_smooth 38 = .ok (.iconst 1, 1) := by decide +kernel
theorem dX6_smooth_39 : decode cX6_smooth 39 = .ok (.aload_n 0, 1) := by decide +kernel
theorem dX6_smooth_40 : decode cX6_smooth 40 = .ok (.getfield 23, 3) := by decide +kernel
theorem dX6_smooth_43 : decode cX6_smooth 43 = .ok (.iconst 4, 1) := by decide +kernel
theorem dX6_smooth_44 : decode cX6_smooth 44 = .ok (.iload_n 1, 1) := by decide +kernel
theorem dX6_smooth_45 : decode cX6_smooth 45 = .ok (.imul, 1) := by decide +kernel
theorem dX6_smooth_46 : decode cX6_smooth 46 = .ok (.iload_n 2, 1) := by decide +kernel
theorem dX6_smooth_47 : decode cX6_smooth 47 = .ok (.iconst 2, 1) := by decide +kernel
theorem dX6_smooth_48 : decode cX6_smooth 48 = .ok (.iadd, 1) := by decide +kernel
theorem dX6_smooth_49 : decode cX6_smooth 49 = .ok (.iconst 4, 1) := by decide +kernel
theorem dX6_smooth_50 : decode cX6_smooth 50 = .ok (.irem, 1) := by decide +kernel
theorem dX6_smooth_51 : decode cX6_smooth 51 = .ok (.iadd, 1) := by decide +kernel
theorem dX6_smooth_52 : decode cX6_smooth 52 = .ok (.iaload, 1) := by decide +kernel
theorem dX6_smooth_53 : decode cX6_smooth 53 = .ok (.iastore, 1) := by decide +kernel
theorem dX6_smooth_54 : decode cX6_smooth 54 = .ok (.aload_n 0, 1) := by decide +kernel
theorem dX6_smooth_55 : decode cX6_smooth 55 = .ok (.getfield 35, 3) := by decide +kernel
theorem dX6_smooth_58 : decode cX6_smooth 58 = .ok (.iconst 2, 1) := by decide +kernel
theorem dX6_smooth_59 : decode cX6_smooth 59 = .ok (.aload_n 0, 1) := by decide +kernel
theorem dX6_smooth_60 : decode cX6_smooth 60 = .ok (.getfield 23, 3) := by decide +kernel
theorem dX6_smooth_63 : decode cX6_smooth 63 = .ok (.iconst 4, 1) := by decide +kernel
theorem dX6_smooth_64 : decode cX6_smooth 64 = .ok (.iload_n 1, 1) := by decide +kernel
theorem dX6_smooth_65 : decode cX6_smooth 65 = .ok (.imul, 1) := by decide +kernel
theorem dX6_smooth_66 : decode cX6_smooth 66 = .ok (.iload_n 2, 1) := by decide +kernel
theorem dX6_smooth_67 : decode cX6_smooth 67 = .ok (.iadd, 1) := by decide +kernel
theorem dX6_smooth_68 : decode cX6_smooth 68 = .ok (.iaload, 1) := by decide +kernel
theorem dX6_smooth_69 : decode cX6_smooth 69 = .ok (.iastore, 1) := by decide +kernel
theorem dX6_smooth_70 : decode cX6_smooth 70 = .ok (.aload_n 0, 1) := by decide +kernel
theorem dX6_smooth_71 : decode cX6_smooth 71 = .ok (.getfield 35, 3) := by decide +kernel
theorem dX6_smooth_74 : decode cX6_smooth 74 = .ok (.iconst 3, 1) := by decide +kernel
theorem dX6_smooth_75 : decode cX6_smooth 75 = .ok (.aload_n 0, 1) := by decide +kernel
theorem dX6_smooth_76 : decode cX6_smooth 76 = .ok (.getfield 23, 3) := by decide +kernel
theorem dX6_smooth_79 : decode cX6_smooth 79 = .ok (.iconst 4, 1) := by decide +kernel
theorem dX6_smooth_80 : decode cX6_smooth 80 = .ok (.iload_n 1, 1) := by decide +kernel
theorem dX6_smooth_81 : decode cX6_smooth 81 = .ok (.imul, 1) := by decide +kernel
theorem dX6_smooth_82 : decode cX6_smooth 82 = .ok (.iconst 2, 1) := by decide +kernel
theorem dX6_smooth_83 : decode cX6_smooth 83 = .ok (.iadd, 1) := by decide +kernel
theorem dX6_smooth_84 : decode cX6_smooth 84 = .ok (.iaload, 1) := by decide +kernel
theorem dX6_smooth_85 : decode cX6_smooth 85 = .ok (.iastore, 1) := by decide +kernel
theorem dX6_smooth_86 : decode cX6_smooth 86 = .ok (.aload_n 0, 1) := by decide +kernel
theorem dX6_smooth_87 : decode cX6_smooth 87 = .ok (.dup, 1) := by decide +kernel
theorem dX6_smooth_88 : decode cX6_smooth 88 = .ok (.getfield 57, 3) := by decide +kernel
theorem dX6_smooth_91 : decode cX6_smooth 91 = .ok (.iconst 1, 1) := by decide +kernel
theorem dX6_smooth_92 : decode cX6_smooth 92 = .ok (.isub, 1) := by decide +kernel
theorem dX6_smooth_93 : decode cX6_smooth 93 = .ok (.putfield 57, 3) := by decide +kernel
theorem dX6_smooth_96 : decode cX6_smooth 96 = .ok (.iload_n 1, 1) := by decide +kernel
theorem dX6_smooth_97 : decode cX6_smooth 97 = .ok (.istore_n 3, 1) := by decide +kernel
theorem dX6_smooth_98 : decode cX6_smooth 98 = .ok (.iload_n 3, 1) := by decide +kernel
theorem dX6_smooth_99 : decode cX6_smooth 99 = .ok (.aload_n 0, 1) := by decide +kernel
theorem dX6_smooth_100 : decode cX6_smooth 100 = .ok (.getfield 57, 3) := by decide +kernel
theorem dX6_smooth_103 : decode cX6_smooth 103 = .ok (.if_icmp .ge 62, 3) := by decide +kernel
theorem dX6_smooth_106 : decode cX6_smooth 106 = .ok (.aload_n 0, 1) := by decide +kernel
theorem dX6_smooth_107 : decode cX6_smooth 107 = .ok (.getfield 20, 3) := by decide +kernel
theorem dX6_smooth_110 : decode cX6_smooth 110 = .ok (.iload_n 3, 1) := by decide +kernel
theorem dX6_smooth_111 : decode cX6_smooth 111 = .ok (.aload_n 0, 1) := by decide +kernel
theorem dX6_smooth_112 : decode cX6_smooth 112 = .ok (.getfield 20, 3) := by decide +kernel
theorem dX6_smooth_115 : decode cX6_smooth 115 = .ok (.iload_n 3, 1) := by decide +kernel
theorem dX6_smooth_116 : decode cX6_smooth 116 = .ok (.iconst 1, 1) := by decide +kernel
theorem dX6_smooth_117 : decode cX6_smooth 117 = .ok (.iadd, 1) := by decide +kernel
theorem dX6_smooth_118 : decode cX6_smooth 118 = .ok (.iaload, 1) := by decide +kernel
theorem dX6_smooth_119 : decode cX6_smooth 119 = .ok (.iastore, 1) := by decide +kernel
theorem dX6_smooth_120 : decode cX6_smooth 120 = .ok (.iconst 0, 1) := by decide +kernel
theorem dX6_smooth_121 : decode cX6_smooth 121 = .ok (.istore 4, 2) := by decide +kernel
theorem dX6_smooth_123 : decode cX6_smooth 123 = .ok (.iload 4, 2) := by decide +kernel
theorem dX6_smooth_125 : decode cX6_smooth 125 = .ok (.iconst 4, 1) := by decide +kernel
theorem dX6_smooth_126 : decode cX6_smooth 126 = .ok (.if_icmp .ge 33, 3) := by decide +kernel
theorem dX6_smooth_129 : decode cX6_smooth 129 = .ok (.aload_n 0, 1) := by decide +kernel
theorem dX6_smooth_130 : decode cX6_smooth 130 = .ok (.getfield 23, 3) := by decide +kernel
theorem dX6_smooth_133 : decode cX6_smooth 133 = .ok (.iconst 4, 1) := by decide +kernel
theorem dX6_smooth_134 : decode cX6_smooth 134 = .ok (.iload_n 3, 1) := by decide +kernel
theorem dX6_smooth_135 : decode cX6_smooth 135 = .ok (.imul, 1) := by decide +kernel
theorem dX6_smooth_136 : decode cX6_smooth 136 = .ok (.iload 4, 2) := by decide +kernel
theorem dX6_smooth_138 : decode cX6_smooth 138 = .ok (.iadd, 1) := by decide +kernel
theorem dX6_smooth_139 : decode cX6_smooth 139 = .ok (.aload_n 0, 1) := by decide +kernel
theorem dX6_smooth_140 : decode cX6_smooth 140 = .ok (.getfield 23, 3) := by decide +kernel
theorem dX6_smooth_143 : decode cX6_smooth 143 = .ok (.iconst 4, 1) := by decide +kernel
theorem dX6_smooth_144 : decode cX6_smooth 144 = .ok (.iload_n 3, 1) := by decide +kernel
theorem dX6_smooth_145 : decode cX6_smooth 145 = .ok (.imul, 1) := by decide +kernel
theorem dX6_smooth_146 : decode cX6_smooth 146 = .ok (.iconst 4, 1) := by decide +kernel
theorem dX6_smooth_147 : decode cX6_smooth 147 = .ok (.iadd, 1) := by decide +kernel
theorem dX6_smooth_148 : decode cX6_smooth 148 = .ok (.iload 4, 2) := by decide +kernel
theorem dX6_smooth_150 : decode cX6_smooth 150 = .ok (.iadd, 1) := by decide +kernel
theorem dX6_smooth_151 : decode cX6_smooth 151 = .ok (.iaload, 1) := by decide +kernel
theorem dX6_smooth_152 : decode cX6_smooth 152 = .ok (.iastore, 1) := by decide +kernel
theorem dX6_smooth_153 : decode cX6_smooth 153 = .ok (.iinc 4 1, 3) := by decide +kernel
theorem dX6_smooth_156 : decode cX6_smooth 156 = .ok (.goto (-33), 3) := by decide +kernel
theorem dX6_smooth_159 : decode cX6_smooth 159 = .ok (.iinc 3 1, 3) := by decide +kernel
theorem dX6_smooth_162 : decode cX6_smooth 162 = .ok (.goto (-64), 3) := by decide +kernel
theorem dX6_smooth_165 : decode cX6_smooth 165 = .ok (.aload_n 0, 1) := by decide +kernel
theorem dX6_smooth_166 : decode cX6_smooth 166 = .ok (.aload_n 0, 1) := by decide +kernel
theorem dX6_smooth_167 : decode cX6_smooth 167 = .ok (.getfield 35, 3) := by decide +kernel
theorem dX6_smooth_170 : decode cX6_smooth 170 = .ok (.iconst 0, 1) := by decide +kernel
theorem dX6_smooth_171 : decode cX6_smooth 171 = .ok (.iaload, 1) := by decide +kernel
theorem dX6_smooth_172 : decode cX6_smooth 172 = .ok (.aload_n 0, 1) := by decide +kernel
theorem dX6_smooth_173 : decode cX6_smooth 173 = .ok (.getfield 35, 3) := by decide +kernel
theorem dX6_smooth_176 : decode cX6_smooth 176 = .ok (.iconst 1, 1) := by decide +kernel
theorem dX6_smooth_177 : decode cX6_smooth 177 = .ok (.iaload, 1) := by decide +kernel
theorem dX6_smooth_178 : decode cX6_smooth 178 = .ok (.invokevirtual 194, 3) := by decide +kernel
theorem dX6_smooth_181 : decode cX6_smooth 181 = .ok (.aload_n 0, 1) := by decide +kernel
theorem dX6_smooth_182 : decode cX6_smooth 182 = .ok (.aload_n 0, 1) := by decide +kernel
theorem dX6_smooth_183 : decode cX6_smooth 183 = .ok (.getfield 35, 3) := by decide +kernel
theorem dX6_smooth_186 : decode cX6_smooth 186 = .ok (.iconst 2, 1) := by decide +kernel
theorem dX6_smooth_187 : decode cX6_smooth 187 = .ok (.iaload, 1) := by decide +kernel
theorem dX6_smooth_188 : decode cX6_smooth 188 = .ok (.aload_n 0, 1) := by decide +kernel
theorem dX6_smooth_189 : decode cX6_smooth 189 = .ok (.getfield 35, 3) := by decide +kernel
theorem dX6_smooth_192 : decode cX6_smooth 192 = .ok (.iconst 3, 1) := by decide +kernel
theorem dX6_smooth_193 : decode cX6_smooth 193 = .ok (.iaload, 1) := by decide +kernel
theorem dX6_smooth_194 : decode cX6_smooth 194 = .ok (.invokevirtual 194, 3) := by decide +kernel
theorem dX6_smooth_197 : decode cX6_smooth 197 = .ok (.iconst 1, 1) := by decide +kernel
theorem dX6_smooth_198 : decode cX6_smooth 198 = .ok (.ireturn, 1) := by decide +kernel
theorem dJ9_max_7cf53_0 : decode cJ9_max_7cf53 0 = .ok (.iload_n 0, 1) := by decide +kernel
theorem dJ9_max_7cf53_1 : decode cJ9_max_7cf53 1 = .ok (.iload_n 1, 1) := by decide +kernel
theorem dJ9_max_7cf53_2 : decode cJ9_max_7cf53 2 = .ok (.if_icmp .lt 7, 3) := by decide +kernel
theorem dJ9_max_7cf53_5 : decode cJ9_max_7cf53 5 = .ok (.iload_n 0, 1) := by decide +kernel
theorem dJ9_max_7cf53_6 : decode cJ9_max_7cf53 6 = .ok (.goto 4, 3) := by decide +kernel
theorem dJ9_max_7cf53_9 : decode cJ9_max_7cf53 9 = .ok (.iload_n 1, 1) := by decide +kernel
theorem dJ9_max_7cf53_10 : decode cJ9_max_7cf53 10 = .ok (.ireturn, 1) := by decide +kernel
theorem dJ9_min_7cf53_0 : decode cJ9_min_7cf53 0 = .ok (.iload_n 0, 1) := by decide +kernel
theorem dJ9_min_7cf53_1 : decode cJ9_min_7cf53 1 = .ok (.iload_n 1, 1) := by decide +kernel
theorem dJ9_min_7cf53_2 : decode cJ9_min_7cf53 2 = .ok (.if_icmp .gt 7, 3) := by decide +kernel
theorem dJ9_min_7cf53_5 : decode cJ9_min_7cf53 5 = .ok (.iload_n 0, 1) := by decide +kernel
theorem dJ9_min_7cf53_6 : decode cJ9_min_7cf53 6 = .ok (.goto 4, 3) := by decide +kernel
theorem dJ9_min_7cf53_9 : decode cJ9_min_7cf53 9 = .ok (.iload_n 1, 1) := by decide +kernel
theorem dJ9_min_7cf53_10 : decode cJ9_min_7cf53 10 = .ok (.ireturn, 1) := by decide +kernel
theorem dJ7_fill_53178_0 : decode cJ7_fill_53178 0 = .ok (.iconst 0, 1) := by decide +kernel
theorem dJ7_fill_53178_1 : decode cJ7_fill_53178 1 = .ok (.istore_n 2, 1) := by decide +kernel
theorem dJ7_fill_53178_2 : decode cJ7_fill_53178 2 = .ok (.aload_n 0, 1) := by decide +kernel
theorem dJ7_fill_53178_3 : decode cJ7_fill_53178 3 = .ok (.arraylength, 1) := by decide +kernel
theorem dJ7_fill_53178_4 : decode cJ7_fill_53178 4 = .ok (.istore_n 3, 1) := by decide +kernel
theorem dJ7_fill_53178_5 : decode cJ7_fill_53178 5 = .ok (.iload_n 2, 1) := by decide +kernel
theorem dJ7_fill_53178_6 : decode cJ7_fill_53178 6 = .ok (.iload_n 3, 1) := by decide +kernel
theorem dJ7_fill_53178_7 : decode cJ7_fill_53178 7 = .ok (.if_icmp .ge 13, 3) := by decide +kernel
theorem dJ7_fill_53178_10 : decode cJ7_fill_53178 10 = .ok (.aload_n 0, 1) := by decide +kernel
theorem dJ7_fill_53178_11 : decode cJ7_fill_53178 11 = .ok (.iload_n 2, 1) := by decide +kernel
theorem dJ7_fill_53178_12 : decode cJ7_fill_53178 12 = .ok (.iload_n 1, 1) := by decide +kernel
theorem dJ7_fill_53178_13 : decode cJ7_fill_53178 13 = .ok (.iastore, 1) := by decide +kernel
theorem dJ7_fill_53178_14 : decode cJ7_fill_53178 14 = .ok (.iinc 2 1, 3) := by decide +kernel
theorem dJ7_fill_53178_17 : decode cJ7_fill_53178 17 = .ok (.goto (-12), 3) := by decide +kernel
theorem dJ7_fill_53178_20 : decode cJ7_fill_53178 20 = .ok (.return_, 1) := by decide +kernel
theorem dL_law_0 : decode cL_law 0 = .ok (.new 7, 3) := by decide +kernel
theorem dL_law_3 : decode cL_law 3 = .ok (.dup, 1) := by decide +kernel
theorem dL_law_4 : decode cL_law 4 = .ok (.invokespecial 9, 3) := by decide +kernel
theorem dL_law_7 : decode cL_law 7 = .ok (.astore_n 1, 1) := by decide +kernel
theorem dL_law_8 : decode cL_law 8 = .ok (.new 10, 3) := by decide +kernel
theorem dL_law_11 : decode cL_law 11 = .ok (.dup, 1) := by decide +kernel
theorem dL_law_12 : decode cL_law 12 = .ok (.invokespecial 12, 3) := by decide +kernel
theorem dL_law_15 : decode cL_law 15 = .ok (.astore_n 2, 1) := by decide +kernel
theorem dL_law_16 : decode cL_law 16 = .ok (.iconst 0, 1) := by decide +kernel
theorem dL_law_17 : decode cL_law 17 = .ok (.istore_n 3, 1) := by decide +kernel
theorem dL_law_18 : decode cL_law 18 = .ok (.iload_n 3, 1) := by decide +kernel
theorem dL_law_19 : decode cL_law 19 = .ok (.aload_n 0, 1) := by decide +kernel
theorem dL_law_20 : decode cL_law 20 = .ok (.arraylength, 1) := by decide +kernel
theorem dL_law_21 : decode cL_law 21 = .ok (.bipush 6, 2) := by decide +kernel
theorem dL_law_23 : decode cL_law 23 = .ok (.isub, 1) := by decide +kernel
theorem dL_law_24 : decode cL_law 24 = .ok (.if_icmp .gt 427, 3) := by decide +kernel
theorem dL_law_27 : decode cL_law 27 = .ok (.aload_n 0, 1) := by decide +kernel
theorem dL_law_28 : decode cL_law 28 = .ok (.iload_n 3, 1) := by decide +kernel
end
section
theorem dL_law_29 : decode cL_law 29 = .ok (.iaload, 1) := by decide +kernel
theorem dL_law_30 : decode cL_law 30 = .ok (.bipush 15, 2) := by decide +kernel
theorem dL_law_32 : decode cL_law 32 = .ok (.iand, 1) := by decide +kernel
theorem dL_law_33 : decode cL_law 33 = .ok (.tableswitch 412 0 12 #[67, 130, 153, 166, 189, 222, 255, 288, 321, 332, 355, 366, 389], 67) := by decide +kernel
theorem dL_law_100 : decode cL_law 100 = .ok (.aload_n 1, 1) := by decide +kernel
theorem dL_law_101 : decode cL_law 101 = .ok (.aload_n 0, 1) := by decide +kernel
theorem dL_law_102 : decode cL_law 102 = .ok (.iload_n 3, 1) := by decide +kernel
theorem dL_law_103 : decode cL_law 103 = .ok (.iconst 1, 1) := by decide +kernel
theorem dL_law_104 : decode cL_law 104 = .ok (.iadd, 1) := by decide +kernel
theorem dL_law_105 : decode cL_law 105 = .ok (.iaload, 1) := by decide +kernel
theorem dL_law_106 : decode cL_law 106 = .ok (.aload_n 0, 1) := by decide +kernel
theorem dL_law_107 : decode cL_law 107 = .ok (.iload_n 3, 1) := by decide +kernel
theorem dL_law_108 : decode cL_law 108 = .ok (.iconst 2, 1) := by decide +kernel
theorem dL_law_109 : decode cL_law 109 = .ok (.iadd, 1) := by decide +kernel
theorem dL_law_110 : decode cL_law 110 = .ok (.iaload, 1) := by decide +kernel
theorem dL_law_111 : decode cL_law 111 = .ok (.aload_n 0, 1) := by decide +kernel
theorem dL_law_112 : decode cL_law 112 = .ok (.iload_n 3, 1) := by decide +kernel
theorem dL_law_113 : decode cL_law 113 = .ok (.iconst 3, 1) := by decide +kernel
theorem dL_law_114 : decode cL_law 114 = .ok (.iadd, 1) := by decide +kernel
theorem dL_law_115 : decode cL_law 115 = .ok (.iaload, 1) := by decide +kernel
theorem dL_law_116 : decode cL_law 116 = .ok (.aload_n 0, 1) := by decide +kernel
theorem dL_law_117 : decode cL_law 117 = .ok (.iload_n 3, 1) := by decide +kernel
theorem dL_law_118 : decode cL_law 118 = .ok (.iconst 4, 1) := by decide +kernel
theorem dL_law_119 : decode cL_law 119 = .ok (.iadd, 1) := by decide +kernel
theorem dL_law_120 : decode cL_law 120 = .ok (.iaload, 1) := by decide +kernel
theorem dL_law_121 : decode cL_law 121 = .ok (.aload_n 0, 1) := by decide +kernel
theorem dL_law_122 : decode cL_law 122 = .ok (.iload_n 3, 1) := by decide +kernel
theorem dL_law_123 : decode cL_law 123 = .ok (.iconst 5, 1) := by decide +kernel
theorem dL_law_124 : decode cL_law 124 = .ok (.iadd, 1) := by decide +kernel
theorem dL_law_125 : decode cL_law 125 = .ok (.iaload, 1) := by decide +kernel
theorem dL_law_126 : decode cL_law 126 = .ok (.invokevirtual 13, 3) := by decide +kernel
theorem dL_law_129 : decode cL_law 129 = .ok (.aload_n 2, 1) := by decide +kernel
theorem dL_law_130 : decode cL_law 130 = .ok (.aload_n 0, 1) := by decide +kernel
theorem dL_law_131 : decode cL_law 131 = .ok (.iload_n 3, 1) := by decide +kernel
theorem dL_law_132 : decode cL_law 132 = .ok (.iconst 1, 1) := by decide +kernel
theorem dL_law_133 : decode cL_law 133 = .ok (.iadd, 1) := by decide +kernel
theorem dL_law_134 : decode cL_law 134 = .ok (.iaload, 1) := by decide +kernel
theorem dL_law_135 : decode cL_law 135 = .ok (.aload_n 0, 1) := by decide +kernel
theorem dL_law_136 : decode cL_law 136 = .ok (.iload_n 3, 1) := by decide +kernel
theorem dL_law_137 : decode cL_law 137 = .ok (.iconst 2, 1) := by decide +kernel
theorem dL_law_138 : decode cL_law 138 = .ok (.iadd, 1) := by decide +kernel
theorem dL_law_139 : decode cL_law 139 = .ok (.iaload, 1) := by decide +kernel
theorem dL_law_140 : decode cL_law 140 = .ok (.aload_n 0, 1) := by decide +kernel
theorem dL_law_141 : decode cL_law 141 = .ok (.iload_n 3, 1) := by decide +kernel
theorem dL_law_142 : decode cL_law 142 = .ok (.iconst 3, 1) := by decide +kernel
theorem dL_law_143 : decode cL_law 143 = .ok (.iadd, 1) := by decide +kernel
theorem dL_law_144 : decode cL_law 144 = .ok (.iaload, 1) := by decide +kernel
theorem dL_law_145 : decode cL_law 145 = .ok (.aload_n 0, 1) := by decide +kernel
theorem dL_law_146 : decode cL_law 146 = .ok (.iload_n 3, 1) := by decide +kernel
theorem dL_law_147 : decode cL_law 147 = .ok (.iconst 4, 1) := by decide +kernel
theorem dL_law_148 : decode cL_law 148 = .ok (.iadd, 1) := by decide +kernel
theorem dL_law_149 : decode cL_law 149 = .ok (.iaload, 1) := by decide +kernel
theorem dL_law_150 : decode cL_law 150 = .ok (.aload_n 0, 1) := by decide +kernel
theorem dL_law_151 : decode cL_law 151 = .ok (.iload_n 3, 1) := by decide +kernel
theorem dL_law_152 : decode cL_law 152 = .ok (.iconst 5, 1) := by decide +kernel
theorem dL_law_153 : decode cL_law 153 = .ok (.iadd, 1) := by decide +kernel
theorem dL_law_154 : decode cL_law 154 = .ok (.iaload, 1) := by decide +kernel
theorem dL_law_155 : decode cL_law 155 = .ok (.invokevirtual 17, 3) := by decide +kernel
theorem dL_law_158 : decode cL_law 158 = .ok (.if_icmp .eq 287, 3) := by decide +kernel
theorem dL_law_161 : decode cL_law 161 = .ok (.iconst 0, 1) := by decide +kernel
theorem dL_law_162 : decode cL_law 162 = .ok (.ireturn, 1) := by decide +kernel
theorem dL_law_163 : decode cL_law 163 = .ok (.aload_n 1, 1) := by decide +kernel
theorem dL_law_164 : decode cL_law 164 = .ok (.aload_n 0, 1) := by decide +kernel
theorem dL_law_165 : decode cL_law 165 = .ok (.iload_n 3, 1) := by decide +kernel
theorem dL_law_166 : decode cL_law 166 = .ok (.iconst 1, 1) := by decide +kernel
theorem dL_law_167 : decode cL_law 167 = .ok (.iadd, 1) := by decide +kernel
theorem dL_law_168 : decode cL_law 168 = .ok (.iaload, 1) := by decide +kernel
theorem dL_law_169 : decode cL_law 169 = .ok (.invokevirtual 18, 3) := by decide +kernel
theorem dL_law_172 : decode cL_law 172 = .ok (.aload_n 2, 1) := by decide +kernel
theorem dL_law_173 : decode cL_law 173 = .ok (.aload_n 0, 1) := by decide +kernel
theorem dL_law_174 : decode cL_law 174 = .ok (.iload_n 3, 1) := by decide +kernel
theorem dL_law_175 : decode cL_law 175 = .ok (.iconst 1, 1) := by decide +kernel
theorem dL_law_176 : decode cL_law 176 = .ok (.iadd, 1) := by decide +kernel
theorem dL_law_177 : decode cL_law 177 = .ok (.iaload, 1) := by decide +kernel
theorem dL_law_178 : decode cL_law 178 = .ok (.invokevirtual 22, 3) := by decide +kernel
theorem dL_law_181 : decode cL_law 181 = .ok (.if_icmp .eq 264, 3) := by decide +kernel
theorem dL_law_184 : decode cL_law 184 = .ok (.iconst 0, 1) := by decide +kernel
theorem dL_law_185 : decode cL_law 185 = .ok (.ireturn, 1) := by decide +kernel
theorem dL_law_186 : decode cL_law 186 = .ok (.aload_n 1, 1) := by decide +kernel
theorem dL_law_187 : decode cL_law 187 = .ok (.invokevirtual 23, 3) := by decide +kernel
theorem dL_law_190 : decode cL_law 190 = .ok (.aload_n 2, 1) := by decide +kernel
theorem dL_law_191 : decode cL_law 191 = .ok (.invokevirtual 27, 3) := by decide +kernel
theorem dL_law_194 : decode cL_law 194 = .ok (.if_icmp .eq 251, 3) := by decide +kernel
theorem dL_law_197 : decode cL_law 197 = .ok (.iconst 0, 1) := by decide +kernel
theorem dL_law_198 : decode cL_law 198 = .ok (.ireturn, 1) := by decide +kernel
theorem dL_law_199 : decode cL_law 199 = .ok (.aload_n 1, 1) := by decide +kernel
theorem dL_law_200 : decode cL_law 200 = .ok (.aload_n 0, 1) := by decide +kernel
theorem dL_law_201 : decode cL_law 201 = .ok (.iload_n 3, 1) := by decide +kernel
theorem dL_law_202 : decode cL_law 202 = .ok (.iconst 1, 1) := by decide +kernel
theorem dL_law_203 : decode cL_law 203 = .ok (.iadd, 1) := by decide +kernel
theorem dL_law_204 : decode cL_law 204 = .ok (.iaload, 1) := by decide +kernel
theorem dL_law_205 : decode cL_law 205 = .ok (.invokevirtual 28, 3) := by decide +kernel
theorem dL_law_208 : decode cL_law 208 = .ok (.aload_n 2, 1) := by decide +kernel
theorem dL_law_209 : decode cL_law 209 = .ok (.aload_n 0, 1) := by decide +kernel
theorem dL_law_210 : decode cL_law 210 = .ok (.iload_n 3, 1) := by decide +kernel
theorem dL_law_211 : decode cL_law 211 = .ok (.iconst 1, 1) := by decide +kernel
theorem dL_law_212 : decode cL_law 212 = .ok (.iadd, 1) := by decide +kernel
theorem dL_law_213 : decode cL_law 213 = .ok (.iaload, 1) := by decide +kernel
theorem dL_law_214 : decode cL_law 214 = .ok (.invokevirtual 31, 3) := by decide +kernel
theorem dL_law_217 : decode cL_law 217 = .ok (.if_icmp .eq 228, 3) := by decide +kernel
theorem dL_law_220 : decode cL_law 220 = .ok (.iconst 0, 1) := by decide +kernel
theorem dL_law_221 : decode cL_law 221 = .ok (.ireturn, 1) := by decide +kernel
theorem dL_law_222 : decode cL_law 222 = .ok (.aload_n 1, 1) := by decide +kernel
theorem dL_law_223 : decode cL_law 223 = .ok (.aload_n 0, 1) := by decide +kernel
theorem dL_law_224 : decode cL_law 224 = .ok (.iload_n 3, 1) := by decide +kernel
theorem dL_law_225 : decode cL_law 225 = .ok (.iconst 1, 1) := by decide +kernel
theorem dL_law_226 : decode cL_law 226 = .ok (.iadd, 1) := by decide +kernel
theorem dL_law_227 : decode cL_law 227 = .ok (.iaload, 1) := by decide +kernel
theorem dL_law_228 : decode cL_law 228 = .ok (.aload_n 0, 1) := by decide +kernel
theorem dL_law_229 : decode cL_law 229 = .ok (.iload_n 3, 1) := by decide +kernel
theorem dL_law_230 : decode cL_law 230 = .ok (.iconst 2, 1) := by decide +kernel
theorem dL_law_231 : decode cL_law 231 = .ok (.iadd, 1) := by decide +kernel
theorem dL_law_232 : decode cL_law 232 = .ok (.iaload, 1) := by decide +kernel
theorem dL_law_233 : decode cL_law 233 = .ok (.invokevirtual 32, 3) := by decide +kernel
theorem dL_law_236 : decode cL_law 236 = .ok (.aload_n 2, 1) := by decide +kernel
theorem dL_law_237 : decode cL_law 237 = .ok (.aload_n 0, 1) := by decide +kernel
theorem dL_law_238 : decode cL_law 238 = .ok (.iload_n 3, 1) := by decide +kernel
theorem dL_law_239 : decode cL_law 239 = .ok (.iconst 1, 1) := by decide +kernel
theorem dL_law_240 : decode cL_law 240 = .ok (.iadd, 1) := by decide +kernel
theorem dL_law_241 : decode cL_law 241 = .ok (.iaload, 1) := by decide +kernel
theorem dL_law_242 : decode cL_law 242 = .ok (.aload_n 0, 1) := by decide +kernel
theorem dL_law_243 : decode cL_law 243 = .ok (.iload_n 3, 1) := by decide +kernel
theorem dL_law_244 : decode cL_law 244 = .ok (.iconst 2, 1) := by decide +kernel
theorem dL_law_245 : decode cL_law 245 = .ok (.iadd, 1) := by decide +kernel
theorem dL_law_246 : decode cL_law 246 = .ok (.iaload, 1) := by decide +kernel
theorem dL_law_247 : decode cL_law 247 = .ok (.invokevirtual 36, 3) := by decide +kernel
theorem dL_law_250 : decode cL_law 250 = .ok (.if_icmp .eq 195, 3) := by decide +kernel
theorem dL_law_253 : decode cL_law 253 = .ok (.iconst 0, 1) := by decide +kernel
theorem dL_law_254 : decode cL_law 254 = .ok (.ireturn, 1) := by decide +kernel
theorem dL_law_255 : decode cL_law 255 = .ok (.aload_n 1, 1) := by decide +kernel
theorem dL_law_256 : decode cL_law 256 = .ok (.aload_n 0, 1) := by decide +kernel
theorem dL_law_257 : decode cL_law 257 = .ok (.iload_n 3, 1) := by decide +kernel
theorem dL_law_258 : decode cL_law 258 = .ok (.iconst 1, 1) := by decide +kernel
theorem dL_law_259 : decode cL_law 259 = .ok (.iadd, 1) := by decide +kernel
theorem dL_law_260 : decode cL_law 260 = .ok (.iaload, 1) := by decide +kernel
theorem dL_law_261 : decode cL_law 261 = .ok (.aload_n 0, 1) := by decide +kernel
theorem dL_law_262 : decode cL_law 262 = .ok (.iload_n 3, 1) := by decide +kernel
theorem dL_law_263 : decode cL_law 263 = .ok (.iconst 2, 1) := by decide +kernel
theorem dL_law_264 : decode cL_law 264 = .ok (.iadd, 1) := by decide +kernel
theorem dL_law_265 : decode cL_law 265 = .ok (.iaload, 1) := by decide +kernel
theorem dL_law_266 : decode cL_law 266 = .ok (.invokevirtual 37, 3) := by decide +kernel
theorem dL_law_269 : decode cL_law 269 = .ok (.aload_n 2, 1) := by decide +kernel
theorem dL_law_270 : decode cL_law 270 = .ok (.aload_n 0, 1) := by decide +kernel
theorem dL_law_271 : decode cL_law 271 = .ok (.iload_n 3, 1) := by decide +kernel
theorem dL_law_272 : decode cL_law 272 = .ok (.iconst 1, 1) := by decide +kernel
theorem dL_law_273 : decode cL_law 273 = .ok (.iadd, 1) := by decide +kernel
theorem dL_law_274 : decode cL_law 274 = .ok (.iaload, 1) := by decide +kernel
theorem dL_law_275 : decode cL_law 275 = .ok (.aload_n 0, 1) := by decide +kernel
theorem dL_law_276 : decode cL_law 276 = .ok (.iload_n 3, 1) := by decide +kernel
theorem dL_law_277 : decode cL_law 277 = .ok (.iconst 2, 1) := by decide +kernel
theorem dL_law_278 : decode cL_law 278 = .ok (.iadd, 1) := by decide +kernel
theorem dL_law_279 : decode cL_law 279 = .ok (.iaload, 1) := by decide +kernel
theorem dL_law_280 : decode cL_law 280 = .ok (.invokevirtual 40, 3) := by decide +kernel
theorem dL_law_283 : decode cL_law 283 = .ok (.if_icmp .eq 162, 3) := by decide +kernel
theorem dL_law_286 : decode cL_law 286 = .ok (.iconst 0, 1) := by decide +kernel
theorem dL_law_287 : decode cL_law 287 = .ok (.ireturn, 1) := by decide +kernel
theorem dL_law_288 : decode cL_law 288 = .ok (.aload_n 1, 1) := by decide +kernel
theorem dL_law_289 : decode cL_law 289 = .ok (.aload_n 0, 1) := by decide +kernel
theorem dL_law_290 : decode cL_law 290 = .ok (.iload_n 3, 1) := by decide +kernel
theorem dL_law_291 : decode cL_law 291 = .ok (.iconst 1, 1) := by decide +kernel
theorem dL_law_292 : decode cL_law 292 = .ok (.iadd, 1) := by decide +kernel
theorem dL_law_293 : decode cL_law 293 = .ok (.iaload, 1) := by decide +kernel
theorem dL_law_294 : decode cL_law 294 = .ok (.aload_n 0, 1) := by decide +kernel
theorem dL_law_295 : decode cL_law 295 = .ok (.iload_n 3, 1) := by decide +kernel
theorem dL_law_296 : decode cL_law 296 = .ok (.iconst 2, 1) := by decide +kernel
theorem dL_law_297 : decode cL_law 297 = .ok (.iadd, 1) := by decide +kernel
theorem dL_law_298 : decode cL_law 298 = .ok (.iaload, 1) := by decide +kernel
theorem dL_law_299 : decode cL_law 299 = .ok (.invokevirtual 41, 3) := by decide +kernel
theorem dL_law_302 : decode cL_law 302 = .ok (.aload_n 2, 1) := by decide +kernel
theorem dL_law_303 : decode cL_law 303 = .ok (.aload_n 0, 1) := by decide +kernel
theorem dL_law_304 : decode cL_law 304 = .ok (.iload_n 3, 1) := by decide +kernel
theorem dL_law_305 : decode cL_law 305 = .ok (.iconst 1, 1) := by decide +kernel
theorem dL_law_306 : decode cL_law 306 = .ok (.iadd, 1) := by decide +kernel
theorem dL_law_307 : decode cL_law 307 = .ok (.iaload, 1) := by decide +kernel
theorem dL_law_308 : decode cL_law 308 = .ok (.aload_n 0, 1) := by decide +kernel
theorem dL_law_309 : decode cL_law 309 = .ok (.iload_n 3, 1) := by decide +kernel
theorem dL_law_310 : decode cL_law 310 = .ok (.iconst 2, 1) := by decide +kernel
theorem dL_law_311 : decode cL_law 311 = .ok (.iadd, 1) := by decide +kernel
theorem dL_law_312 : decode cL_law 312 = .ok (.iaload, 1) := by decide +kernel
theorem dL_law_313 : decode cL_law 313 = .ok (.invokevirtual 44, 3) := by decide +kernel
theorem dL_law_316 : decode cL_law 316 = .ok (.if_icmp .eq 129, 3) := by decide +kernel
theorem dL_law_319 : decode cL_law 319 = .ok (.iconst 0, 1) := by decide +kernel
theorem dL_law_320 : decode cL_law 320 = .ok (.ireturn, 1) := by decide +kernel
theorem dL_law_321 : decode cL_law 321 = .ok (.aload_n 1, 1) := by decide +kernel
theorem dL_law_322 : decode cL_law 322 = .ok (.aload_n 0, 1) := by decide +kernel
theorem dL_law_323 : decode cL_law 323 = .ok (.iload_n 3, 1) := by decide +kernel
theorem dL_law_324 : decode cL_law 324 = .ok (.iconst 1, 1) := by decide +kernel
theorem dL_law_325 : decode cL_law 325 = .ok (.iadd, 1) := by decide +kernel
theorem dL_law_326 : decode cL_law 326 = .ok (.iaload, 1) := by decide +kernel
theorem dL_law_327 : decode cL_law 327 = .ok (.aload_n 0, 1) := by decide +kernel
theorem dL_law_328 : decode cL_law 328 = .ok (.iload_n 3, 1) := by decide +kernel
theorem dL_law_329 : decode cL_law 329 = .ok (.iconst 2, 1) := by decide +kernel
theorem dL_law_330 : decode cL_law 330 = .ok (.iadd, 1) := by decide +kernel
theorem dL_law_331 : decode cL_law 331 = .ok (.iaload, 1) := by decide +kernel
theorem dL_law_332 : decode cL_law 332 = .ok (.invokevirtual 45, 3) := by decide +kernel
theorem dL_law_335 : decode cL_law 335 = .ok (.aload_n 2, 1) := by decide +kernel
theorem dL_law_336 : decode cL_law 336 = .ok (.aload_n 0, 1) := by decide +kernel
theorem dL_law_337 : decode cL_law 337 = .ok (.iload_n 3, 1) := by decide +kernel
theorem dL_law_338 : decode cL_law 338 = .ok (.iconst 1, 1) := by decide +kernel
theorem dL_law_339 : decode cL_law 339 = .ok (.iadd, 1) := by decide +kernel
theorem dL_law_340 : decode cL_law 340 = .ok (.iaload, 1) := by decide +kernel
theorem dL_law_341 : decode cL_law 341 = .ok (.aload_n 0, 1) := by decide +kernel
theorem dL_law_342 : decode cL_law 342 = .ok (.iload_n 3, 1) := by decide +kernel
theorem dL_law_343 : decode cL_law 343 = .ok (.iconst 2, 1) := by decide +kernel
theorem dL_law_344 : decode cL_law 344 = .ok (.iadd, 1) := by decide +kernel
theorem dL_law_345 : decode cL_law 345 = .ok (.iaload, 1) := by decide +kernel
theorem dL_law_346 : decode cL_law 346 = .ok (.invokevirtual 48, 3) := by decide +kernel
theorem dL_law_349 : decode cL_law 349 = .ok (.if_icmp .eq 96, 3) := by decide +kernel
theorem dL_law_352 : decode cL_law 352 = .ok (.iconst 0, 1) := by decide +kernel
theorem dL_law_353 : decode cL_law 353 = .ok (.ireturn, 1) := by decide +kernel
theorem dL_law_354 : decode cL_law 354 = .ok (.aload_n 1, 1) := by decide +kernel
theorem dL_law_355 : decode cL_law 355 = .ok (.invokevirtual 49, 3) := by decide +kernel
theorem dL_law_358 : decode cL_law 358 = .ok (.aload_n 2, 1) := by decide +kernel
theorem dL_law_359 : decode cL_law 359 = .ok (.invokevirtual 52, 3) := by decide +kernel
theorem dL_law_362 : decode cL_law 362 = .ok (.goto 83, 3) := by decide +kernel
theorem dL_law_365 : decode cL_law 365 = .ok (.aload_n 1, 1) := by decide +kernel
theorem dL_law_366 : decode cL_law 366 = .ok (.aload_n 0, 1) := by decide +kernel
theorem dL_law_367 : decode cL_law 367 = .ok (.iload_n 3, 1) := by decide +kernel
theorem dL_law_368 : decode cL_law 368 = .ok (.iconst 1, 1) := by decide +kernel
theorem dL_law_369 : decode cL_law 369 = .ok (.iadd, 1) := by decide +kernel
theorem dL_law_370 : decode cL_law 370 = .ok (.iaload, 1) := by decide +kernel
theorem dL_law_371 : decode cL_law 371 = .ok (.invokevirtual 53, 3) := by decide +kernel
theorem dL_law_374 : decode cL_law 374 = .ok (.aload_n 2, 1) := by decide +kernel
theorem dL_law_375 : decode cL_law 375 = .ok (.aload_n 0, 1) := by decide +kernel
theorem dL_law_376 : decode cL_law 376 = .ok (.iload_n 3, 1) := by decide +kernel
theorem dL_law_377 : decode cL_law 377 = .ok (.iconst 1, 1) := by decide +kernel
theorem dL_law_378 : decode cL_law 378 = .ok (.iadd, 1) := by decide +kernel
theorem dL_law_379 : decode cL_law 379 = .ok (.iaload, 1) := by decide +kernel
theorem dL_law_380 : decode cL_law 380 = .ok (.invokevirtual 57, 3) := by decide +kernel
theorem dL_law_383 : decode cL_law 383 = .ok (.if_icmp .eq 62, 3) := by decide +kernel
theorem dL_law_386 : decode cL_law 386 = .ok (.iconst 0, 1) := by decide +kernel
theorem dL_law_387 : decode cL_law 387 = .ok (.ireturn, 1) := by decide +kernel
theorem dL_law_388 : decode cL_law 388 = .ok (.aload_n 1, 1) := by decide +kernel
theorem dL_law_389 : decode cL_law 389 = .ok (.invokevirtual 58, 3) := by decide +kernel
theorem dL_law_392 : decode cL_law 392 = .ok (.aload_n 2, 1) := by decide +kernel
theorem dL_law_393 : decode cL_law 393 = .ok (.invokevirtual 61, 3) := by decide +kernel
theorem dL_law_396 : decode cL_law 396 = .ok (.goto 49, 3) := by decide +kernel
theorem dL_law_399 : decode cL_law 399 = .ok (.aload_n 1, 1) := by decide +kernel
theorem dL_law_400 : decode cL_law 400 = .ok (.aload_n 0, 1) := by decide +kernel
theorem dL_law_401 : decode cL_law 401 = .ok (.iload_n 3, 1) := by decide +kernel
theorem dL_law_402 : decode cL_law 402 = .ok (.iconst 1, 1) := by decide +kernel
theorem dL_law_403 : decode cL_law 403 = .ok (.iadd, 1) := by decide +kernel
theorem dL_law_404 : decode cL_law 404 = .ok (.iaload, 1) := by decide +kernel
theorem dL_law_405 : decode cL_law 405 = .ok (.invokevirtual 62, 3) := by decide +kernel
theorem dL_law_408 : decode cL_law 408 = .ok (.aload_n 2, 1) := by decide +kernel
theorem dL_law_409 : decode cL_law 409 = .ok (.aload_n 0, 1) := by decide +kernel
theorem dL_law_410 : decode cL_law 410 = .ok (.iload_n 3, 1) := by decide +kernel
theorem dL_law_411 : decode cL_law 411 = .ok (.iconst 1, 1) := by decide +kernel
theorem dL_law_412 : decode cL_law 412 = .ok (.iadd, 1) := by decide +kernel
theorem dL_law_413 : decode cL_law 413 = .ok (.iaload, 1) := by decide +kernel
theorem dL_law_414 : decode cL_law 414 = .ok (.invokevirtual 65, 3) := by decide +kernel
theorem dL_law_417 : decode cL_law 417 = .ok (.if_icmp .eq 28, 3) := by decide +kernel
theorem dL_law_420 : decode cL_law 420 = .ok (.iconst 0, 1) := by decide +kernel
theorem dL_law_421 : decode cL_law 421 = .ok (.ireturn, 1) := by decide +kernel
theorem dL_law_422 : decode cL_law 422 = .ok (.aload_n 1, 1) := by decide +kernel
theorem dL_law_423 : decode cL_law 423 = .ok (.aload_n 0, 1) := by decide +kernel
theorem dL_law_424 : decode cL_law 424 = .ok (.iload_n 3, 1) := by decide +kernel
theorem dL_law_425 : decode cL_law 425 = .ok (.iconst 1, 1) := by decide +kernel
theorem dL_law_426 : decode cL_law 426 = .ok (.iadd, 1) := by decide +kernel
theorem dL_law_427 : decode cL_law 427 = .ok (.iaload, 1) := by decide +kernel
theorem dL_law_428 : decode cL_law 428 = .ok (.invokevirtual 66, 3) := by decide +kernel
theorem dL_law_431 : decode cL_law 431 = .ok (.aload_n 2, 1) := by decide +kernel
theorem dL_law_432 : decode cL_law 432 = .ok (.aload_n 0, 1) := by decide +kernel
theorem dL_law_433 : decode cL_law 433 = .ok (.iload_n 3, 1) := by decide +kernel
theorem dL_law_434 : decode cL_law 434 = .ok (.iconst 1, 1) := by decide +kernel
theorem dL_law_435 : decode cL_law 435 = .ok (.iadd, 1) := by decide +kernel
theorem dL_law_436 : decode cL_law 436 = .ok (.iaload, 1) := by decide +kernel
theorem dL_law_437 : decode cL_law 437 = .ok (.invokevirtual 69, 3) := by decide +kernel
theorem dL_law_440 : decode cL_law 440 = .ok (.if_icmp .eq 5, 3) := by decide +kernel
theorem dL_law_443 : decode cL_law 443 = .ok (.iconst 0, 1) := by decide +kernel
theorem dL_law_444 : decode cL_law 444 = .ok (.ireturn, 1) := by decide +kernel
theorem dL_law_445 : decode cL_law 445 = .ok (.iinc 3 6, 3) := by decide +kernel
theorem dL_law_448 : decode cL_law 448 = .ok (.goto (-430), 3) := by decide +kernel
theorem dL_law_451 : decode cL_law 451 = .ok (.iconst 1, 1) := by decide +kernel
theorem dL_law_452 : decode cL_law 452 = .ok (.ireturn, 1) := by decide +kernel
end
section
/-! Calls that make nothing; loops; the worlds of this program's objects. -/
def gt_rm (f l : Nat) : Room := { frames := f, cells := 0, slots := 0, locals := l }
def gt_loop {α β : Type} (b : (α → Option β) → α → Option β) : Nat → α → Option β
  | 0, _ => none
  | n + 1, a => b (gt_loop b n) a
theorem gt_ip {α : Type} {p : Prop} [Decidable p] {a b r : α} (h : (if p then a else b) = r) (hp : p) : a = r := by rw [if_pos hp] at h; exact h
theorem gt_in {α : Type} {p : Prop} [Decidable p] {a b r : α} (h : (if p then a else b) = r) (hp : ¬ p) : b = r := by rw [if_neg hp] at h; exact h
def gt_fill (f : Nat → Int) (n : Nat) (v : Int) : Nat → Int := fun i => if i < n then v else f i
section GW
variable {X : ga_X} {cc : ByteArray} {y : MethodName} {Ts : List Cond} {nw : ga_N} {R0 : Room} {gD : va_G × List vw_C × ClassId × ClassId} {nL0 : Nat}
variable {K pc : Nat} {lv : Nat → Option ga_V} {st stk : List ga_V} {σ : ga_S}
variable {y' : MethodName} {ws' ws'' : List Cond} {bytes : ByteArray} {maxL : Nat} {ret : Option FieldType} {b index ci n f' l' : Nat} {As : List ga_V} {fs : List ga_V} {q : vw_C} {Pw : ga_S → Prop} {v : Int}
theorem gt_cVi (C : ga_C X cc y Ts nw R0 gD nL0) (hE : ga_Ev X.2.1 gD y' ws' (gt_rm f' l') [] 0 0 K (.inr b :: As) σ (fun σ' rv => Pw σ' ∧ rv = some (.inl v))) (hG : GoodIn Ts (wsV y.cls index y'.cls y' ws')) (hw : ws' = Cond.code y' bytes maxL ret :: ws'') (hd : y'.cls ≠ "java/lang/invoke/MethodHandle" ∧ y'.cls ≠ "java/lang/invoke/VarHandle" ∧ (parseMethodDescriptor y'.desc).map (fun d => d.parameters.length) = some n) (hn : As.length = n) (hR : f' + 1 ≤ R0.frames ∧ 8 + (maxL + 11) + l' ≤ R0.locals) (hσ : σ b = .inr (ci, fs)) (hci : gD.2.1[ci]? = some q) (hq : q.1 = y'.cls) (h8 : st.length ≤ 8) (hstk : stk = As.reverse ++ .inr b :: st) (d : decode cc pc = .ok (.invokevirtual index, 3)) (k : ∀ σ', Pw σ' → ga_G X 0 0 K (pc + 3) lv (.inl v :: st) σ') : ga_G X 0 0 K pc lv stk σ :=
  ga_callV (mc := 0) (ms := 0) C hE hG hw rfl rfl (by rw [hn]; exact hd) hR ⟨Nat.zero_le _, Nat.zero_le _⟩ (fun _ h => absurd h List.not_mem_nil) hσ hci hq h8 hstk d (fun σ' r hp => by obtain ⟨h1, h2⟩ := hp; subst h2; exact k σ' h1)
theorem gt_cVv (C : ga_C X cc y Ts nw R0 gD nL0) (hE : ga_Ev X.2.1 gD y' ws' (gt_rm f' l') [] 0 0 K (.inr b :: As) σ (fun σ' rv => Pw σ' ∧ rv = none)) (hG : GoodIn Ts (wsV y.cls index y'.cls y' ws')) (hw : ws' = Cond.code y' bytes maxL ret :: ws'') (hd : y'.cls ≠ "java/lang/invoke/MethodHandle" ∧ y'.cls ≠ "java/lang/invoke/VarHandle" ∧ (parseMethodDescriptor y'.desc).map (fun d => d.parameters.length) = some n) (hn : As.length = n) (hR : f' + 1 ≤ R0.frames ∧ 8 + (maxL + 11) + l' ≤ R0.locals) (hσ : σ b = .inr (ci, fs)) (hci : gD.2.1[ci]? = some q) (hq : q.1 = y'.cls) (h8 : st.length ≤ 8) (hstk : stk = As.reverse ++ .inr b :: st) (d : decode cc pc = .ok (.invokevirtual index, 3)) (k : ∀ σ', Pw σ' → ga_G X 0 0 K (pc + 3) lv st σ') : ga_G X 0 0 K pc lv stk σ :=
  ga_callV (mc := 0) (ms := 0) C hE hG hw rfl rfl (by rw [hn]; exact hd) hR ⟨Nat.zero_le _, Nat.zero_le _⟩ (fun _ h => absurd h List.not_mem_nil) hσ hci hq h8 hstk d (fun σ' r hp => by obtain ⟨h1, h2⟩ := hp; subst h2; exact k σ' h1)
theorem gt_cSi (C : ga_C X cc y Ts nw R0 gD nL0) (hE : ga_Ev X.2.1 gD y' ws' (gt_rm f' l') [] 0 0 K As σ (fun σ' rv => Pw σ' ∧ rv = some (.inl v))) (hG : GoodIn Ts (va_wsS y.cls index y' ws')) (hw : ws' = Cond.code y' bytes maxL ret :: ws'') (hd : y'.cls ≠ "java/lang/invoke/MethodHandle" ∧ y'.cls ≠ "java/lang/invoke/VarHandle" ∧ (parseMethodDescriptor y'.desc).map (fun d => d.parameters.length) = some n) (hn : As.length = n) (hR : f' + 1 ≤ R0.frames ∧ 8 + (maxL + 11) + l' ≤ R0.locals) (h8 : st.length ≤ 8) (hstk : stk = As.reverse ++ st) (d : decode cc pc = .ok (.invokestatic index, 3)) (k : ∀ σ', Pw σ' → ga_G X 0 0 K (pc + 3) lv (.inl v :: st) σ') : ga_G X 0 0 K pc lv stk σ :=
  ga_callS (mc := 0) (ms := 0) C hE hG hw rfl rfl (by rw [hn]; exact hd) hR ⟨Nat.zero_le _, Nat.zero_le _⟩ (fun _ h => absurd h List.not_mem_nil) h8 hstk d (fun σ' r hp => by obtain ⟨h1, h2⟩ := hp; subst h2; exact k σ' h1)
theorem gt_cSv (C : ga_C X cc y Ts nw R0 gD nL0) (hE : ga_Ev X.2.1 gD y' ws' (gt_rm f' l') [] 0 0 K As σ (fun σ' rv => Pw σ' ∧ rv = none)) (hG : GoodIn Ts (va_wsS y.cls index y' ws')) (hw : ws' = Cond.code y' bytes maxL ret :: ws'') (hd : y'.cls ≠ "java/lang/invoke/MethodHandle" ∧ y'.cls ≠ "java/lang/invoke/VarHandle" ∧ (parseMethodDescriptor y'.desc).map (fun d => d.parameters.length) = some n) (hn : As.length = n) (hR : f' + 1 ≤ R0.frames ∧ 8 + (maxL + 11) + l' ≤ R0.locals) (h8 : st.length ≤ 8) (hstk : stk = As.reverse ++ st) (d : decode cc pc = .ok (.invokestatic index, 3)) (k : ∀ σ', Pw σ' → ga_G X 0 0 K (pc + 3) lv st σ') : ga_G X 0 0 K pc lv stk σ :=
  ga_callS (mc := 0) (ms := 0) C hE hG hw rfl rfl (by rw [hn]; exact hd) hR ⟨Nat.zero_le _, Nat.zero_le _⟩ (fun _ h => absurd h List.not_mem_nil) h8 hstk d (fun σ' r hp => by obtain ⟨h1, h2⟩ := hp; subst h2; exact k σ' h1)
end GW
def SX1 : gt_S := [(1, 1, 80), (1, 2, 80), (1, 3, 80), (1, 4, 80), (1, 5, 80), (0, 0, 0)]
theorem okX1 : gt_ok SX1 6 := by unfold gt_ok; decide +kernel
def SX2 : gt_S := [(1, 1, 40), (1, 2, 40), (0, 0, 0), (0, 0, 0)]
theorem okX2 : gt_ok SX2 3 := by unfold gt_ok; decide +kernel
def SX3 : gt_S := [(1, 1, 80), (1, 2, 80), (1, 3, 80), (1, 4, 80), (0, 0, 0), (0, 0, 0)]
theorem okX3 : gt_ok SX3 5 := by unfold gt_ok; decide +kernel
def SX4 : gt_S := [(1, 1, 20), (1, 2, 80), (0, 0, 0)]
theorem okX4 : gt_ok SX4 3 := by unfold gt_ok; decide +kernel
def SX6 : gt_S := [(0, 0, 0), (0, 0, 0), (0, 0, 0), (1, 1, 20), (1, 2, 80), (0, 0, 0), (0, 0, 0), (0, 0, 0), (0, 0, 0), (1, 3, 20), (1, 4, 80), (1, 5, 20), (1, 6, 80), (0, 0, 0), (1, 7, 80), (1, 8, 80), (2, 9, 20), (2, 10, 20), (1, 11, 20), (0, 0, 0), (0, 0, 0), (1, 12, 80), (1, 13, 80)]
theorem okX6 : gt_ok SX6 14 := by unfold gt_ok; decide +kernel
def SX0 : gt_S := [(3, 1, 0), (3, 4, 0), (3, 10, 0), (3, 13, 0), (3, 16, 0), (3, 21, 0), (3, 26, 0), (1, 31, 40), (0, 0, 0)]
theorem okX0 : gt_ok SX0 32 := by unfold gt_ok; decide +kernel
def SX5 (o1 o2 : Nat) : gt_S := [(3, o1, 0), (3, o2, 0), (0, 0, 0), (0, 0, 0)]
abbrev gx_Ch : Type := gt_T × gt_T × gt_T × gt_T × gt_T × gt_T × gt_T × gt_T
abbrev gx_Dc : Type := gx_Ch × gx_Ch × gt_T
def gx_W (c : Nat) (T : gx_Ch) (σ : ga_S) : Prop := gt_O SX4 4 (c + 1) T.1 σ ∧ gt_O SX1 1 (c + 4) T.2.1 σ ∧ gt_O SX2 2 (c + 10) T.2.2.1 σ ∧ gt_O SX2 2 (c + 13) T.2.2.2.1 σ ∧ gt_O SX3 3 (c + 16) T.2.2.2.2.1 σ ∧ gt_O SX3 3 (c + 21) T.2.2.2.2.2.1 σ ∧ gt_O SX3 3 (c + 26) T.2.2.2.2.2.2.1 σ ∧ gt_O SX0 0 c T.2.2.2.2.2.2.2 σ
theorem gt_O.keep2 {S : gt_S} {ci r : Nat} {t : gt_T} {σ σ' : ga_S} (h : gt_O S ci r t σ) (h1 : σ' r = σ r) (h2 : ∀ j o n : Nat, (S[j]? = some (1, o, n) ∨ S[j]? = some (2, o, n)) → σ' (r + o) = σ (r + o)) : gt_O S ci r t σ' :=
  ⟨by rw [h1]; exact h.1, fun j o n => ⟨fun hj => by rw [h2 j o n (Or.inl hj)]; exact (h.2 j o n).1 hj, fun hj => by rw [h2 j o n (Or.inr hj)]; exact (h.2 j o n).2 hj⟩⟩
theorem gx_o0 : ∀ j o n : Nat, (SX0[j]? = some (1, o, n) ∨ SX0[j]? = some (2, o, n)) → o = 31 ∧ j = 7 := by
  intro j o n h
  match j with
  | 0 => simp [SX0] at h
  | 1 => simp [SX0] at h
  | 2 => simp [SX0] at h
  | 3 => simp [SX0] at h
  | 4 => simp [SX0] at h
  | 5 => simp [SX0] at h
  | 6 => simp [SX0] at h
  | 7 => simp [SX0] at h; exact ⟨h.1.symm, rfl⟩
  | 8 => simp [SX0] at h
  | j + 9 => simp [SX0] at h
theorem gx_keep0 {c : Nat} {t : gt_T} {σ σ' : ga_S} (h : gt_O SX0 0 c t σ) (h1 : σ' c = σ c) (h2 : σ' (c + 31) = σ (c + 31)) : gt_O SX0 0 c t σ' := h.keep2 h1 (fun j o n hj => by rw [(gx_o0 j o n hj).1]; exact h2)
theorem gx_W0 {c : Nat} {T : gx_Ch} {t' : gt_T} {σ σ' : ga_S} (h : gx_W c T σ) (hw : gt_O SX4 4 (c + 1) t' σ') (hf : gt_F (c + 1) (c + 1 + 3) σ σ') : gx_W c (t', T.2.1, T.2.2.1, T.2.2.2.1, T.2.2.2.2.1, T.2.2.2.2.2.1, T.2.2.2.2.2.2.1, T.2.2.2.2.2.2.2) σ' :=
  ⟨hw, h.2.1.keep okX1 (fun k a b => hf k (by omega)) (by decide), h.2.2.1.keep okX2 (fun k a b => hf k (by omega)) (by decide), h.2.2.2.1.keep okX2 (fun k a b => hf k (by omega)) (by decide), h.2.2.2.2.1.keep okX3 (fun k a b => hf k (by omega)) (by decide), h.2.2.2.2.2.1.keep okX3 (fun k a b => hf k (by omega)) (by decide), h.2.2.2.2.2.2.1.keep okX3 (fun k a b => hf k (by omega)) (by decide), gx_keep0 h.2.2.2.2.2.2.2 (hf c (by omega)) (hf (c + 31) (by omega))⟩
theorem gx_W1 {c : Nat} {T : gx_Ch} {t' : gt_T} {σ σ' : ga_S} (h : gx_W c T σ) (hw : gt_O SX1 1 (c + 4) t' σ') (hf : gt_F (c + 4) (c + 4 + 6) σ σ') : gx_W c (T.1, t', T.2.2.1, T.2.2.2.1, T.2.2.2.2.1, T.2.2.2.2.2.1, T.2.2.2.2.2.2.1, T.2.2.2.2.2.2.2) σ' :=
  ⟨h.1.keep okX4 (fun k a b => hf k (by omega)) (by decide), hw, h.2.2.1.keep okX2 (fun k a b => hf k (by omega)) (by decide), h.2.2.2.1.keep okX2 (fun k a b => hf k (by omega)) (by decide), h.2.2.2.2.1.keep okX3 (fun k a b => hf k (by omega)) (by decide), h.2.2.2.2.2.1.keep okX3 (fun k a b => hf k (by omega)) (by decide), h.2.2.2.2.2.2.1.keep okX3 (fun k a b => hf k (by omega)) (by decide), gx_keep0 h.2.2.2.2.2.2.2 (hf c (by omega)) (hf (c + 31) (by omega))⟩
theorem gx_W2 {c : Nat} {T : gx_Ch} {t' : gt_T} {σ σ' : ga_S} (h : gx_W c T σ) (hw : gt_O SX2 2 (c + 10) t' σ') (hf : gt_F (c + 10) (c + 10 + 3) σ σ') : gx_W c (T.1, T.2.1, t', T.2.2.2.1, T.2.2.2.2.1, T.2.2.2.2.2.1, T.2.2.2.2.2.2.1, T.2.2.2.2.2.2.2) σ' :=
  ⟨h.1.keep okX4 (fun k a b => hf k (by omega)) (by decide), h.2.1.keep okX1 (fun k a b => hf k (by omega)) (by decide), hw, h.2.2.2.1.keep okX2 (fun k a b => hf k (by omega)) (by decide), h.2.2.2.2.1.keep okX3 (fun k a b => hf k (by omega)) (by decide), h.2.2.2.2.2.1.keep okX3 (fun k a b => hf k (by omega)) (by decide), h.2.2.2.2.2.2.1.keep okX3 (fun k a b => hf k (by omega)) (by decide), gx_keep0 h.2.2.2.2.2.2.2 (hf c (by omega)) (hf (c + 31) (by omega))⟩
theorem gx_W3 {c : Nat} {T : gx_Ch} {t' : gt_T} {σ σ' : ga_S} (h : gx_W c T σ) (hw : gt_O SX2 2 (c + 13) t' σ') (hf : gt_F (c + 13) (c + 13 + 3) σ σ') : gx_W c (T.1, T.2.1, T.2.2.1, t', T.2.2.2.2.1, T.2.2.2.2.2.1, T.2.2.2.2.2.2.1, T.2.2.2.2.2.2.2) σ' :=
  ⟨h.1.keep okX4 (fun k a b => hf k (by omega)) (by decide), h.2.1.keep okX1 (fun k a b => hf k (by omega)) (by decide), h.2.2.1.keep okX2 (fun k a b => hf k (by omega)) (by decide), hw, h.2.2.2.2.1.keep okX3 (fun k a b => hf k (by omega)) (by decide), h.2.2.2.2.2.1.keep okX3 (fun k a b => hf k (by omega)) (by decide), h.2.2.2.2.2.2.1.keep okX3 (fun k a b => hf k (by omega)) (by decide), gx_keep0 h.2.2.2.2.2.2.2 (hf c (by omega)) (hf (c + 31) (by omega))⟩
theorem gx_W4 {c : Nat} {T : gx_Ch} {t' : gt_T} {σ σ' : ga_S} (h : gx_W c T σ) (hw : gt_O SX3 3 (c + 16) t' σ') (hf : gt_F (c + 16) (c + 16 + 5) σ σ') : gx_W c (T.1, T.2.1, T.2.2.1, T.2.2.2.1, t', T.2.2.2.2.2.1, T.2.2.2.2.2.2.1, T.2.2.2.2.2.2.2) σ' :=
  ⟨h.1.keep okX4 (fun k a b => hf k (by omega)) (by decide), h.2.1.keep okX1 (fun k a b => hf k (by omega)) (by decide), h.2.2.1.keep okX2 (fun k a b => hf k (by omega)) (by decide), h.2.2.2.1.keep okX2 (fun k a b => hf k (by omega)) (by decide), hw, h.2.2.2.2.2.1.keep okX3 (fun k a b => hf k (by omega)) (by decide), h.2.2.2.2.2.2.1.keep okX3 (fun k a b => hf k (by omega)) (by decide), gx_keep0 h.2.2.2.2.2.2.2 (hf c (by omega)) (hf (c + 31) (by omega))⟩
theorem gx_W5 {c : Nat} {T : gx_Ch} {t' : gt_T} {σ σ' : ga_S} (h : gx_W c T σ) (hw : gt_O SX3 3 (c + 21) t' σ') (hf : gt_F (c + 21) (c + 21 + 5) σ σ') : gx_W c (T.1, T.2.1, T.2.2.1, T.2.2.2.1, T.2.2.2.2.1, t', T.2.2.2.2.2.2.1, T.2.2.2.2.2.2.2) σ' :=
  ⟨h.1.keep okX4 (fun k a b => hf k (by omega)) (by decide), h.2.1.keep okX1 (fun k a b => hf k (by omega)) (by decide), h.2.2.1.keep okX2 (fun k a b => hf k (by omega)) (by decide), h.2.2.2.1.keep okX2 (fun k a b => hf k (by omega)) (by decide), h.2.2.2.2.1.keep okX3 (fun k a b => hf k (by omega)) (by decide), hw, h.2.2.2.2.2.2.1.keep okX3 (fun k a b => hf k (by omega)) (by decide), gx_keep0 h.2.2.2.2.2.2.2 (hf c (by omega)) (hf (c + 31) (by omega))⟩
theorem gx_W6 {c : Nat} {T : gx_Ch} {t' : gt_T} {σ σ' : ga_S} (h : gx_W c T σ) (hw : gt_O SX3 3 (c + 26) t' σ') (hf : gt_F (c + 26) (c + 26 + 5) σ σ') : gx_W c (T.1, T.2.1, T.2.2.1, T.2.2.2.1, T.2.2.2.2.1, T.2.2.2.2.2.1, t', T.2.2.2.2.2.2.2) σ' :=
  ⟨h.1.keep okX4 (fun k a b => hf k (by omega)) (by decide), h.2.1.keep okX1 (fun k a b => hf k (by omega)) (by decide), h.2.2.1.keep okX2 (fun k a b => hf k (by omega)) (by decide), h.2.2.2.1.keep okX2 (fun k a b => hf k (by omega)) (by decide), h.2.2.2.2.1.keep okX3 (fun k a b => hf k (by omega)) (by decide), h.2.2.2.2.2.1.keep okX3 (fun k a b => hf k (by omega)) (by decide), hw, gx_keep0 h.2.2.2.2.2.2.2 (hf c (by omega)) (hf (c + 31) (by omega))⟩
theorem gx_W.keep {c : Nat} {T : gx_Ch} {σ σ' : ga_S} (h : gx_W c T σ) (hf : ∀ k, c ≤ k → k < c + 32 → σ' k = σ k) : gx_W c T σ' :=
  ⟨h.1.keep okX4 (fun k a b => hf k (by omega) (by omega)) (by decide), h.2.1.keep okX1 (fun k a b => hf k (by omega) (by omega)) (by decide), h.2.2.1.keep okX2 (fun k a b => hf k (by omega) (by omega)) (by decide), h.2.2.2.1.keep okX2 (fun k a b => hf k (by omega) (by omega)) (by decide), h.2.2.2.2.1.keep okX3 (fun k a b => hf k (by omega) (by omega)) (by decide), h.2.2.2.2.2.1.keep okX3 (fun k a b => hf k (by omega) (by omega)) (by decide), h.2.2.2.2.2.2.1.keep okX3 (fun k a b => hf k (by omega) (by omega)) (by decide), gx_keep0 h.2.2.2.2.2.2.2 (hf c (by omega) (by omega)) (hf (c + 31) (by omega) (by omega))⟩
def gx_D (r o1 o2 : Nat) (T : gx_Dc) (σ : ga_S) : Prop := gt_O (SX5 o1 o2) 5 r T.2.2 σ ∧ gx_W (r + o1) T.1 σ ∧ gx_W (r + o2) T.2.1 σ
theorem gx_o5 {o1 o2 : Nat} : ∀ j o n : Nat, ((SX5 o1 o2)[j]? = some (1, o, n) ∨ (SX5 o1 o2)[j]? = some (2, o, n)) → False := by
  intro j o n h
  match j with
  | 0 => simp [SX5] at h
  | 1 => simp [SX5] at h
  | 2 => simp [SX5] at h
  | 3 => simp [SX5] at h
  | j + 4 => simp [SX5] at h
theorem gx_DP {r o1 o2 : Nat} {T : gx_Dc} {P : gx_Ch} {σ σ' : ga_S} (ho : (o1 = 1 ∧ o2 = 33) ∨ (o1 = 33 ∧ o2 = 1)) (h : gx_D r o1 o2 T σ) (hw : gx_W (r + o1) P σ') (hf : gt_F (r + o1) (r + o1 + 32) σ σ') : gx_D r o1 o2 (P, T.2.1, T.2.2) σ' :=
  ⟨h.1.keep2 (hf r (by omega)) (fun j o n hj => (gx_o5 j o n hj).elim), hw, h.2.2.keep (fun k a b => hf k (by omega))⟩
theorem gx_DH {r o1 o2 : Nat} {T : gx_Dc} {P : gx_Ch} {σ σ' : ga_S} (ho : (o1 = 1 ∧ o2 = 33) ∨ (o1 = 33 ∧ o2 = 1)) (h : gx_D r o1 o2 T σ) (hw : gx_W (r + o2) P σ') (hf : gt_F (r + o2) (r + o2 + 32) σ σ') : gx_D r o1 o2 (T.1, P, T.2.2) σ' :=
  ⟨h.1.keep2 (hf r (by omega)) (fun j o n hj => (gx_o5 j o n hj).elim), h.2.1.keep (fun k a b => hf k (by omega)), hw⟩
section GX
variable {X : ga_X} {cc : ByteArray} {y : MethodName} {Ts : List Cond} {nw : ga_N} {R0 : Room} {D : va_G} {cI cZ : ClassId} {nL0 : Nat}
variable {K pc : Nat} {lv : Nat → Option ga_V} {st : List ga_V} {σ σ0 : ga_S} {r o1 o2 i : Nat}
theorem gx_putw (C : ga_C X cc y Ts nw R0 (D, vwCl, cI, cZ) nL0) (hin : ∀ w ∈ u_ws RX0 TX0 9, w ∈ Ts) {T : gx_Ch} (hW : gx_W r T σ) (hF : gt_F r (r + 32) σ0 σ) (hl : Cond.fieldLink y.cls i (TX0 8).1 (TX0 8).2.1 (TX0 8).2.2.1 ∈ Ts) {v : Int} (d : decode cc pc = .ok (.putfield i, 3)) (k : ∀ σ', gx_W r (T.1, T.2.1, T.2.2.1, T.2.2.2.1, T.2.2.2.2.1, T.2.2.2.2.2.1, T.2.2.2.2.2.2.1, (va_up T.2.2.2.2.2.2.2.1 8 v, T.2.2.2.2.2.2.2.2)) σ' → gt_F r (r + 32) σ0 σ' → ga_G X 0 0 K (pc + 3) lv st σ') : ga_G X 0 0 K pc lv (.inl v :: .inr r :: st) σ :=
  ga_put C hin tyX0 tyX0_ok nmX0 hW.2.2.2.2.2.2.2.1 rfl (by decide) hl rfl (by decide +kernel) (fun _ => ⟨rfl, rfl⟩) (by rw [gt_fs_len]; decide) d (k _ ⟨hW.1.keep okX4 (fun k a b => by unfold va_up; rw [if_neg (by omega)]) (by decide), hW.2.1.keep okX1 (fun k a b => by unfold va_up; rw [if_neg (by omega)]) (by decide), hW.2.2.1.keep okX2 (fun k a b => by unfold va_up; rw [if_neg (by omega)]) (by decide), hW.2.2.2.1.keep okX2 (fun k a b => by unfold va_up; rw [if_neg (by omega)]) (by decide), hW.2.2.2.2.1.keep okX3 (fun k a b => by unfold va_up; rw [if_neg (by omega)]) (by decide), hW.2.2.2.2.2.1.keep okX3 (fun k a b => by unfold va_up; rw [if_neg (by omega)]) (by decide), hW.2.2.2.2.2.2.1.keep okX3 (fun k a b => by unfold va_up; rw [if_neg (by omega)]) (by decide), hW.2.2.2.2.2.2.2.put okX0 (j := 8) rfl v⟩ (hF.up (Nat.le_refl r) (by omega)))
theorem gx_astw (C : ga_C X cc y Ts nw R0 (D, vwCl, cI, cZ) nL0) {T : gx_Ch} (hW : gx_W r T σ) (hF : gt_F r (r + 32) σ0 σ) {x v : Int} (h1 : 0 ≤ x) (h2 : x < 40) (d : decode cc pc = .ok (.iastore, 1)) (k : ∀ σ', gx_W r (T.1, T.2.1, T.2.2.1, T.2.2.2.1, T.2.2.2.2.1, T.2.2.2.2.2.1, T.2.2.2.2.2.2.1, (T.2.2.2.2.2.2.2.1, va_up T.2.2.2.2.2.2.2.2 7 (va_up (T.2.2.2.2.2.2.2.2 7) x.toNat v))) σ' → gt_F r (r + 32) σ0 σ' → ga_G X 0 0 K (pc + 1) lv st σ') : ga_G X 0 0 K pc lv (.inl v :: .inl x :: .inr (r + 31) :: st) σ :=
  ga_iast C ((hW.2.2.2.2.2.2.2.2 7 31 40).1 rfl) h1 h2 d (k _ ⟨hW.1.keep okX4 (fun k a b => by unfold va_up; rw [if_neg (by omega)]) (by decide), hW.2.1.keep okX1 (fun k a b => by unfold va_up; rw [if_neg (by omega)]) (by decide), hW.2.2.1.keep okX2 (fun k a b => by unfold va_up; rw [if_neg (by omega)]) (by decide), hW.2.2.2.1.keep okX2 (fun k a b => by unfold va_up; rw [if_neg (by omega)]) (by decide), hW.2.2.2.2.1.keep okX3 (fun k a b => by unfold va_up; rw [if_neg (by omega)]) (by decide), hW.2.2.2.2.2.1.keep okX3 (fun k a b => by unfold va_up; rw [if_neg (by omega)]) (by decide), hW.2.2.2.2.2.2.1.keep okX3 (fun k a b => by unfold va_up; rw [if_neg (by omega)]) (by decide), hW.2.2.2.2.2.2.2.ist okX0 (j := 7) rfl _⟩ (hF.up (by omega) (by omega)))
theorem gx_putd (C : ga_C X cc y Ts nw R0 (D, vwCl, cI, cZ) nL0) (ho : (o1 = 1 ∧ o2 = 33) ∨ (o1 = 33 ∧ o2 = 1)) (hin : ∀ w ∈ u_ws RX5 TX5 4, w ∈ Ts) {T : gx_Dc} (hW : gx_D r o1 o2 T σ) (hF : gt_F r (r + 65) σ0 σ) (j : Nat) (hj : j = 2 ∨ j = 3) (hl : Cond.fieldLink y.cls i (TX5 j).1 (TX5 j).2.1 (TX5 j).2.2.1 ∈ Ts) {v : Int} (d : decode cc pc = .ok (.putfield i, 3)) (k : ∀ σ', gx_D r o1 o2 (T.1, T.2.1, (va_up T.2.2.1 j v, T.2.2.2)) σ' → gt_F r (r + 65) σ0 σ' → ga_G X 0 0 K (pc + 3) lv st σ') : ga_G X 0 0 K pc lv (.inl v :: .inr r :: st) σ := by
  have hS : (SX5 o1 o2)[j]? = some (0, 0, 0) := by rcases hj with rfl | rfl <;> rfl
  refine ga_put C hin tyX5 tyX5_ok nmX5 hW.1.1 rfl (by omega) hl (by rcases hj with rfl | rfl <;> rfl) (ty := .int) (by rcases hj with rfl | rfl <;> decide +kernel) (fun _ => ⟨rfl, rfl⟩) (by rw [gt_fs_len]; show j < 4; omega) d (k _ ⟨⟨?_, fun i o n => ⟨fun h => (gx_o5 i o n (Or.inl h)).elim, fun h => (gx_o5 i o n (Or.inr h)).elim⟩⟩, hW.2.1.keep (fun k a b => by unfold va_up; rw [if_neg (by omega)]), hW.2.2.keep (fun k a b => by unfold va_up; rw [if_neg (by omega)])⟩ (hF.up (Nat.le_refl r) (by omega)))
  simp only [va_up, if_true]
  rw [← gt_fs_set hS]
end GX
theorem gt_fill_up (f : Nat → Int) (k : Nat) (v : Int) : va_up (gt_fill f k v) k v = gt_fill f (k + 1) v := by
  funext i
  unfold va_up gt_fill
  by_cases h : i = k
  · subst h; simp
  · rw [if_neg h]
    by_cases h2 : i < k
    · rw [if_pos h2, if_pos (by omega)]
    · rw [if_neg h2, if_neg (by omega)]
theorem gt_fill_0 (f : Nat → Int) (v : Int) : gt_fill f 0 v = f := by funext i; simp [gt_fill]
theorem va_upup {α : Type} (f : Nat → α) (k : Nat) (x z : α) : va_up (va_up f k x) k z = va_up f k z := by
  funext i
  unfold va_up
  split <;> rfl
set_option maxHeartbeats 4000000 in
theorem gJ7_loop {X : ga_X} {D : va_G} {cI cZ : ClassId} {K : Nat} {σ : ga_S} {a n : Nat} {f : Nat → Int} {v : Int} {R : Room} (C : ga_C X cJ7_fill_53178 yJ7_fill_53178 wsJ7_fill_53178 [] R (D, vwCl, cI, cZ) 4) (ha : a ≠ 0) (hn : n < 1000)
    (hRet : ∀ (pc : Nat) (lv : Nat → Option ga_V) (σ' : ga_S), decode cJ7_fill_53178 pc = .ok (.return_, 1) → σ' = va_up σ a (.inl (false, n, gt_fill f n v)) → ga_G X 0 0 K pc lv [] σ') :
    ∀ (m k : Nat) (lv : Nat → Option ga_V), k + m = n → lv 0 = some (.inr a) → lv 1 = some (.inl v) → lv 2 = some (.inl (k : Int)) → lv 3 = some (.inl (n : Int)) → ga_G X 0 0 K 5 lv [] (va_up σ a (.inl (false, n, gt_fill f k v))) := by
  intro m
  induction m with
  | zero =>
    intro k lv hk h0 h1 h2 h3
    refine ga_iload_n C dJ7_fill_53178_5 rfl h2 ?_
    refine ga_iload_n C dJ7_fill_53178_6 rfl h3 ?_
    refine ga_icmp_ge (tgt := 20) C dJ7_fill_53178_7 (by decide) (fun c => ?_) (fun c => absurd (by omega) c)
    exact hRet _ _ _ dJ7_fill_53178_20 (by rw [show k = n by omega])
  | succ m ih =>
    intro k lv hk h0 h1 h2 h3
    refine ga_iload_n C dJ7_fill_53178_5 rfl h2 ?_
    refine ga_iload_n C dJ7_fill_53178_6 rfl h3 ?_
    refine ga_icmp_ge (tgt := 20) C dJ7_fill_53178_7 (by decide) (fun c => absurd c (by omega)) (fun c => ?_)
    refine ga_aload_n C dJ7_fill_53178_10 rfl h0 ha ?_
    refine ga_iload_n C dJ7_fill_53178_11 rfl h2 ?_
    refine ga_iload_n C dJ7_fill_53178_12 rfl h1 ?_
    refine ga_iast C (n := n) (f := gt_fill f k v) (by simp [va_up]) (by omega) (by omega) dJ7_fill_53178_13 ?_
    refine ga_iinc C dJ7_fill_53178_14 h2 ⟨by omega, by omega⟩ ?_
    refine ga_goto (tgt := 5) C dJ7_fill_53178_17 (by decide) ?_
    rw [va_upup, Int.toNat_natCast, gt_fill_up]
    exact ih (k + 1) _ (by omega) (gt_un (by decide) h0) (gt_un (by decide) h1) (by rw [gt_us]; rfl) (gt_un (by decide) h3)
theorem va_up_self {α : Type} {f : Nat → α} {k : Nat} {x : α} (h : f k = x) : va_up f k x = f := by
  funext i
  unfold va_up
  split
  · next e => rw [e, h]
  · rfl
set_option maxHeartbeats 4000000 in
theorem eJ7_fill (l : Launch) (D : va_G) (cI cZ : ClassId) (K : Nat) {σ : ga_S} {a n : Nat} {f : Nat → Int} {v : Int} (hσ : σ a = .inl (false, n, f)) (hn : n < 1000) (ha : a ≠ 0) : ga_Ev l (D, vwCl, cI, cZ) yJ7_fill_53178 wsJ7_fill_53178 (gt_rm 0 0) [] 0 0 K [.inr a, .inl v] σ (fun σ' rv => (σ' = va_up σ a (.inl (false, n, gt_fill f n v))) ∧ rv = none) := by
  refine ga_ofV (by decide +kernel) rfl (by decide) (Nat.le_of_ble_eq_true rfl) (fun X hX C hret => ?_)
  refine ga_iconst C dJ7_fill_53178_0 ⟨by decide, by decide⟩ ?_
  refine ga_istore_n C dJ7_fill_53178_1 rfl (by decide) ?_
  refine ga_aload_n C dJ7_fill_53178_2 rfl (gt_un (by decide) rfl) ha ?_
  refine ga_alen C hσ (by omega) dJ7_fill_53178_3 ?_
  refine ga_istore_n C dJ7_fill_53178_4 rfl (by decide) ?_
  have := gJ7_loop (n := n) (f := f) (v := v) C ha hn (fun pc lv σ' d hp => hret pc lv σ' d ⟨hp, rfl⟩) n 0 (va_up (va_up (ga_lv [.inr a, .inl v]) 2 (some (.inl 0))) 3 (some (.inl (n : Int)))) (by omega) (gt_un (by decide) (gt_un (by decide) rfl)) (gt_un (by decide) (gt_un (by decide) rfl)) (gt_un (by decide) gt_us) gt_us
  rw [gt_fill_0, va_up_self hσ] at this
  exact this
end
