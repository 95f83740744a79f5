/-! Objects by their fields: a state (numbers, arrays) by the field's place; a table of the fields: (0, _, _) a number, (1, o, n) an array of n ints o cells behind the object, (2, o, n) one of booleans, (3, o, _) an object o cells behind it. -/
abbrev gt_T : Type := (Nat → Int) × (Nat → Nat → Int)
abbrev gt_S : Type := List (Nat × Nat × Nat)
def gt_f (r : Nat) (t : gt_T) (j : Nat) (q : Nat × Nat × Nat) : ga_V := if q.1 = 0 then .inl (t.1 j) else .inr (r + q.2.1)
def gt_fs (S : gt_S) (r : Nat) (t : gt_T) : List ga_V := S.mapIdx (gt_f r t)
def gt_O (S : gt_S) (ci r : Nat) (t : gt_T) (σ : ga_S) : Prop := σ r = .inr (ci, gt_fs S r t) ∧ ∀ j o n : Nat, (S[j]? = some (1, o, n) → σ (r + o) = .inl (false, n, t.2 j)) ∧ (S[j]? = some (2, o, n) → σ (r + o) = .inl (true, n, t.2 j))
def gt_F (a b : Nat) (σ0 σ : ga_S) : Prop := ∀ k : Nat, (k < a ∨ b ≤ k) → σ k = σ0 k
/-- offsets are apart, not 0, below n -/
def gt_ok (S : gt_S) (n : Nat) : Prop := (∀ i, i < S.length → ∀ j, j < S.length → i ≠ j → (S.getD i (0, 0, 0)).1 ≠ 0 → (S.getD j (0, 0, 0)).1 ≠ 0 → (S.getD i (0, 0, 0)).2.1 ≠ (S.getD j (0, 0, 0)).2.1) ∧ ∀ i, i < S.length → (S.getD i (0, 0, 0)).1 ≠ 0 → (S.getD i (0, 0, 0)).2.1 ≠ 0 ∧ (S.getD i (0, 0, 0)).2.1 < n
theorem gt_ok.ne {S : gt_S} {n : Nat} (h : gt_ok S n) {i j : Nat} {p q : Nat × Nat × Nat} (hi : S[i]? = some p) (hj : S[j]? = some q) (hp : p.1 ≠ 0) (hq : q.1 ≠ 0) (hij : i ≠ j) : p.2.1 ≠ q.2.1 := by
  have h1 := (List.getElem?_eq_some_iff.mp hi).1
  have h2 := (List.getElem?_eq_some_iff.mp hj).1
  have e1 : S.getD i (0, 0, 0) = p := by simp [List.getD, hi]
  have e2 : S.getD j (0, 0, 0) = q := by simp [List.getD, hj]
  have := h.1 i h1 j h2 hij
  rw [e1, e2] at this
  exact this hp hq
theorem gt_ok.at {S : gt_S} {n : Nat} (h : gt_ok S n) {i : Nat} {p : Nat × Nat × Nat} (hi : S[i]? = some p) (hp : p.1 ≠ 0) : p.2.1 ≠ 0 ∧ p.2.1 < n := by
  have h1 := (List.getElem?_eq_some_iff.mp hi).1
  have e1 : S.getD i (0, 0, 0) = p := by simp [List.getD, hi]
  have := h.2 i h1
  rw [e1] at this
  exact this hp
theorem gt_fs_get {S : gt_S} {r j : Nat} {t : gt_T} {q : Nat × Nat × Nat} (h : S[j]? = some q) : (gt_fs S r t)[j]? = some (gt_f r t j q) := by
  unfold gt_fs
  rw [List.getElem?_mapIdx, h]
  rfl
theorem gt_fs_len {S : gt_S} {r : Nat} {t : gt_T} : (gt_fs S r t).length = S.length := by simp [gt_fs]
theorem gt_fs_set {S : gt_S} {r j o n : Nat} {t : gt_T} (h : S[j]? = some (0, o, n)) (v : Int) : (gt_fs S r t).set j (.inl v) = gt_fs S r (va_up t.1 j v, t.2) := by
  apply List.ext_getElem?
  intro i
  unfold gt_fs
  rw [List.getElem?_set, List.length_mapIdx, List.getElem?_mapIdx, List.getElem?_mapIdx]
  by_cases hij : j = i
  · subst hij
    rw [if_pos rfl, if_pos (List.getElem?_eq_some_iff.mp h).1, h]
    simp [gt_f, va_up]
  · rw [if_neg hij]
    cases S[i]? with
    | none => rfl
    | some q =>
      have : ¬ i = j := fun e => hij e.symm
      simp [gt_f, va_up, this]
theorem gt_F.rf {a b : Nat} {σ : ga_S} : gt_F a b σ σ := fun _ _ => rfl
theorem gt_F.tr {a b a' b' : Nat} {σ0 σ σ' : ga_S} (h : gt_F a b σ0 σ) (h' : gt_F a' b' σ σ') (ha : a ≤ a') (hb : b' ≤ b) : gt_F a b σ0 σ' := fun k hk => (h' k (by omega)).trans (h k hk)
theorem gt_F.up {a b i : Nat} {σ0 σ : ga_S} {x : ga_E} (h : gt_F a b σ0 σ) (ha : a ≤ i) (hb : i < b) : gt_F a b σ0 (va_up σ i x) := fun k hk => by
  unfold va_up
  rw [if_neg (by omega)]
  exact h k hk
theorem gt_O.keep {S : gt_S} {ci r n : Nat} {t : gt_T} {σ σ' : ga_S} (ok : gt_ok S n) (h : gt_O S ci r t σ) (hk : ∀ k, r ≤ k → k < r + n → σ' k = σ k) (hn : 0 < n) : gt_O S ci r t σ' := by
  refine ⟨by rw [hk r (Nat.le_refl r) (by omega)]; exact h.1, fun j o m => ⟨fun hj => ?_, fun hj => ?_⟩⟩
  · have := (ok.at hj (Nat.succ_ne_zero _)).2
    rw [hk (r + o) (by omega) (by simp only at this; omega)]
    exact (h.2 j o m).1 hj
  · have := (ok.at hj (Nat.succ_ne_zero _)).2
    rw [hk (r + o) (by omega) (by simp only at this; omega)]
    exact (h.2 j o m).2 hj
theorem gt_O.put {S : gt_S} {ci r n j o m : Nat} {t : gt_T} {σ : ga_S} (ok : gt_ok S n) (h : gt_O S ci r t σ) (hj : S[j]? = some (0, o, m)) (v : Int) : gt_O S ci r (va_up t.1 j v, t.2) (va_up σ r (.inr (ci, (gt_fs S r t).set j (.inl v)))) := by
  refine ⟨by simp only [va_up, if_true]; rw [← gt_fs_set hj], fun i o' m' => ⟨fun hi => ?_, fun hi => ?_⟩⟩
  · have := (ok.at hi (Nat.succ_ne_zero _)).1
    simp only at this
    unfold va_up
    rw [if_neg (by omega)]
    exact (h.2 i o' m').1 hi
  · have := (ok.at hi (Nat.succ_ne_zero _)).1
    simp only at this
    unfold va_up
    rw [if_neg (by omega)]
    exact (h.2 i o' m').2 hi
theorem gt_O.fs {S : gt_S} {r : Nat} {t : gt_T} {g : Nat → Nat → Int} : gt_fs S r (t.1, g) = gt_fs S r t := rfl
theorem gt_O.ist {S : gt_S} {ci r n j o m : Nat} {t : gt_T} {σ : ga_S} (ok : gt_ok S n) (h : gt_O S ci r t σ) (hj : S[j]? = some (1, o, m)) (f : Nat → Int) : gt_O S ci r (t.1, va_up t.2 j f) (va_up σ (r + o) (.inl (false, m, f))) := by
  have ho := (ok.at hj (Nat.succ_ne_zero _)).1
  simp only at ho
  refine ⟨?_, fun i o' m' => ⟨fun hi => ?_, fun hi => ?_⟩⟩
  · rw [gt_O.fs]
    unfold va_up
    rw [if_neg (by omega)]
    exact h.1
  · by_cases hij : i = j
    · subst hij
      rw [hj] at hi
      cases hi
      simp [va_up]
    · have hne := ok.ne hi hj (Nat.succ_ne_zero _) (Nat.succ_ne_zero _) hij
      simp only at hne
      unfold va_up
      rw [if_neg (by omega)]
      simp only [if_neg hij]
      exact (h.2 i o' m').1 hi
  · by_cases hij : i = j
    · subst hij
      rw [hj] at hi
      cases hi
    · have hne := ok.ne hi hj (Nat.succ_ne_zero _) (Nat.succ_ne_zero _) hij
      simp only at hne
      unfold va_up
      rw [if_neg (by omega)]
      simp only [if_neg hij]
      exact (h.2 i o' m').2 hi
theorem gt_O.zst {S : gt_S} {ci r n j o m : Nat} {t : gt_T} {σ : ga_S} (ok : gt_ok S n) (h : gt_O S ci r t σ) (hj : S[j]? = some (2, o, m)) (f : Nat → Int) : gt_O S ci r (t.1, va_up t.2 j f) (va_up σ (r + o) (.inl (true, m, f))) := by
  have ho := (ok.at hj (Nat.succ_ne_zero _)).1
  simp only at ho
  refine ⟨?_, fun i o' m' => ⟨fun hi => ?_, fun hi => ?_⟩⟩
  · rw [gt_O.fs]
    unfold va_up
    rw [if_neg (by omega)]
    exact h.1
  · by_cases hij : i = j
    · subst hij
      rw [hj] at hi
      cases hi
    · have hne := ok.ne hi hj (Nat.succ_ne_zero _) (Nat.succ_ne_zero _) hij
      simp only at hne
      unfold va_up
      rw [if_neg (by omega)]
      simp only [if_neg hij]
      exact (h.2 i o' m').1 hi
  · by_cases hij : i = j
    · subst hij
      rw [hj] at hi
      cases hi
      simp [va_up]
    · have hne := ok.ne hi hj (Nat.succ_ne_zero _) (Nat.succ_ne_zero _) hij
      simp only at hne
      unfold va_up
      rw [if_neg (by omega)]
      simp only [if_neg hij]
      exact (h.2 i o' m').2 hi
section GT
variable {X : ga_X} {cc : ByteArray} {y : MethodName} {Ts : List Cond} {nw : ga_N} {R0 : Room} {D : va_G} {cl : List vw_C} {cI cZ : ClassId} {nL0 : Nat}
variable {ce sl K pc : Nat} {lv : Nat → Option ga_V} {st : List ga_V} {σ σ0 : ga_S} {S : gt_S} {ci r n j o m : Nat} {t : gt_T} {Cn : String} {T : u_T} {N i a b : Nat}
theorem gt_geti (C : ga_C X cc y Ts nw R0 (D, cl, cI, cZ) nL0) (hin : ∀ w ∈ u_ws Cn T N, w ∈ Ts) (hW : gt_O S ci r t σ) (j : Nat) (hS : S[j]? = some (0, o, m)) (hc1 : cl[ci]? = some (Cn, T, N)) (hj : j < N) (hl : Cond.fieldLink y.cls i (T j).1 (T j).2.1 (T j).2.2.1 ∈ Ts) (d : decode cc pc = .ok (.getfield i, 3)) (k : ga_G X ce sl K (pc + 3) lv (.inl (t.1 j) :: st) σ) : ga_G X ce sl K pc lv (.inr r :: st) σ :=
  ga_get C hin hW.1 hc1 hj hl (gt_fs_get hS) d k
theorem gt_geta (C : ga_C X cc y Ts nw R0 (D, cl, cI, cZ) nL0) (hin : ∀ w ∈ u_ws Cn T N, w ∈ Ts) (hW : gt_O S ci r t σ) (j : Nat) {q : Nat} (hS : S[j]? = some (q + 1, o, m)) (hc1 : cl[ci]? = some (Cn, T, N)) (hj : j < N) (hl : Cond.fieldLink y.cls i (T j).1 (T j).2.1 (T j).2.2.1 ∈ Ts) (d : decode cc pc = .ok (.getfield i, 3)) (k : ga_G X ce sl K (pc + 3) lv (.inr (r + o) :: st) σ) : ga_G X ce sl K pc lv (.inr r :: st) σ :=
  ga_get C hin hW.1 hc1 hj hl (v := .inr (r + o)) ((gt_fs_get hS).trans rfl) d k
theorem gt_puti (C : ga_C X cc y Ts nw R0 (D, cl, cI, cZ) nL0) (ok : gt_ok S n) (hn : 0 < n) (hin : ∀ w ∈ u_ws Cn T N, w ∈ Ts) (ty0 : Nat → FieldType) (hty : ∀ k, k < N → parseFieldDescriptor (T k).2.2.1 = some (ty0 k)) (hnmT : ∀ a, a < N → ∀ b, b < N → a ≠ b → (T a).2.1 ≠ (T b).2.1) (hW : gt_O S ci r t σ) (hF : gt_F a b σ0 σ) (hab : a ≤ r ∧ r + n ≤ b) (j : Nat) (hS : S[j]? = some (0, o, m)) (hc1 : cl[ci]? = some (Cn, T, N)) (hj : j < N) (hl : Cond.fieldLink y.cls i (T j).1 (T j).2.1 (T j).2.2.1 ∈ Ts) (hfin : (T j).2.2.2 = false) (hd : parseFieldDescriptor (T j).2.2.1 = some .int) {v : Int} (d : decode cc pc = .ok (.putfield i, 3)) (k : ∀ σ', gt_O S ci r (va_up t.1 j v, t.2) σ' → gt_F a b σ0 σ' → gt_F r (r + n) σ σ' → ga_G X ce sl K (pc + 3) lv st σ') : ga_G X ce sl K pc lv (.inl v :: .inr r :: st) σ :=
  ga_put C hin ty0 hty hnmT hW.1 hc1 hj hl hfin hd (fun _ => ⟨rfl, rfl⟩) (by rw [gt_fs_len]; exact (List.getElem?_eq_some_iff.mp hS).1) d (k _ (hW.put ok hS v) (hF.up hab.1 (by omega)) (gt_F.rf.up (Nat.le_refl r) (by omega)))
theorem gt_iald (C : ga_C X cc y Ts nw R0 (D, cl, cI, cZ) nL0) (hW : gt_O S ci r t σ) (j : Nat) (hS : S[j]? = some (1, o, m)) {x : Int} (h1 : 0 ≤ x) (h2 : x < m) (d : decode cc pc = .ok (.iaload, 1)) (k : ga_G X ce sl K (pc + 1) lv (.inl (t.2 j x.toNat) :: st) σ) : ga_G X ce sl K pc lv (.inl x :: .inr (r + o) :: st) σ :=
  ga_iald C ((hW.2 j o m).1 hS) h1 h2 d k
theorem gt_iast (C : ga_C X cc y Ts nw R0 (D, cl, cI, cZ) nL0) (ok : gt_ok S n) (hW : gt_O S ci r t σ) (hF : gt_F a b σ0 σ) (hab : a ≤ r ∧ r + n ≤ b) (j : Nat) (hS : S[j]? = some (1, o, m)) {i x : Int} (h1 : 0 ≤ i) (h2 : i < m) (d : decode cc pc = .ok (.iastore, 1)) (k : ∀ σ', gt_O S ci r (t.1, va_up t.2 j (va_up (t.2 j) i.toNat x)) σ' → gt_F a b σ0 σ' → gt_F r (r + n) σ σ' → ga_G X ce sl K (pc + 1) lv st σ') : ga_G X ce sl K pc lv (.inl x :: .inl i :: .inr (r + o) :: st) σ := by
  have ho := (ok.at hS (Nat.succ_ne_zero _)).2
  simp only at ho
  exact ga_iast C ((hW.2 j o m).1 hS) h1 h2 d (k _ (hW.ist ok hS _) (hF.up (by omega) (by omega)) (gt_F.rf.up (by omega) (by omega)))
theorem gt_zald (C : ga_C X cc y Ts nw R0 (D, cl, cI, cZ) nL0) (hW : gt_O S ci r t σ) (j : Nat) (hS : S[j]? = some (2, o, m)) {x : Int} (h1 : 0 ≤ x) (h2 : x < m) (d : decode cc pc = .ok (.baload, 1)) (k : ga_G X ce sl K (pc + 1) lv (.inl (t.2 j x.toNat) :: st) σ) : ga_G X ce sl K pc lv (.inl x :: .inr (r + o) :: st) σ :=
  ga_zald C ((hW.2 j o m).2 hS) h1 h2 d k
theorem gt_zast (C : ga_C X cc y Ts nw R0 (D, cl, cI, cZ) nL0) (ok : gt_ok S n) (hW : gt_O S ci r t σ) (hF : gt_F a b σ0 σ) (hab : a ≤ r ∧ r + n ≤ b) (j : Nat) (hS : S[j]? = some (2, o, m)) {i x : Int} (h1 : 0 ≤ i) (h2 : i < m) (hz : x = 0 ∨ x = 1) (d : decode cc pc = .ok (.bastore, 1)) (k : ∀ σ', gt_O S ci r (t.1, va_up t.2 j (va_up (t.2 j) i.toNat x)) σ' → gt_F a b σ0 σ' → gt_F r (r + n) σ σ' → ga_G X ce sl K (pc + 1) lv st σ') : ga_G X ce sl K pc lv (.inl x :: .inl i :: .inr (r + o) :: st) σ := by
  have ho := (ok.at hS (Nat.succ_ne_zero _)).2
  simp only at ho
  exact ga_zast C ((hW.2 j o m).2 hS) h1 h2 hz d (k _ (hW.zst ok hS _) (hF.up (by omega) (by omega)) (gt_F.rf.up (by omega) (by omega)))
theorem gt_mmin (C : ga_C X cc y Ts nw R0 (D, cl, cI, cZ) nL0) (hl : Cond.methodLink y.cls i Lib.Math.min.name ∈ Ts) (h1 : Cond.static Lib.Math.min.name ∈ Ts) (h2 : Cond.initialized "java/lang/Math" ∈ Ts) (h3 : Cond.code Lib.Math.min.name Lib.Math.min.code 2 (some .int) ∈ Ts) (hR : 1 ≤ R0.frames ∧ st.length + 13 ≤ R0.locals ∧ ce ≤ R0.cells ∧ sl ≤ R0.slots) {x z : Int} (d : decode cc pc = .ok (.invokestatic i, 3)) (k : ga_G X ce sl K (pc + 3) lv (.inl (min x z) :: st) σ) : ga_G X ce sl K pc lv (.inl z :: .inl x :: st) σ := by
  obtain ⟨p, l, e, R, s, m, args, below, meth, c, nL, D, cl, cI, cZ, A, Q, K0, ad0⟩ := X
  obtain ⟨⟨hx, hb, hml, hown, hts⟩, hK, hA, hlk, hcl, hnw, hRR, hnm, hgD, hnL⟩ := C
  intro ad H locs ls hKK h0 hP hD hS hL hc hst
  subst hRR
  have hz1 : ga_r z := ga_h hst
  have hx1 : ga_r x := ga_h (ga_t hst)
  have hm : ga_r (min x z) := by unfold ga_r at *; omega
  refine va_mmin hx hb (hml.trans hL.1.1.symm) hown (hts _ hl) (hts _ h1) (hts _ h2) (hts _ h3) hR.1 (by rw [ga_cats]; exact hR.2.1) hR.2.2.1 hR.2.2.2 d ?_
  have := k ad H locs ls hKK h0 hP hD hS hL hc (ga_1 (ga_t (ga_t hst)) hm)
  have he : (if Int32.ofInt z < Int32.ofInt x then Int32.ofInt z else Int32.ofInt x) = Int32.ofInt (min x z) := by
    by_cases h : z < x
    · rw [if_pos ((ga_lt hz1 hx1).mpr h), show min x z = z by omega]
    · rw [if_neg (fun q => h ((ga_lt hz1 hx1).mp q)), show min x z = x by omega]
  rw [he]
  exact this
theorem gt_mmax (C : ga_C X cc y Ts nw R0 (D, cl, cI, cZ) nL0) (hl : Cond.methodLink y.cls i Lib.Math.max.name ∈ Ts) (h1 : Cond.static Lib.Math.max.name ∈ Ts) (h2 : Cond.initialized "java/lang/Math" ∈ Ts) (h3 : Cond.code Lib.Math.max.name Lib.Math.max.code 2 (some .int) ∈ Ts) (hR : 1 ≤ R0.frames ∧ st.length + 13 ≤ R0.locals ∧ ce ≤ R0.cells ∧ sl ≤ R0.slots) {x z : Int} (d : decode cc pc = .ok (.invokestatic i, 3)) (k : ga_G X ce sl K (pc + 3) lv (.inl (max x z) :: st) σ) : ga_G X ce sl K pc lv (.inl z :: .inl x :: st) σ := by
  obtain ⟨p, l, e, R, s, m, args, below, meth, c, nL, D, cl, cI, cZ, A, Q, K0, ad0⟩ := X
  obtain ⟨⟨hx, hb, hml, hown, hts⟩, hK, hA, hlk, hcl, hnw, hRR, hnm, hgD, hnL⟩ := C
  intro ad H locs ls hKK h0 hP hD hS hL hc hst
  subst hRR
  have hz1 : ga_r z := ga_h hst
  have hx1 : ga_r x := ga_h (ga_t hst)
  have hm : ga_r (max x z) := by unfold ga_r at *; omega
  refine va_mmax hx hb (hml.trans hL.1.1.symm) hown (hts _ hl) (hts _ h1) (hts _ h2) (hts _ h3) hR.1 (by rw [ga_cats]; exact hR.2.1) hR.2.2.1 hR.2.2.2 d ?_
  have := k ad H locs ls hKK h0 hP hD hS hL hc (ga_1 (ga_t (ga_t hst)) hm)
  have he : (if Int32.ofInt x < Int32.ofInt z then Int32.ofInt z else Int32.ofInt x) = Int32.ofInt (max x z) := by
    by_cases h : x < z
    · rw [if_pos ((ga_lt hx1 hz1).mpr h), show max x z = z by omega]
    · rw [if_neg (fun q => h ((ga_lt hx1 hz1).mp q)), show max x z = x by omega]
  rw [he]
  exact this
end GT
theorem gt_gd {α : Type} {c : Prop} [Decidable c] {x : Option α} {y : α} (h : (if c then x else none) = some y) : c ∧ x = some y := by
  by_cases hc : c
  · rw [if_pos hc] at h; exact ⟨hc, h⟩
  · rw [if_neg hc] at h; cases h
theorem gt_un {f : Nat → Option ga_V} {i j : Nat} {x v : Option ga_V} (hn : j ≠ i) (h : f j = v) : va_up f i x j = v := by
  unfold va_up
  rw [if_neg hn]
  exact h
theorem gt_us {f : Nat → Option ga_V} {i : Nat} {x : Option ga_V} : va_up f i x i = x := by simp [va_up]
def gt_fuel : Nat := 1000000
