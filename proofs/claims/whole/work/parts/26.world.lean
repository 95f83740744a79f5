/-! Calls that make nothing; loops; the worlds of this program's objects. -/
theorem gt_hcl : vwCl.length ≤ 1000000 := by decide
def gt_rm (f l : Nat) : Room := { frames := f, cells := 0, slots := 0, locals := l }
def gt_loop {α β : Type} (b : (α → Option β) → α → Option β) : Nat → α → Option β
  | 0, _ => none
  | n + 1, a => b (gt_loop b n) a
theorem gt_ip {α : Type} {p : Prop} [Decidable p] {a b r : α} (h : (if p then a else b) = r) (hp : p) : a = r := by rw [if_pos hp] at h; exact h
theorem gt_in {α : Type} {p : Prop} [Decidable p] {a b r : α} (h : (if p then a else b) = r) (hp : ¬ p) : b = r := by rw [if_neg hp] at h; exact h
def gt_fill (f : Nat → Int) (n : Nat) (v : Int) : Nat → Int := fun i => if i < n then v else f i
section GW
variable {X : ga_X} {cc : ByteArray} {y : MethodName} {Ts : List Cond} {nw : ga_N} {R0 : Room} {gD : va_G × List vw_C × ClassId × ClassId} {nL0 : Nat}
variable {K pc : Nat} {lv : Nat → Option ga_V} {st stk : List ga_V} {σ : ga_S}
variable {y' : MethodName} {ws' ws'' : List Cond} {bytes : ByteArray} {maxL : Nat} {ret : Option FieldType} {b index ci n f' l' : Nat} {As : List ga_V} {fs : List ga_V} {q : vw_C} {Pw : ga_S → Prop} {v : Int}
theorem gt_cVi (C : ga_C X cc y Ts nw R0 gD nL0) (hE : ga_Ev X.2.1 gD y' ws' (gt_rm f' l') [] 0 0 K (.inr b :: As) σ (fun σ' rv => Pw σ' ∧ rv = some (.inl v))) (hG : GoodIn Ts (wsV y.cls index y'.cls y' ws')) (hw : ws' = Cond.code y' bytes maxL ret :: ws'') (hd : y'.cls ≠ "java/lang/invoke/MethodHandle" ∧ y'.cls ≠ "java/lang/invoke/VarHandle" ∧ (parseMethodDescriptor y'.desc).map (fun d => d.parameters.length) = some n) (hn : As.length = n) (hR : f' + 1 ≤ R0.frames ∧ 8 + (maxL + 11) + l' ≤ R0.locals) (hσ : σ b = .inr (ci, fs)) (hci : gD.2.1[ci]? = some q) (hq : q.1 = y'.cls) (h8 : st.length ≤ 8) (hstk : stk = As.reverse ++ .inr b :: st) (d : decode cc pc = .ok (.invokevirtual index, 3)) (k : ∀ σ', Pw σ' → ga_G X 0 0 K (pc + 3) lv (.inl v :: st) σ') : ga_G X 0 0 K pc lv stk σ :=
  ga_callV (mc := 0) (ms := 0) C hE hG hw rfl rfl (by rw [hn]; exact hd) hR ⟨Nat.zero_le _, Nat.zero_le _⟩ (fun _ h => absurd h List.not_mem_nil) hσ hci hq h8 hstk d (fun σ' r hp => by obtain ⟨h1, h2⟩ := hp; subst h2; exact k σ' h1)
theorem gt_cVv (C : ga_C X cc y Ts nw R0 gD nL0) (hE : ga_Ev X.2.1 gD y' ws' (gt_rm f' l') [] 0 0 K (.inr b :: As) σ (fun σ' rv => Pw σ' ∧ rv = none)) (hG : GoodIn Ts (wsV y.cls index y'.cls y' ws')) (hw : ws' = Cond.code y' bytes maxL ret :: ws'') (hd : y'.cls ≠ "java/lang/invoke/MethodHandle" ∧ y'.cls ≠ "java/lang/invoke/VarHandle" ∧ (parseMethodDescriptor y'.desc).map (fun d => d.parameters.length) = some n) (hn : As.length = n) (hR : f' + 1 ≤ R0.frames ∧ 8 + (maxL + 11) + l' ≤ R0.locals) (hσ : σ b = .inr (ci, fs)) (hci : gD.2.1[ci]? = some q) (hq : q.1 = y'.cls) (h8 : st.length ≤ 8) (hstk : stk = As.reverse ++ .inr b :: st) (d : decode cc pc = .ok (.invokevirtual index, 3)) (k : ∀ σ', Pw σ' → ga_G X 0 0 K (pc + 3) lv st σ') : ga_G X 0 0 K pc lv stk σ :=
  ga_callV (mc := 0) (ms := 0) C hE hG hw rfl rfl (by rw [hn]; exact hd) hR ⟨Nat.zero_le _, Nat.zero_le _⟩ (fun _ h => absurd h List.not_mem_nil) hσ hci hq h8 hstk d (fun σ' r hp => by obtain ⟨h1, h2⟩ := hp; subst h2; exact k σ' h1)
theorem gt_cSi (C : ga_C X cc y Ts nw R0 gD nL0) (hE : ga_Ev X.2.1 gD y' ws' (gt_rm f' l') [] 0 0 K As σ (fun σ' rv => Pw σ' ∧ rv = some (.inl v))) (hG : GoodIn Ts (va_wsS y.cls index y' ws')) (hw : ws' = Cond.code y' bytes maxL ret :: ws'') (hd : y'.cls ≠ "java/lang/invoke/MethodHandle" ∧ y'.cls ≠ "java/lang/invoke/VarHandle" ∧ (parseMethodDescriptor y'.desc).map (fun d => d.parameters.length) = some n) (hn : As.length = n) (hR : f' + 1 ≤ R0.frames ∧ 8 + (maxL + 11) + l' ≤ R0.locals) (h8 : st.length ≤ 8) (hstk : stk = As.reverse ++ st) (d : decode cc pc = .ok (.invokestatic index, 3)) (k : ∀ σ', Pw σ' → ga_G X 0 0 K (pc + 3) lv (.inl v :: st) σ') : ga_G X 0 0 K pc lv stk σ :=
  ga_callS (mc := 0) (ms := 0) C hE hG hw rfl rfl (by rw [hn]; exact hd) hR ⟨Nat.zero_le _, Nat.zero_le _⟩ (fun _ h => absurd h List.not_mem_nil) h8 hstk d (fun σ' r hp => by obtain ⟨h1, h2⟩ := hp; subst h2; exact k σ' h1)
theorem gt_cSv (C : ga_C X cc y Ts nw R0 gD nL0) (hE : ga_Ev X.2.1 gD y' ws' (gt_rm f' l') [] 0 0 K As σ (fun σ' rv => Pw σ' ∧ rv = none)) (hG : GoodIn Ts (va_wsS y.cls index y' ws')) (hw : ws' = Cond.code y' bytes maxL ret :: ws'') (hd : y'.cls ≠ "java/lang/invoke/MethodHandle" ∧ y'.cls ≠ "java/lang/invoke/VarHandle" ∧ (parseMethodDescriptor y'.desc).map (fun d => d.parameters.length) = some n) (hn : As.length = n) (hR : f' + 1 ≤ R0.frames ∧ 8 + (maxL + 11) + l' ≤ R0.locals) (h8 : st.length ≤ 8) (hstk : stk = As.reverse ++ st) (d : decode cc pc = .ok (.invokestatic index, 3)) (k : ∀ σ', Pw σ' → ga_G X 0 0 K (pc + 3) lv st σ') : ga_G X 0 0 K pc lv stk σ :=
  ga_callS (mc := 0) (ms := 0) C hE hG hw rfl rfl (by rw [hn]; exact hd) hR ⟨Nat.zero_le _, Nat.zero_le _⟩ (fun _ h => absurd h List.not_mem_nil) h8 hstk d (fun σ' r hp => by obtain ⟨h1, h2⟩ := hp; subst h2; exact k σ' h1)
end GW
def gt_okb (S : gt_S) (n : Nat) : Bool := (List.range S.length).all (fun i => (List.range S.length).all (fun j => i == j || (S.getD i (0, 0, 0)).1 == 0 || (S.getD j (0, 0, 0)).1 == 0 || !((S.getD i (0, 0, 0)).2.1 == (S.getD j (0, 0, 0)).2.1))) && (List.range S.length).all (fun i => (S.getD i (0, 0, 0)).1 == 0 || (!((S.getD i (0, 0, 0)).2.1 == 0) && Nat.blt (S.getD i (0, 0, 0)).2.1 n))
theorem gt_ok_of {S : gt_S} {n : Nat} (h : gt_okb S n = true) : gt_ok S n := by
  unfold gt_okb at h
  rw [Bool.and_eq_true] at h
  obtain ⟨h1, h2⟩ := h
  refine ⟨fun i hi j hj hij hp hq e => ?_, fun i hi hp => ?_⟩
  · have q := List.all_eq_true.mp (List.all_eq_true.mp h1 i (List.mem_range.mpr hi)) j (List.mem_range.mpr hj)
    simp only [Bool.or_eq_true, beq_iff_eq, Bool.not_eq_true', beq_eq_false_iff_ne] at q
    rcases q with ((q | q) | q) | q
    · exact hij q
    · exact hp q
    · exact hq q
    · exact q e
  · have q := List.all_eq_true.mp h2 i (List.mem_range.mpr hi)
    simp only [Bool.or_eq_true, beq_iff_eq, Bool.and_eq_true, Bool.not_eq_true', beq_eq_false_iff_ne] at q
    rcases q with q | ⟨q1, q2⟩
    · exact absurd q hp
    · exact ⟨q1, Nat.blt_eq.mp q2⟩
def SX1 : gt_S := [(1, 1, 80), (1, 2, 80), (1, 3, 80), (1, 4, 80), (1, 5, 80), (0, 0, 0)]
theorem okX1 : gt_ok SX1 6 := gt_ok_of (by decide +kernel)
def SX2 : gt_S := [(1, 1, 40), (1, 2, 40), (0, 0, 0), (0, 0, 0)]
theorem okX2 : gt_ok SX2 3 := gt_ok_of (by decide +kernel)
def SX3 : gt_S := [(1, 1, 80), (1, 2, 80), (1, 3, 80), (1, 4, 80), (0, 0, 0), (0, 0, 0)]
theorem okX3 : gt_ok SX3 5 := gt_ok_of (by decide +kernel)
def SX4 : gt_S := [(1, 1, 20), (1, 2, 80), (0, 0, 0)]
theorem okX4 : gt_ok SX4 3 := gt_ok_of (by decide +kernel)
def SX6 : gt_S := [(0, 0, 0), (0, 0, 0), (0, 0, 0), (1, 1, 20), (1, 2, 80), (0, 0, 0), (0, 0, 0), (0, 0, 0), (0, 0, 0), (1, 3, 20), (1, 4, 80), (1, 5, 20), (1, 6, 80), (0, 0, 0), (1, 7, 80), (1, 8, 80), (2, 9, 20), (2, 10, 20), (1, 11, 20), (0, 0, 0), (0, 0, 0), (1, 12, 80), (1, 13, 80)]
theorem okX6 : gt_ok SX6 14 := gt_ok_of (by decide +kernel)
def SX0 : gt_S := [(3, 1, 0), (3, 4, 0), (3, 10, 0), (3, 13, 0), (3, 16, 0), (3, 21, 0), (3, 26, 0), (1, 31, 40), (0, 0, 0)]
theorem okX0 : gt_ok SX0 32 := gt_ok_of (by decide +kernel)
def SX5 (o1 o2 : Nat) : gt_S := [(3, o1, 0), (3, o2, 0), (0, 0, 0), (0, 0, 0)]
abbrev gx_Ch : Type := gt_T × gt_T × gt_T × gt_T × gt_T × gt_T × gt_T × gt_T
abbrev gx_Dc : Type := gx_Ch × gx_Ch × gt_T
def gx_W (c : Nat) (T : gx_Ch) (σ : ga_S) : Prop := gt_O SX4 4 (c + 1) T.1 σ ∧ gt_O SX1 1 (c + 4) T.2.1 σ ∧ gt_O SX2 2 (c + 10) T.2.2.1 σ ∧ gt_O SX2 2 (c + 13) T.2.2.2.1 σ ∧ gt_O SX3 3 (c + 16) T.2.2.2.2.1 σ ∧ gt_O SX3 3 (c + 21) T.2.2.2.2.2.1 σ ∧ gt_O SX3 3 (c + 26) T.2.2.2.2.2.2.1 σ ∧ gt_O SX0 0 c T.2.2.2.2.2.2.2 σ
theorem gt_O.keep2 {S : gt_S} {ci r : Nat} {t : gt_T} {σ σ' : ga_S} (h : gt_O S ci r t σ) (h1 : σ' r = σ r) (h2 : ∀ j o n : Nat, (S[j]? = some (1, o, n) ∨ S[j]? = some (2, o, n)) → σ' (r + o) = σ (r + o)) : gt_O S ci r t σ' :=
  ⟨by rw [h1]; exact h.1, fun j o n => ⟨fun hj => by rw [h2 j o n (Or.inl hj)]; exact (h.2 j o n).1 hj, fun hj => by rw [h2 j o n (Or.inr hj)]; exact (h.2 j o n).2 hj⟩⟩
theorem gx_o0 : ∀ j o n : Nat, (SX0[j]? = some (1, o, n) ∨ SX0[j]? = some (2, o, n)) → o = 31 ∧ j = 7 := by
  intro j o n h
  match j with
  | 0 => simp [SX0] at h
  | 1 => simp [SX0] at h
  | 2 => simp [SX0] at h
  | 3 => simp [SX0] at h
  | 4 => simp [SX0] at h
  | 5 => simp [SX0] at h
  | 6 => simp [SX0] at h
  | 7 => simp [SX0] at h; exact ⟨h.1.symm, rfl⟩
  | 8 => simp [SX0] at h
  | j + 9 => simp [SX0] at h
theorem gx_keep0 {c : Nat} {t : gt_T} {σ σ' : ga_S} (h : gt_O SX0 0 c t σ) (h1 : σ' c = σ c) (h2 : σ' (c + 31) = σ (c + 31)) : gt_O SX0 0 c t σ' := h.keep2 h1 (fun j o n hj => by rw [(gx_o0 j o n hj).1]; exact h2)
theorem gx_W0 {c : Nat} {T : gx_Ch} {t' : gt_T} {σ σ' : ga_S} (h : gx_W c T σ) (hw : gt_O SX4 4 (c + 1) t' σ') (hf : gt_F (c + 1) (c + 1 + 3) σ σ') : gx_W c (t', T.2.1, T.2.2.1, T.2.2.2.1, T.2.2.2.2.1, T.2.2.2.2.2.1, T.2.2.2.2.2.2.1, T.2.2.2.2.2.2.2) σ' :=
  ⟨hw, h.2.1.keep okX1 (fun k a b => hf k (by omega)) (by decide), h.2.2.1.keep okX2 (fun k a b => hf k (by omega)) (by decide), h.2.2.2.1.keep okX2 (fun k a b => hf k (by omega)) (by decide), h.2.2.2.2.1.keep okX3 (fun k a b => hf k (by omega)) (by decide), h.2.2.2.2.2.1.keep okX3 (fun k a b => hf k (by omega)) (by decide), h.2.2.2.2.2.2.1.keep okX3 (fun k a b => hf k (by omega)) (by decide), gx_keep0 h.2.2.2.2.2.2.2 (hf c (by omega)) (hf (c + 31) (by omega))⟩
theorem gx_W1 {c : Nat} {T : gx_Ch} {t' : gt_T} {σ σ' : ga_S} (h : gx_W c T σ) (hw : gt_O SX1 1 (c + 4) t' σ') (hf : gt_F (c + 4) (c + 4 + 6) σ σ') : gx_W c (T.1, t', T.2.2.1, T.2.2.2.1, T.2.2.2.2.1, T.2.2.2.2.2.1, T.2.2.2.2.2.2.1, T.2.2.2.2.2.2.2) σ' :=
  ⟨h.1.keep okX4 (fun k a b => hf k (by omega)) (by decide), hw, h.2.2.1.keep okX2 (fun k a b => hf k (by omega)) (by decide), h.2.2.2.1.keep okX2 (fun k a b => hf k (by omega)) (by decide), h.2.2.2.2.1.keep okX3 (fun k a b => hf k (by omega)) (by decide), h.2.2.2.2.2.1.keep okX3 (fun k a b => hf k (by omega)) (by decide), h.2.2.2.2.2.2.1.keep okX3 (fun k a b => hf k (by omega)) (by decide), gx_keep0 h.2.2.2.2.2.2.2 (hf c (by omega)) (hf (c + 31) (by omega))⟩
theorem gx_W2 {c : Nat} {T : gx_Ch} {t' : gt_T} {σ σ' : ga_S} (h : gx_W c T σ) (hw : gt_O SX2 2 (c + 10) t' σ') (hf : gt_F (c + 10) (c + 10 + 3) σ σ') : gx_W c (T.1, T.2.1, t', T.2.2.2.1, T.2.2.2.2.1, T.2.2.2.2.2.1, T.2.2.2.2.2.2.1, T.2.2.2.2.2.2.2) σ' :=
  ⟨h.1.keep okX4 (fun k a b => hf k (by omega)) (by decide), h.2.1.keep okX1 (fun k a b => hf k (by omega)) (by decide), hw, h.2.2.2.1.keep okX2 (fun k a b => hf k (by omega)) (by decide), h.2.2.2.2.1.keep okX3 (fun k a b => hf k (by omega)) (by decide), h.2.2.2.2.2.1.keep okX3 (fun k a b => hf k (by omega)) (by decide), h.2.2.2.2.2.2.1.keep okX3 (fun k a b => hf k (by omega)) (by decide), gx_keep0 h.2.2.2.2.2.2.2 (hf c (by omega)) (hf (c + 31) (by omega))⟩
theorem gx_W3 {c : Nat} {T : gx_Ch} {t' : gt_T} {σ σ' : ga_S} (h : gx_W c T σ) (hw : gt_O SX2 2 (c + 13) t' σ') (hf : gt_F (c + 13) (c + 13 + 3) σ σ') : gx_W c (T.1, T.2.1, T.2.2.1, t', T.2.2.2.2.1, T.2.2.2.2.2.1, T.2.2.2.2.2.2.1, T.2.2.2.2.2.2.2) σ' :=
  ⟨h.1.keep okX4 (fun k a b => hf k (by omega)) (by decide), h.2.1.keep okX1 (fun k a b => hf k (by omega)) (by decide), h.2.2.1.keep okX2 (fun k a b => hf k (by omega)) (by decide), hw, h.2.2.2.2.1.keep okX3 (fun k a b => hf k (by omega)) (by decide), h.2.2.2.2.2.1.keep okX3 (fun k a b => hf k (by omega)) (by decide), h.2.2.2.2.2.2.1.keep okX3 (fun k a b => hf k (by omega)) (by decide), gx_keep0 h.2.2.2.2.2.2.2 (hf c (by omega)) (hf (c + 31) (by omega))⟩
theorem gx_W4 {c : Nat} {T : gx_Ch} {t' : gt_T} {σ σ' : ga_S} (h : gx_W c T σ) (hw : gt_O SX3 3 (c + 16) t' σ') (hf : gt_F (c + 16) (c + 16 + 5) σ σ') : gx_W c (T.1, T.2.1, T.2.2.1, T.2.2.2.1, t', T.2.2.2.2.2.1, T.2.2.2.2.2.2.1, T.2.2.2.2.2.2.2) σ' :=
  ⟨h.1.keep okX4 (fun k a b => hf k (by omega)) (by decide), h.2.1.keep okX1 (fun k a b => hf k (by omega)) (by decide), h.2.2.1.keep okX2 (fun k a b => hf k (by omega)) (by decide), h.2.2.2.1.keep okX2 (fun k a b => hf k (by omega)) (by decide), hw, h.2.2.2.2.2.1.keep okX3 (fun k a b => hf k (by omega)) (by decide), h.2.2.2.2.2.2.1.keep okX3 (fun k a b => hf k (by omega)) (by decide), gx_keep0 h.2.2.2.2.2.2.2 (hf c (by omega)) (hf (c + 31) (by omega))⟩
theorem gx_W5 {c : Nat} {T : gx_Ch} {t' : gt_T} {σ σ' : ga_S} (h : gx_W c T σ) (hw : gt_O SX3 3 (c + 21) t' σ') (hf : gt_F (c + 21) (c + 21 + 5) σ σ') : gx_W c (T.1, T.2.1, T.2.2.1, T.2.2.2.1, T.2.2.2.2.1, t', T.2.2.2.2.2.2.1, T.2.2.2.2.2.2.2) σ' :=
  ⟨h.1.keep okX4 (fun k a b => hf k (by omega)) (by decide), h.2.1.keep okX1 (fun k a b => hf k (by omega)) (by decide), h.2.2.1.keep okX2 (fun k a b => hf k (by omega)) (by decide), h.2.2.2.1.keep okX2 (fun k a b => hf k (by omega)) (by decide), h.2.2.2.2.1.keep okX3 (fun k a b => hf k (by omega)) (by decide), hw, h.2.2.2.2.2.2.1.keep okX3 (fun k a b => hf k (by omega)) (by decide), gx_keep0 h.2.2.2.2.2.2.2 (hf c (by omega)) (hf (c + 31) (by omega))⟩
theorem gx_W6 {c : Nat} {T : gx_Ch} {t' : gt_T} {σ σ' : ga_S} (h : gx_W c T σ) (hw : gt_O SX3 3 (c + 26) t' σ') (hf : gt_F (c + 26) (c + 26 + 5) σ σ') : gx_W c (T.1, T.2.1, T.2.2.1, T.2.2.2.1, T.2.2.2.2.1, T.2.2.2.2.2.1, t', T.2.2.2.2.2.2.2) σ' :=
  ⟨h.1.keep okX4 (fun k a b => hf k (by omega)) (by decide), h.2.1.keep okX1 (fun k a b => hf k (by omega)) (by decide), h.2.2.1.keep okX2 (fun k a b => hf k (by omega)) (by decide), h.2.2.2.1.keep okX2 (fun k a b => hf k (by omega)) (by decide), h.2.2.2.2.1.keep okX3 (fun k a b => hf k (by omega)) (by decide), h.2.2.2.2.2.1.keep okX3 (fun k a b => hf k (by omega)) (by decide), hw, gx_keep0 h.2.2.2.2.2.2.2 (hf c (by omega)) (hf (c + 31) (by omega))⟩
theorem gx_W.keep {c : Nat} {T : gx_Ch} {σ σ' : ga_S} (h : gx_W c T σ) (hf : ∀ k, c ≤ k → k < c + 32 → σ' k = σ k) : gx_W c T σ' :=
  ⟨h.1.keep okX4 (fun k a b => hf k (by omega) (by omega)) (by decide), h.2.1.keep okX1 (fun k a b => hf k (by omega) (by omega)) (by decide), h.2.2.1.keep okX2 (fun k a b => hf k (by omega) (by omega)) (by decide), h.2.2.2.1.keep okX2 (fun k a b => hf k (by omega) (by omega)) (by decide), h.2.2.2.2.1.keep okX3 (fun k a b => hf k (by omega) (by omega)) (by decide), h.2.2.2.2.2.1.keep okX3 (fun k a b => hf k (by omega) (by omega)) (by decide), h.2.2.2.2.2.2.1.keep okX3 (fun k a b => hf k (by omega) (by omega)) (by decide), gx_keep0 h.2.2.2.2.2.2.2 (hf c (by omega) (by omega)) (hf (c + 31) (by omega) (by omega))⟩
def gx_D (r o1 o2 : Nat) (T : gx_Dc) (σ : ga_S) : Prop := gt_O (SX5 o1 o2) 5 r T.2.2 σ ∧ gx_W (r + o1) T.1 σ ∧ gx_W (r + o2) T.2.1 σ
theorem gx_o5 {o1 o2 : Nat} : ∀ j o n : Nat, ((SX5 o1 o2)[j]? = some (1, o, n) ∨ (SX5 o1 o2)[j]? = some (2, o, n)) → False := by
  intro j o n h
  match j with
  | 0 => simp [SX5] at h
  | 1 => simp [SX5] at h
  | 2 => simp [SX5] at h
  | 3 => simp [SX5] at h
  | j + 4 => simp [SX5] at h
theorem gx_DP {r o1 o2 : Nat} {T : gx_Dc} {P : gx_Ch} {σ σ' : ga_S} (ho : (o1 = 1 ∧ o2 = 33) ∨ (o1 = 33 ∧ o2 = 1)) (h : gx_D r o1 o2 T σ) (hw : gx_W (r + o1) P σ') (hf : gt_F (r + o1) (r + o1 + 32) σ σ') : gx_D r o1 o2 (P, T.2.1, T.2.2) σ' :=
  ⟨h.1.keep2 (hf r (by omega)) (fun j o n hj => (gx_o5 j o n hj).elim), hw, h.2.2.keep (fun k a b => hf k (by omega))⟩
theorem gx_DH {r o1 o2 : Nat} {T : gx_Dc} {P : gx_Ch} {σ σ' : ga_S} (ho : (o1 = 1 ∧ o2 = 33) ∨ (o1 = 33 ∧ o2 = 1)) (h : gx_D r o1 o2 T σ) (hw : gx_W (r + o2) P σ') (hf : gt_F (r + o2) (r + o2 + 32) σ σ') : gx_D r o1 o2 (T.1, P, T.2.2) σ' :=
  ⟨h.1.keep2 (hf r (by omega)) (fun j o n hj => (gx_o5 j o n hj).elim), h.2.1.keep (fun k a b => hf k (by omega)), hw⟩
section GX
variable {X : ga_X} {cc : ByteArray} {y : MethodName} {Ts : List Cond} {nw : ga_N} {R0 : Room} {D : va_G} {cI cZ : ClassId} {nL0 : Nat}
variable {K pc : Nat} {lv : Nat → Option ga_V} {st : List ga_V} {σ σ0 : ga_S} {r o1 o2 i : Nat}
theorem gx_putw (C : ga_C X cc y Ts nw R0 (D, vwCl, cI, cZ) nL0) (hin : ∀ w ∈ u_ws RX0 TX0 9, w ∈ Ts) {T : gx_Ch} (hW : gx_W r T σ) (hF : gt_F r (r + 32) σ0 σ) (hl : Cond.fieldLink y.cls i (TX0 8).1 (TX0 8).2.1 (TX0 8).2.2.1 ∈ Ts) {v : Int} (d : decode cc pc = .ok (.putfield i, 3)) (k : ∀ σ', gx_W r (T.1, T.2.1, T.2.2.1, T.2.2.2.1, T.2.2.2.2.1, T.2.2.2.2.2.1, T.2.2.2.2.2.2.1, (va_up T.2.2.2.2.2.2.2.1 8 v, T.2.2.2.2.2.2.2.2)) σ' → gt_F r (r + 32) σ0 σ' → ga_G X 0 0 K (pc + 3) lv st σ') : ga_G X 0 0 K pc lv (.inl v :: .inr r :: st) σ :=
  ga_put C hin tyX0 tyX0_ok nmX0 hW.2.2.2.2.2.2.2.1 rfl (by decide) hl rfl (ty := .int) (by decide +kernel) (fun _ => ⟨rfl, rfl⟩) (by rw [gt_fs_len]; decide) d (k _ ⟨hW.1.keep okX4 (fun k a b => by unfold va_up; rw [if_neg (by omega)]) (by decide), hW.2.1.keep okX1 (fun k a b => by unfold va_up; rw [if_neg (by omega)]) (by decide), hW.2.2.1.keep okX2 (fun k a b => by unfold va_up; rw [if_neg (by omega)]) (by decide), hW.2.2.2.1.keep okX2 (fun k a b => by unfold va_up; rw [if_neg (by omega)]) (by decide), hW.2.2.2.2.1.keep okX3 (fun k a b => by unfold va_up; rw [if_neg (by omega)]) (by decide), hW.2.2.2.2.2.1.keep okX3 (fun k a b => by unfold va_up; rw [if_neg (by omega)]) (by decide), hW.2.2.2.2.2.2.1.keep okX3 (fun k a b => by unfold va_up; rw [if_neg (by omega)]) (by decide), hW.2.2.2.2.2.2.2.put okX0 (j := 8) rfl v⟩ (hF.up (Nat.le_refl r) (by omega)))
theorem gx_astw (C : ga_C X cc y Ts nw R0 (D, vwCl, cI, cZ) nL0) {T : gx_Ch} (hW : gx_W r T σ) (hF : gt_F r (r + 32) σ0 σ) {x v : Int} (h1 : 0 ≤ x) (h2 : x < 40) (d : decode cc pc = .ok (.iastore, 1)) (k : ∀ σ', gx_W r (T.1, T.2.1, T.2.2.1, T.2.2.2.1, T.2.2.2.2.1, T.2.2.2.2.2.1, T.2.2.2.2.2.2.1, (T.2.2.2.2.2.2.2.1, va_up T.2.2.2.2.2.2.2.2 7 (va_up (T.2.2.2.2.2.2.2.2 7) x.toNat v))) σ' → gt_F r (r + 32) σ0 σ' → ga_G X 0 0 K (pc + 1) lv st σ') : ga_G X 0 0 K pc lv (.inl v :: .inl x :: .inr (r + 31) :: st) σ :=
  ga_iast C ((hW.2.2.2.2.2.2.2.2 7 31 40).1 rfl) h1 h2 d (k _ ⟨hW.1.keep okX4 (fun k a b => by unfold va_up; rw [if_neg (by omega)]) (by decide), hW.2.1.keep okX1 (fun k a b => by unfold va_up; rw [if_neg (by omega)]) (by decide), hW.2.2.1.keep okX2 (fun k a b => by unfold va_up; rw [if_neg (by omega)]) (by decide), hW.2.2.2.1.keep okX2 (fun k a b => by unfold va_up; rw [if_neg (by omega)]) (by decide), hW.2.2.2.2.1.keep okX3 (fun k a b => by unfold va_up; rw [if_neg (by omega)]) (by decide), hW.2.2.2.2.2.1.keep okX3 (fun k a b => by unfold va_up; rw [if_neg (by omega)]) (by decide), hW.2.2.2.2.2.2.1.keep okX3 (fun k a b => by unfold va_up; rw [if_neg (by omega)]) (by decide), hW.2.2.2.2.2.2.2.ist okX0 (j := 7) rfl _⟩ (hF.up (by omega) (by omega)))
theorem gx_putd (C : ga_C X cc y Ts nw R0 (D, vwCl, cI, cZ) nL0) (ho : (o1 = 1 ∧ o2 = 33) ∨ (o1 = 33 ∧ o2 = 1)) (hin : ∀ w ∈ u_ws RX5 TX5 4, w ∈ Ts) {T : gx_Dc} (hW : gx_D r o1 o2 T σ) (hF : gt_F r (r + 65) σ0 σ) (j : Nat) (hj : j = 2 ∨ j = 3) (hl : Cond.fieldLink y.cls i (TX5 j).1 (TX5 j).2.1 (TX5 j).2.2.1 ∈ Ts) {v : Int} (d : decode cc pc = .ok (.putfield i, 3)) (k : ∀ σ', gx_D r o1 o2 (T.1, T.2.1, (va_up T.2.2.1 j v, T.2.2.2)) σ' → gt_F r (r + 65) σ0 σ' → ga_G X 0 0 K (pc + 3) lv st σ') : ga_G X 0 0 K pc lv (.inl v :: .inr r :: st) σ := by
  have hS : (SX5 o1 o2)[j]? = some (0, 0, 0) := by rcases hj with rfl | rfl <;> rfl
  refine ga_put C hin tyX5 tyX5_ok nmX5 hW.1.1 rfl (by omega) hl (by rcases hj with rfl | rfl <;> rfl) (ty := .int) (by rcases hj with rfl | rfl <;> decide +kernel) (fun _ => ⟨rfl, rfl⟩) (by rw [gt_fs_len]; show j < 4; omega) d (k _ ⟨⟨?_, fun i o n => ⟨fun h => (gx_o5 i o n (Or.inl h)).elim, fun h => (gx_o5 i o n (Or.inr h)).elim⟩⟩, hW.2.1.keep (fun k a b => by unfold va_up; rw [if_neg (by omega)]), hW.2.2.keep (fun k a b => by unfold va_up; rw [if_neg (by omega)])⟩ (hF.up (Nat.le_refl r) (by omega)))
  simp only [va_up, if_true]
  rw [← gt_fs_set hS]
end GX
theorem gt_fill_up (f : Nat → Int) (k : Nat) (v : Int) : va_up (gt_fill f k v) k v = gt_fill f (k + 1) v := by
  funext i
  unfold va_up gt_fill
  by_cases h : i = k
  · subst h; simp
  · rw [if_neg h]
    by_cases h2 : i < k
    · rw [if_pos h2, if_pos (by omega)]
    · rw [if_neg h2, if_neg (by omega)]
theorem gt_fill_0 (f : Nat → Int) (v : Int) : gt_fill f 0 v = f := by funext i; simp [gt_fill]
theorem gt_upup {α : Type} (f : Nat → α) (k : Nat) (x z : α) : va_up (va_up f k x) k z = va_up f k z := by
  funext i
  unfold va_up
  split <;> rfl
set_option maxHeartbeats 4000000 in
theorem gJ7_loop {X : ga_X} {D : va_G} {cI cZ : ClassId} {K : Nat} {σ : ga_S} {a n : Nat} {f : Nat → Int} {v : Int} {R : Room} (C : ga_C X cJ7_fill_53178 yJ7_fill_53178 wsJ7_fill_53178 [] R (D, vwCl, cI, cZ) 4) (ha : a ≠ 0) (hn : n < 1000)
    (hRet : ∀ (pc : Nat) (lv : Nat → Option ga_V) (σ' : ga_S), decode cJ7_fill_53178 pc = .ok (.return_, 1) → σ' = va_up σ a (.inl (false, n, gt_fill f n v)) → ga_G X 0 0 K pc lv [] σ') :
    ∀ (m k : Nat) (lv : Nat → Option ga_V), k + m = n → lv 0 = some (.inr a) → lv 1 = some (.inl v) → lv 2 = some (.inl (k : Int)) → lv 3 = some (.inl (n : Int)) → ga_G X 0 0 K 5 lv [] (va_up σ a (.inl (false, n, gt_fill f k v))) := by
  intro m
  induction m with
  | zero =>
    intro k lv hk h0 h1 h2 h3
    refine ga_iload_n C dJ7_fill_53178_5 rfl h2 ?_
    refine ga_iload_n C dJ7_fill_53178_6 rfl h3 ?_
    refine ga_icmp_ge (tgt := 20) C dJ7_fill_53178_7 (by decide) (fun c => ?_) (fun c => absurd (by omega) c)
    exact hRet _ _ _ dJ7_fill_53178_20 (by rw [show k = n by omega])
  | succ m ih =>
    intro k lv hk h0 h1 h2 h3
    refine ga_iload_n C dJ7_fill_53178_5 rfl h2 ?_
    refine ga_iload_n C dJ7_fill_53178_6 rfl h3 ?_
    refine ga_icmp_ge (tgt := 20) C dJ7_fill_53178_7 (by decide) (fun c => absurd c (by omega)) (fun c => ?_)
    refine ga_aload_n C dJ7_fill_53178_10 rfl h0 ha ?_
    refine ga_iload_n C dJ7_fill_53178_11 rfl h2 ?_
    refine ga_iload_n C dJ7_fill_53178_12 rfl h1 ?_
    refine ga_iast C (n := n) (f := gt_fill f k v) (by simp [va_up]) (by omega) (by omega) dJ7_fill_53178_13 ?_
    refine ga_iinc C dJ7_fill_53178_14 h2 ⟨by omega, by omega⟩ ?_
    refine ga_goto (tgt := 5) C dJ7_fill_53178_17 (by decide) ?_
    rw [gt_upup, Int.toNat_natCast, gt_fill_up]
    exact ih (k + 1) _ (by omega) (gt_un (by decide) h0) (gt_un (by decide) h1) (by rw [gt_us]; rfl) (gt_un (by decide) h3)
theorem gt_upself {α : Type} {f : Nat → α} {k : Nat} {x : α} (h : f k = x) : va_up f k x = f := by
  funext i
  unfold va_up
  split
  · next e => rw [e, h]
  · rfl
set_option maxHeartbeats 4000000 in
theorem eJ7_fill (l : Launch) (D : va_G) (cI cZ : ClassId) (K : Nat) {σ : ga_S} {a n : Nat} {f : Nat → Int} {v : Int} (hσ : σ a = .inl (false, n, f)) (hn : n < 1000) (ha : a ≠ 0) : ga_Ev l (D, vwCl, cI, cZ) yJ7_fill_53178 wsJ7_fill_53178 (gt_rm 0 0) [] 0 0 K [.inr a, .inl v] σ (fun σ' rv => (σ' = va_up σ a (.inl (false, n, gt_fill f n v))) ∧ rv = none) := by
  refine ga_ofV (by decide +kernel) rfl gt_hcl (Nat.le_of_ble_eq_true rfl) (fun X hX C hret => ?_)
  refine ga_iconst C dJ7_fill_53178_0 ⟨by decide, by decide⟩ ?_
  refine ga_istore_n C dJ7_fill_53178_1 rfl (by decide) ?_
  refine ga_aload_n C dJ7_fill_53178_2 rfl (gt_un (by decide) rfl) ha ?_
  refine ga_alen C hσ (by omega) dJ7_fill_53178_3 ?_
  refine ga_istore_n C dJ7_fill_53178_4 rfl (by decide) ?_
  have := gJ7_loop (n := n) (f := f) (v := v) C ha hn (fun pc lv σ' d hp => hret pc lv σ' d ⟨hp, rfl⟩) n 0 (va_up (va_up (ga_lv [.inr a, .inl v]) 2 (some (.inl 0))) 3 (some (.inl (n : Int)))) (by omega) (gt_un (by decide) (gt_un (by decide) rfl)) (gt_un (by decide) (gt_un (by decide) rfl)) (gt_un (by decide) gt_us) gt_us
  rw [gt_fill_0, gt_upself hσ] at this
  exact this
