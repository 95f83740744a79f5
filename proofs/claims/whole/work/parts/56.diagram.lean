/-! Labels, each at two places, one in, one out: mates, ranks, and the permutations that strands, Seifert's circles and faces are. -/
theorem na_across_4 (a : Nat) : na_across a / 4 = a / 4 := by unfold na_across; omega
theorem na_across_lt {a n : Nat} (h : a < 4 * n) : na_across a < 4 * n := by unfold na_across; omega
theorem na_across_2 (a : Nat) : na_across (na_across a) = a := by unfold na_across; omega
theorem na_beside_4 (a : Nat) : na_beside a / 4 = a / 4 := by unfold na_beside; omega
theorem na_beside_lt {a n : Nat} (h : a < 4 * n) : na_beside a < 4 * n := by unfold na_beside; omega
theorem na_beside_inj {a b : Nat} (h : na_beside a = na_beside b) : a = b := by unfold na_beside at h; omega
theorem na_uo_cases (sg : Nat → Int) (k : Nat) : na_uo sg k = 1 ∨ na_uo sg k = 3 := by unfold na_uo; split <;> omega
theorem na_across_out (sg : Nat → Int) (a : Nat) : na_out sg (na_across a) ↔ ¬ na_out sg a := by
  unfold na_out
  rw [na_across_4]
  have h1 : na_across a % 4 = (a + 2) % 4 := by unfold na_across; omega
  rw [h1]
  rcases na_uo_cases sg (a / 4) with h | h <;> rw [h] <;> omega
theorem na_seif_4 (sg : Nat → Int) (a : Nat) : na_seif sg a / 4 = a / 4 := by
  unfold na_seif
  have := na_uo_lt sg (a / 4)
  split <;> omega
theorem na_seif_lt {sg : Nat → Int} {a n : Nat} (h : a < 4 * n) : na_seif sg a < 4 * n := by
  have := na_seif_4 sg a
  omega
theorem na_seif_out (sg : Nat → Int) (a : Nat) : na_out sg (na_seif sg a) := by
  unfold na_out
  rw [na_seif_4]
  unfold na_seif
  have := na_uo_lt sg (a / 4)
  split <;> omega
theorem na_seif_inj {sg : Nat → Int} {a b : Nat} (ha : ¬ na_out sg a) (hb : ¬ na_out sg b) (h : na_seif sg a = na_seif sg b) : a = b := by
  have e : a / 4 = b / 4 := by rw [← na_seif_4 sg a, ← na_seif_4 sg b, h]
  unfold na_out at ha hb
  unfold na_seif at h
  rw [e] at h ha
  rcases na_uo_cases sg (b / 4) with q | q <;> rw [q] at h ha hb <;> by_cases h1 : a % 2 = 0 <;> by_cases h2 : b % 2 = 0 <;> simp only [h1, h2, ↓reduceIte] at h <;> omega
/-- the last number below m with p (0: none) -/
noncomputable def lsv (p : Nat → Prop) : Nat → Nat
  | 0 => 0
  | m + 1 => @ite Nat (p m) (Classical.propDecidable _) m (lsv p m)
theorem lsv_spec {p : Nat → Prop} {m a : Nat} (ha : a < m) (hp : p a) : lsv p m < m ∧ p (lsv p m) := by
  induction m with
  | zero => omega
  | succ m ih =>
    show @ite Nat (p m) (Classical.propDecidable _) m (lsv p m) < m + 1 ∧ p (@ite Nat (p m) (Classical.propDecidable _) m (lsv p m))
    by_cases h : p m
    · rw [if_pos h]; exact ⟨by omega, h⟩
    · rw [if_neg h]
      have hne : a ≠ m := fun e => h (e ▸ hp)
      obtain ⟨h1, h2⟩ := ih (by omega)
      exact ⟨by omega, h2⟩
theorem lsv_ls {p : Nat → Prop} {m a : Nat} {v : Int} (ha : a < m) (hp : p a) (h : ls_P p m v) : v = (lsv p m : Int) := by
  induction m with
  | zero => omega
  | succ m ih =>
    show v = ((@ite Nat (p m) (Classical.propDecidable _) m (lsv p m) : Nat) : Int)
    by_cases q : p m
    · rw [if_pos q]; exact h.uniq (ls_P.y q)
    · rw [if_neg q]
      have hne : a ≠ m := fun e => q (e ▸ hp)
      refine ih (by omega) ?_
      rcases h with ⟨e, z⟩ | ⟨b, b1, b2, b3, b4⟩
      · exact absurd hp (z a ha)
      · have : b ≠ m := fun e => q (e ▸ b3)
        exact Or.inr ⟨b, by omega, b2, b3, fun d d1 d2 => b4 d d1 (by omega)⟩
theorem lsv_uniq {p : Nat → Prop} {m a : Nat} (ha : a < m) (hp : p a) (hu : ∀ b, b < m → p b → b = a) : lsv p m = a := by
  obtain ⟨h1, h2⟩ := lsv_spec ha hp
  exact hu _ h1 h2
/-- every label stands at two places, one where a strand goes in, one where it goes out -/
def dg_D (n : Nat) (sg lb : Nat → Int) : Prop := ∀ a, a < 4 * n → ∃ b, b < 4 * n ∧ b ≠ a ∧ lb b = lb a ∧ (na_out sg b ↔ ¬ na_out sg a) ∧ ∀ d, d < 4 * n → lb d = lb a → d = a ∨ d = b
noncomputable def mt (lb : Nat → Int) (N a : Nat) : Nat := lsv (fun b => b ≠ a ∧ lb b = lb a) N
noncomputable def os (sg lb : Nat → Int) (N : Nat) (x : Int) : Nat := lsv (fun a => lb a = x ∧ na_out sg a) N
noncomputable def is (sg lb : Nat → Int) (N : Nat) (x : Int) : Nat := lsv (fun a => lb a = x ∧ ¬ na_out sg a) N
section DG
variable {n : Nat} {sg lb : Nat → Int}
theorem dg_mt (h : dg_D n sg lb) {a : Nat} (ha : a < 4 * n) : mt lb (4 * n) a < 4 * n ∧ mt lb (4 * n) a ≠ a ∧ lb (mt lb (4 * n) a) = lb a ∧ (na_out sg (mt lb (4 * n) a) ↔ ¬ na_out sg a) ∧ ∀ d, d < 4 * n → lb d = lb a → d = a ∨ d = mt lb (4 * n) a := by
  obtain ⟨b, b1, b2, b3, b4, b5⟩ := h a ha
  have e : mt lb (4 * n) a = b := lsv_uniq b1 ⟨b2, b3⟩ (fun d d1 d2 => by
    rcases b5 d d1 d2.2 with q | q
    · exact absurd q d2.1
    · exact q)
  rw [e]
  exact ⟨b1, b2, b3, b4, b5⟩
theorem dg_mm (h : dg_D n sg lb) {a : Nat} (ha : a < 4 * n) : mt lb (4 * n) (mt lb (4 * n) a) = a := by
  obtain ⟨b1, b2, b3, b4, b5⟩ := dg_mt h ha
  obtain ⟨c1, c2, c3, c4, c5⟩ := dg_mt h b1
  rcases c5 a ha b3.symm with q | q
  · exact absurd q.symm b2
  · exact q.symm
theorem dg_same (h : dg_D n sg lb) {a d : Nat} (ha : a < 4 * n) (hd : d < 4 * n) (e : lb d = lb a) (ho : na_out sg d ↔ na_out sg a) : d = a := by
  obtain ⟨b1, b2, b3, b4, b5⟩ := dg_mt h ha
  rcases b5 d hd e with q | q
  · exact q
  · subst q
    by_cases z : na_out sg a
    · exact absurd z (b4.mp (ho.mpr z))
    · exact absurd (ho.mp (b4.mpr z)) z
theorem dg_os (h : dg_D n sg lb) {a : Nat} (ha : a < 4 * n) : os sg lb (4 * n) (lb a) < 4 * n ∧ lb (os sg lb (4 * n) (lb a)) = lb a ∧ na_out sg (os sg lb (4 * n) (lb a)) := by
  obtain ⟨b1, b2, b3, b4, b5⟩ := dg_mt h ha
  by_cases z : na_out sg a
  · obtain ⟨q1, q2, q3⟩ := lsv_spec (p := fun d => lb d = lb a ∧ na_out sg d) ha ⟨rfl, z⟩
    exact ⟨q1, q2, q3⟩
  · obtain ⟨q1, q2, q3⟩ := lsv_spec (p := fun d => lb d = lb a ∧ na_out sg d) b1 ⟨b3, b4.mpr z⟩
    exact ⟨q1, q2, q3⟩
theorem dg_is (h : dg_D n sg lb) {a : Nat} (ha : a < 4 * n) : is sg lb (4 * n) (lb a) < 4 * n ∧ lb (is sg lb (4 * n) (lb a)) = lb a ∧ ¬ na_out sg (is sg lb (4 * n) (lb a)) := by
  obtain ⟨b1, b2, b3, b4, b5⟩ := dg_mt h ha
  by_cases z : na_out sg a
  · obtain ⟨q1, q2, q3⟩ := lsv_spec (p := fun d => lb d = lb a ∧ ¬ na_out sg d) b1 ⟨b3, fun q => b4.mp q z⟩
    exact ⟨q1, q2, q3⟩
  · obtain ⟨q1, q2, q3⟩ := lsv_spec (p := fun d => lb d = lb a ∧ ¬ na_out sg d) ha ⟨rfl, z⟩
    exact ⟨q1, q2, q3⟩
theorem dg_os_o (h : dg_D n sg lb) {a : Nat} (ha : a < 4 * n) (ho : na_out sg a) : os sg lb (4 * n) (lb a) = a := by
  obtain ⟨q1, q2, q3⟩ := dg_os h ha
  exact dg_same h ha q1 q2 ⟨fun _ => ho, fun _ => q3⟩
theorem dg_is_i (h : dg_D n sg lb) {a : Nat} (ha : a < 4 * n) (ho : ¬ na_out sg a) : is sg lb (4 * n) (lb a) = a := by
  obtain ⟨q1, q2, q3⟩ := dg_is h ha
  exact dg_same h ha q1 q2 ⟨fun z => absurd z q3, fun z => absurd z ho⟩
theorem dg_mt_o (h : dg_D n sg lb) {a : Nat} (ha : a < 4 * n) (ho : na_out sg a) : mt lb (4 * n) a = is sg lb (4 * n) (lb a) := by
  obtain ⟨b1, b2, b3, b4, b5⟩ := dg_mt h ha
  have := dg_is_i h b1 (fun z => b4.mp z ho)
  rw [b3] at this
  exact this.symm
theorem dg_mt_i (h : dg_D n sg lb) {a : Nat} (ha : a < 4 * n) (ho : ¬ na_out sg a) : mt lb (4 * n) a = os sg lb (4 * n) (lb a) := by
  obtain ⟨b1, b2, b3, b4, b5⟩ := dg_mt h ha
  have := dg_os_o h b1 (b4.mpr ho)
  rw [b3] at this
  exact this.symm
/-- the place of a label in the list -/
def er (f : Nat → Int) (x : Int) : Nat → Nat
  | 0 => 0
  | c + 1 => if f c = x then c else er f x c
theorem er_spec {f : Nat → Int} {x : Int} {c i : Nat} (hi : i < c) (e : f i = x) : er f x c < c ∧ f (er f x c) = x := by
  induction c with
  | zero => omega
  | succ c ih =>
    unfold er
    by_cases h : f c = x
    · rw [if_pos h]; exact ⟨by omega, h⟩
    · rw [if_neg h]
      have : i ≠ c := fun q => h (q ▸ e)
      obtain ⟨h1, h2⟩ := ih (by omega)
      exact ⟨by omega, h2⟩
theorem er_f {f : Nat → Int} {c m i : Nat} {lb : Nat → Int} (h : ed_S f c lb m) (hi : i < c) : er f (f i) c = i := by
  obtain ⟨h1, h2⟩ := er_spec hi rfl
  exact h.inj h1 hi h2
theorem er_lb {f : Nat → Int} {c m a : Nat} {lb : Nat → Int} (h : ed_S f c lb m) (ha : a < m) : er f (lb a) c < c ∧ f (er f (lb a) c) = lb a := by
  obtain ⟨i, i1, i2⟩ := h.2.2.2 a ha
  exact er_spec i1 i2
theorem er_congr {f g : Nat → Int} {x : Int} {c : Nat} (h : ∀ i, i < c → f i = g i) : er f x c = er g x c := by
  induction c with
  | zero => rfl
  | succ c ih => unfold er; rw [h c (by omega), ih (fun i hi => h i (by omega))]
/-- a way from the places in to the places out gives a permutation of the edges -/
noncomputable def pi_of (f : Nat → Int) (c : Nat) (sg lb : Nat → Int) (N : Nat) (g : Nat → Nat) (i : Nat) : Nat := er f (lb (g (is sg lb N (f i)))) c
theorem pi_P {f : Nat → Int} {c : Nat} {g : Nat → Nat} (h : dg_D n sg lb) (hS : ed_S f c lb (4 * n)) (g1 : ∀ a, a < 4 * n → g a < 4 * n) (g2 : ∀ a, a < 4 * n → ¬ na_out sg a → na_out sg (g a)) (g3 : ∀ a b, ¬ na_out sg a → ¬ na_out sg b → g a = g b → a = b) : pm_P c (pi_of f c sg lb (4 * n) g) := by
  have at' : ∀ i, i < c → is sg lb (4 * n) (f i) < 4 * n ∧ lb (is sg lb (4 * n) (f i)) = f i ∧ ¬ na_out sg (is sg lb (4 * n) (f i)) := by
    intro i hi
    obtain ⟨a, a1, a2⟩ := hS.2.2.1 i hi
    rw [← a2]
    exact dg_is h a1
  refine ⟨fun i hi => (er_lb hS (g1 _ (at' i hi).1)).1, fun i j hi hj e => ?_⟩
  obtain ⟨i1, i2, i3⟩ := at' i hi
  obtain ⟨j1, j2, j3⟩ := at' j hj
  have e1 : lb (g (is sg lb (4 * n) (f i))) = lb (g (is sg lb (4 * n) (f j))) := by
    rw [← (er_lb hS (g1 _ i1)).2, ← (er_lb hS (g1 _ j1)).2]
    exact congrArg f e
  have e2 := dg_same h (g1 _ j1) (g1 _ i1) e1 ⟨fun _ => g2 _ j1 j3, fun _ => g2 _ i1 i3⟩
  have e3 := g3 _ _ i3 j3 e2
  exact hS.inj hi hj (by rw [← i2, ← j2, e3])
theorem pi_f {f : Nat → Int} {c i : Nat} {g : Nat → Nat} (h : dg_D n sg lb) (hS : ed_S f c lb (4 * n)) (g1 : ∀ a, a < 4 * n → g a < 4 * n) (hi : i < c) : f (pi_of f c sg lb (4 * n) g i) = lb (g (is sg lb (4 * n) (f i))) := by
  obtain ⟨a, a1, a2⟩ := hS.2.2.1 i hi
  refine (er_lb hS (g1 _ ?_)).2
  rw [← a2]
  exact (dg_is h a1).1
/-- darts: the place where one arrives, the one that leaves by a place -/
noncomputable def da_ar (f : Nat → Int) (sg lb : Nat → Int) (N j : Nat) : Nat := if j % 2 = 0 then is sg lb N (f (j / 2)) else os sg lb N (f (j / 2))
noncomputable def da_of (f : Nat → Int) (c : Nat) (sg lb : Nat → Int) (a : Nat) : Nat := 2 * er f (lb a) c + @ite Nat (na_out sg a) (Classical.propDecidable _) 0 1
noncomputable def pi_d (f : Nat → Int) (c : Nat) (sg lb : Nat → Int) (N j : Nat) : Nat := da_of f c sg lb (na_beside (da_ar f sg lb N j))
theorem da_ar_lt {f : Nat → Int} {c j : Nat} (h : dg_D n sg lb) (hS : ed_S f c lb (4 * n)) (hj : j < 2 * c) : da_ar f sg lb (4 * n) j < 4 * n ∧ lb (da_ar f sg lb (4 * n) j) = f (j / 2) ∧ (na_out sg (da_ar f sg lb (4 * n) j) ↔ ¬ j % 2 = 0) := by
  obtain ⟨a, a1, a2⟩ := hS.2.2.1 (j / 2) (by omega)
  unfold da_ar
  rw [← a2]
  by_cases q : j % 2 = 0
  · rw [if_pos q]
    obtain ⟨q1, q2, q3⟩ := dg_is h a1
    exact ⟨q1, q2, ⟨fun z => absurd z q3, fun z => absurd q z⟩⟩
  · rw [if_neg q]
    obtain ⟨q1, q2, q3⟩ := dg_os h a1
    exact ⟨q1, q2, ⟨fun _ => q, fun _ => q3⟩⟩
theorem da_of_inj {f : Nat → Int} {c a b : Nat} (h : dg_D n sg lb) (hS : ed_S f c lb (4 * n)) (ha : a < 4 * n) (hb : b < 4 * n) (e : da_of f c sg lb a = da_of f c sg lb b) : a = b := by
  unfold da_of at e
  have key : (na_out sg a ↔ na_out sg b) ∧ er f (lb a) c = er f (lb b) c := by
    by_cases p : na_out sg a
    · by_cases q : na_out sg b
      · rw [if_pos p, if_pos q] at e; exact ⟨⟨fun _ => q, fun _ => p⟩, by omega⟩
      · rw [if_pos p, if_neg q] at e; omega
    · by_cases q : na_out sg b
      · rw [if_neg p, if_pos q] at e; omega
      · rw [if_neg p, if_neg q] at e; exact ⟨⟨fun z => absurd z p, fun z => absurd z q⟩, by omega⟩
  refine dg_same h hb ha ?_ key.1
  rw [← (er_lb hS ha).2, ← (er_lb hS hb).2, key.2]
theorem da_of_lt {f : Nat → Int} {c a : Nat} (hS : ed_S f c lb (4 * n)) (ha : a < 4 * n) : da_of f c sg lb a < 2 * c := by
  have := (er_lb hS ha).1
  unfold da_of
  by_cases p : na_out sg a
  · rw [if_pos p]; omega
  · rw [if_neg p]; omega
theorem pi_d_P {f : Nat → Int} {c : Nat} (h : dg_D n sg lb) (hS : ed_S f c lb (4 * n)) : pm_P (2 * c) (pi_d f c sg lb (4 * n)) := by
  refine ⟨fun j hj => da_of_lt hS (na_beside_lt (da_ar_lt h hS hj).1), fun i j hi hj e => ?_⟩
  obtain ⟨i1, i2, i3⟩ := da_ar_lt h hS hi
  obtain ⟨j1, j2, j3⟩ := da_ar_lt h hS hj
  have e1 := na_beside_inj (da_of_inj h hS (na_beside_lt i1) (na_beside_lt j1) e)
  have e2 : i / 2 = j / 2 := hS.inj (by omega) (by omega) (by rw [← i2, ← j2, e1])
  rw [e1] at i3
  have e3 : i % 2 = 0 ↔ j % 2 = 0 := by
    constructor
    · intro q; exact Classical.byContradiction (fun z => i3.mp (j3.mpr z) q)
    · intro q; exact Classical.byContradiction (fun z => j3.mp (i3.mpr z) q)
  omega
/-- twice as many edges as crossings -/
theorem sum_occ {f : Nat → Int} {c : Nat} {lb : Nat → Int} (inj : ∀ i j, i < c → j < c → f i = f j → i = j) : ∀ m, (∀ a, a < m → ∃ i, i < c ∧ f i = lb a) → ((List.range c).map (fun i => lb_occ lb m (f i))).sum = m := by
  intro m
  induction m with
  | zero =>
    intro _
    have : ∀ l : List Nat, (l.map (fun i => lb_occ lb 0 (f i))).sum = 0 := by
      intro l
      induction l with
      | nil => rfl
      | cons x l ih => rw [List.map_cons, List.sum_cons, ih]; rfl
    exact this _
  | succ m ih =>
    intro h
    have h1 := ih (fun a ha => h a (by omega))
    obtain ⟨i0, hi0, e0⟩ := h m (by omega)
    have key : ∀ k, k ≤ c → ((List.range k).map (fun i => lb_occ lb (m + 1) (f i))).sum = ((List.range k).map (fun i => lb_occ lb m (f i))).sum + (if i0 < k then 1 else 0) := by
      intro k
      induction k with
      | zero => intro _; rfl
      | succ k ihk =>
        intro hk
        rw [List.range_succ, List.map_append, List.map_append, List.sum_append, List.sum_append, ihk (by omega)]
        simp only [List.map_cons, List.map_nil, List.sum_cons, List.sum_nil]
        by_cases q : k = i0
        · subst q
          rw [lb_occ_y e0.symm, if_neg (Nat.lt_irrefl k), if_pos (by omega)]; omega
        · rw [lb_occ_n (fun z => q (inj k i0 (by omega) hi0 (by rw [e0]; exact z.symm)))]
          by_cases q2 : i0 < k
          · rw [if_pos q2, if_pos (by omega)]; omega
          · rw [if_neg q2, if_neg (by omega)]; omega
    rw [key c (Nat.le_refl c), h1, if_pos hi0]
theorem ed_twice {f : Nat → Int} {c m : Nat} {lb : Nat → Int} (hS : ed_S f c lb m) (h2 : ∀ i, i < c → lb_occ lb m (f i) = 2) : 2 * c = m := by
  have h := sum_occ (fun i j hi hj e => hS.inj hi hj e) m hS.2.2.2
  have : ∀ k, k ≤ c → ((List.range k).map (fun i => lb_occ lb m (f i))).sum = 2 * k := by
    intro k
    induction k with
    | zero => intro _; rfl
    | succ k ih =>
      intro hk
      rw [List.range_succ, List.map_append, List.sum_append, ih (by omega)]
      simp only [List.map_cons, List.map_nil, List.sum_cons, List.sum_nil]
      rw [h2 k (by omega)]
      omega
  rw [this c (Nat.le_refl c)] at h
  exact h
/-- two and no third -/
theorem pm_c_two {p : Nat → Prop} {N a b : Nat} (ha : a < N) (hb : b < N) (hab : a ≠ b) (pa : p a) (pb : p b) : (pm_c p N = 2 ↔ ∀ d, d < N → p d → d = a ∨ d = b) := by
  have h1 : pm_c p N = pm_c (fun i => p i ∧ i ≠ a) N + 1 := pm_c_one ha (fun i _ hi => ⟨fun q => ⟨q, hi⟩, fun q => q.1⟩) pa (fun q => q.2 rfl)
  have h2 : pm_c (fun i => p i ∧ i ≠ a) N = pm_c (fun i => (p i ∧ i ≠ a) ∧ i ≠ b) N + 1 := pm_c_one hb (fun i _ hi => ⟨fun q => ⟨q, hi⟩, fun q => q.1⟩) ⟨pb, fun e => hab e.symm⟩ (fun q => q.2 rfl)
  constructor
  · intro h d hd pd
    refine Classical.byContradiction (fun z => ?_)
    have h3 : pm_c (fun i => (p i ∧ i ≠ a) ∧ i ≠ b) N = pm_c (fun i => ((p i ∧ i ≠ a) ∧ i ≠ b) ∧ i ≠ d) N + 1 := pm_c_one hd (fun i _ hi => ⟨fun q => ⟨q, hi⟩, fun q => q.1⟩) ⟨⟨pd, fun e => z (Or.inl e)⟩, fun e => z (Or.inr e)⟩ (fun q => q.2 rfl)
    omega
  · intro h
    have h3 : pm_c (fun i => (p i ∧ i ≠ a) ∧ i ≠ b) N = 0 := pm_c_none (fun i hi q => by
      rcases h i hi q.1.1 with e | e
      · exact q.1.2 e
      · exact q.2 e)
    omega
theorem dg_of {f : Nat → Int} {c : Nat} (hS : ed_S f c lb (4 * n)) (h2 : ∀ i, i < c → lb_occ lb (4 * n) (f i) = 2) (ho : ∀ i, i < c → (∃ a, a < 4 * n ∧ lb a = f i ∧ na_out sg a) ∧ ∃ a, a < 4 * n ∧ lb a = f i ∧ ¬ na_out sg a) : dg_D n sg lb := by
  intro a ha
  obtain ⟨i, hi, ei⟩ := hS.2.2.2 a ha
  obtain ⟨⟨x, x1, x2, x3⟩, y, y1, y2, y3⟩ := ho i hi
  have hxy : x ≠ y := fun e => y3 (e ▸ x3)
  have h := (pm_c_two (p := fun d => lb d = f i) x1 y1 hxy x2 y2).mp (h2 i hi)
  rcases h a ha ei.symm with q | q
  · subst q
    exact ⟨y, y1, hxy.symm, by rw [y2, ei], ⟨fun z => absurd z y3, fun z => absurd x3 z⟩, fun d hd e => h d hd (by rw [e, ei])⟩
  · subst q
    exact ⟨x, x1, hxy, by rw [x2, ei], ⟨fun _ => y3, fun _ => x3⟩, fun d hd e => (h d hd (by rw [e, ei])).symm⟩
theorem dg_occ (h : dg_D n sg lb) {a : Nat} (ha : a < 4 * n) : lb_occ lb (4 * n) (lb a) = 2 := by
  obtain ⟨b, b1, b2, b3, b4, b5⟩ := h a ha
  exact (pm_c_two (p := fun d => lb d = lb a) ha b1 b2.symm rfl b3).mpr (fun d hd e => b5 d hd e)
end DG
