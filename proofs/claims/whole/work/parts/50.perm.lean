/-! Permutations of 0 .. N-1, their rounds, equivalences and how many classes they have. -/
def pm_it (f : Nat → Nat) : Nat → Nat → Nat
  | 0, i => i
  | k + 1, i => f (pm_it f k i)
def pm_P (N : Nat) (f : Nat → Nat) : Prop := (∀ i, i < N → f i < N) ∧ ∀ i j, i < N → j < N → f i = f j → i = j
theorem pm_it_add (f : Nat → Nat) (a b i : Nat) : pm_it f (a + b) i = pm_it f a (pm_it f b i) := by
  induction a with
  | zero => rw [Nat.zero_add]; rfl
  | succ a ih => rw [Nat.succ_add]; show f _ = f _; rw [ih]
theorem pm_it_f (f : Nat → Nat) (a i : Nat) : pm_it f (a + 1) i = pm_it f a (f i) := pm_it_add f a 1 i
theorem pm_it_lt {N : Nat} {f : Nat → Nat} (h : pm_P N f) {i : Nat} (hi : i < N) (k : Nat) : pm_it f k i < N := by
  induction k with
  | zero => exact hi
  | succ k ih => exact h.1 _ ih
theorem pm_it_inj {N : Nat} {f : Nat → Nat} (h : pm_P N f) {i j : Nat} (hi : i < N) (hj : j < N) {k : Nat} (e : pm_it f k i = pm_it f k j) : i = j := by
  induction k with
  | zero => exact e
  | succ k ih => exact ih (h.2 _ _ (pm_it_lt h hi k) (pm_it_lt h hj k) e)
theorem pm_pig : ∀ (N : Nat) (g : Nat → Nat), (∀ k, k ≤ N → g k < N) → ∃ a b, a < b ∧ b ≤ N ∧ g a = g b := by
  intro N
  induction N with
  | zero => intro g h; exact absurd (h 0 (Nat.le_refl 0)) (Nat.not_lt_zero _)
  | succ N ih =>
    intro g h
    by_cases hx : ∃ a, a ≤ N ∧ g a = g (N + 1)
    · obtain ⟨a, h1, h2⟩ := hx
      exact ⟨a, N + 1, by omega, Nat.le_refl _, h2⟩
    · have hn : ∀ a, a ≤ N → g a ≠ g (N + 1) := fun a ha e => hx ⟨a, ha, e⟩
      have hv := h (N + 1) (Nat.le_refl _)
      obtain ⟨a, b, h1, h2, h3⟩ := ih (fun k => if g (N + 1) < g k then g k - 1 else g k) (fun k hk => by
        have h4 := h k (by omega)
        have h5 := hn k hk
        show (if g (N + 1) < g k then g k - 1 else g k) < N
        split <;> omega)
      refine ⟨a, b, h1, by omega, ?_⟩
      have h4 := hn a (by omega)
      have h5 := hn b h2
      split at h3 <;> split at h3 <;> omega
theorem pm_per {N : Nat} {f : Nat → Nat} (h : pm_P N f) {i : Nat} (hi : i < N) : ∃ p, 1 ≤ p ∧ p ≤ N ∧ pm_it f p i = i ∧ ∀ q, 1 ≤ q → q < p → pm_it f q i ≠ i := by
  obtain ⟨a, b, h1, h2, h3⟩ := pm_pig N (fun k => pm_it f k i) (fun k _ => pm_it_lt h hi k)
  have h4 : pm_it f (b - a) i = i := by
    have : pm_it f a (pm_it f (b - a) i) = pm_it f a i := by rw [← pm_it_add, show a + (b - a) = b by omega]; exact h3.symm
    exact pm_it_inj h (pm_it_lt h hi _) hi this
  obtain ⟨p, ⟨q1, q2⟩, q3⟩ := pk_least (fun p => 1 ≤ p ∧ pm_it f p i = i) ⟨b - a, by omega, h4⟩
  refine ⟨p, q1, ?_, q2, fun q hq1 hq2 e => q3 q hq2 ⟨hq1, e⟩⟩
  rcases Nat.lt_or_ge (b - a) p with q | q
  · exact absurd ⟨by omega, h4⟩ (q3 _ q)
  · omega
theorem pm_it_mul {f : Nat → Nat} {p i : Nat} (h : pm_it f p i = i) (k : Nat) : pm_it f (p * k) i = i := by
  induction k with
  | zero => rfl
  | succ k ih => rw [Nat.mul_succ, pm_it_add, h, ih]
theorem pm_it_mod {f : Nat → Nat} {p i : Nat} (h : pm_it f p i = i) (k : Nat) : pm_it f k i = pm_it f (k % p) i := by
  have h1 : pm_it f (k % p + p * (k / p)) i = pm_it f k i := by rw [Nat.mod_add_div]
  rw [← h1, pm_it_add, pm_it_mul h]
/-- in one round -/
def pm_R (f : Nat → Nat) (i j : Nat) : Prop := ∃ k, pm_it f k i = j
theorem pm_R.rf {f : Nat → Nat} {i : Nat} : pm_R f i i := ⟨0, rfl⟩
theorem pm_R.tr {f : Nat → Nat} {i j k : Nat} (h1 : pm_R f i j) (h2 : pm_R f j k) : pm_R f i k := by
  obtain ⟨a, rfl⟩ := h1
  obtain ⟨b, rfl⟩ := h2
  exact ⟨b + a, pm_it_add f b a i⟩
theorem pm_R.st {f : Nat → Nat} {i : Nat} : pm_R f i (f i) := ⟨1, rfl⟩
theorem pm_R.sy {N : Nat} {f : Nat → Nat} (h : pm_P N f) {i j : Nat} (hi : i < N) (hr : pm_R f i j) : pm_R f j i := by
  obtain ⟨k, rfl⟩ := hr
  obtain ⟨p, hp, -, hpi, -⟩ := pm_per h hi
  refine ⟨p * k - k, ?_⟩
  have hk : k ≤ p * k := Nat.le_mul_of_pos_left k hp
  rw [← pm_it_add, Nat.sub_add_cancel hk, pm_it_mul hpi]
theorem pm_R.lt {N : Nat} {f : Nat → Nat} (h : pm_P N f) {i j : Nat} (hi : i < N) (hr : pm_R f i j) : j < N := by
  obtain ⟨k, rfl⟩ := hr
  exact pm_it_lt h hi k
/-- the iterates ahead of the period are apart -/
theorem pm_apart {N : Nat} {f : Nat → Nat} (h : pm_P N f) {i p : Nat} (hi : i < N) (hp : ∀ q, 1 ≤ q → q < p → pm_it f q i ≠ i) {a b : Nat} (ha : a < p) (hb : b < p) (e : pm_it f a i = pm_it f b i) : a = b := by
  rcases Nat.lt_trichotomy a b with q | q | q
  · exfalso
    have : pm_it f a (pm_it f (b - a) i) = pm_it f a i := by rw [← pm_it_add, show a + (b - a) = b by omega]; exact e.symm
    exact hp (b - a) (by omega) (by omega) (pm_it_inj h (pm_it_lt h hi _) hi this)
  · exact q
  · exfalso
    have : pm_it f b (pm_it f (a - b) i) = pm_it f b i := by rw [← pm_it_add, show b + (a - b) = a by omega]; exact e
    exact hp (a - b) (by omega) (by omega) (pm_it_inj h (pm_it_lt h hi _) hi this)
/-- how many below n have p -/
noncomputable def pm_c (p : Nat → Prop) : Nat → Nat
  | 0 => 0
  | n + 1 => pm_c p n + @ite Nat (p n) (Classical.propDecidable _) 1 0
theorem pm_c_y {p : Nat → Prop} {n : Nat} (h : p n) : pm_c p (n + 1) = pm_c p n + 1 := by
  show pm_c p n + @ite Nat (p n) (Classical.propDecidable _) 1 0 = _
  rw [if_pos h]
theorem pm_c_n {p : Nat → Prop} {n : Nat} (h : ¬ p n) : pm_c p (n + 1) = pm_c p n := by
  show pm_c p n + @ite Nat (p n) (Classical.propDecidable _) 1 0 = _
  rw [if_neg h]
  rfl
theorem pm_c_congr {p q : Nat → Prop} : ∀ {n : Nat}, (∀ i, i < n → (p i ↔ q i)) → pm_c p n = pm_c q n := by
  intro n
  induction n with
  | zero => intro _; rfl
  | succ n ih =>
    intro h
    have h1 := ih (fun i hi => h i (by omega))
    by_cases hp : p n
    · rw [pm_c_y hp, pm_c_y ((h n (by omega)).mp hp), h1]
    · rw [pm_c_n hp, pm_c_n (fun hq => hp ((h n (by omega)).mpr hq)), h1]
theorem pm_c_le (p : Nat → Prop) : ∀ n, pm_c p n ≤ n := by
  intro n
  induction n with
  | zero => exact Nat.le_refl 0
  | succ n ih =>
    by_cases hp : p n
    · rw [pm_c_y hp]; omega
    · rw [pm_c_n hp]; omega
theorem pm_c_mono (p : Nat → Prop) {a b : Nat} (h : a ≤ b) : pm_c p a ≤ pm_c p b := by
  induction b with
  | zero => rw [show a = 0 by omega]; exact Nat.le_refl _
  | succ b ih =>
    rcases Nat.lt_or_ge b a with q | q
    · rw [show a = b + 1 by omega]; exact Nat.le_refl _
    · have h1 := ih q
      by_cases hp : p b
      · rw [pm_c_y hp]; omega
      · rw [pm_c_n hp]; exact h1
theorem pm_c_lt {p : Nat → Prop} {a b : Nat} (h : a < b) (hp : p a) : pm_c p a < pm_c p b := by
  have := pm_c_mono p (show a + 1 ≤ b from h)
  rw [pm_c_y hp] at this
  omega
theorem pm_c_all {p : Nat → Prop} : ∀ {n : Nat}, (∀ i, i < n → p i) → pm_c p n = n := by
  intro n
  induction n with
  | zero => intro _; rfl
  | succ n ih => intro h; rw [pm_c_y (h n (by omega)), ih (fun i hi => h i (by omega))]
theorem pm_c_none {p : Nat → Prop} : ∀ {n : Nat}, (∀ i, i < n → ¬ p i) → pm_c p n = 0 := by
  intro n
  induction n with
  | zero => intro _; rfl
  | succ n ih => intro h; rw [pm_c_n (h n (by omega)), ih (fun i hi => h i (by omega))]
/-- one more -/
theorem pm_c_one {p q : Nat → Prop} {n a : Nat} (ha : a < n) (h : ∀ i, i < n → i ≠ a → (p i ↔ q i)) (hp : p a) (hq : ¬ q a) : pm_c p n = pm_c q n + 1 := by
  induction n with
  | zero => omega
  | succ n ih =>
    by_cases hn : n = a
    · subst hn
      rw [pm_c_y hp, pm_c_n hq, pm_c_congr (fun i hi => h i (by omega) (by omega))]
    · have h1 := ih (by omega) (fun i hi hia => h i (by omega) hia)
      by_cases hpn : p n
      · rw [pm_c_y hpn, pm_c_y ((h n (by omega) hn).mp hpn), h1]
      · rw [pm_c_n hpn, pm_c_n (fun z => hpn ((h n (by omega) hn).mpr z)), h1]
/-- equivalences below N -/
def pm_E (N : Nat) (r : Nat → Nat → Prop) : Prop := (∀ i, i < N → r i i) ∧ (∀ i j, i < N → j < N → r i j → r j i) ∧ ∀ i j k, i < N → j < N → k < N → r i j → r j k → r i k
def pm_L (r : Nat → Nat → Prop) (i : Nat) : Prop := ∀ j, j < i → ¬ r i j
noncomputable def pm_n (N : Nat) (r : Nat → Nat → Prop) : Nat := pm_c (pm_L r) N
theorem pm_n_congr {N : Nat} {r s : Nat → Nat → Prop} (h : ∀ i j, i < N → j < N → (r i j ↔ s i j)) : pm_n N r = pm_n N s :=
  pm_c_congr (fun i hi => ⟨fun hL j hj hs => hL j hj ((h i j hi (by omega)).mpr hs), fun hL j hj hs => hL j hj ((h i j hi (by omega)).mp hs)⟩)
/-- each has a least one in its class -/
theorem pm_least {N : Nat} {r : Nat → Nat → Prop} (E : pm_E N r) {i : Nat} (hi : i < N) : ∃ j, j ≤ i ∧ r i j ∧ pm_L r j := by
  obtain ⟨j, h1, h2⟩ := pk_least (fun j => j < N ∧ r i j) ⟨i, hi, E.1 i hi⟩
  have hji : j ≤ i := by
    rcases Nat.lt_or_ge i j with q | q
    · exact absurd ⟨hi, E.1 i hi⟩ (h2 i q)
    · exact q
  exact ⟨j, hji, h1.2, fun k hk hr => h2 k hk ⟨by omega, E.2.2 i j k hi h1.1 (by omega) h1.2 hr⟩⟩
theorem pm_least_eq {N : Nat} {r : Nat → Nat → Prop} (E : pm_E N r) {i j k : Nat} (hi : i < N) (hj : j < N) (hk : k < N) (h1 : r i j) (h2 : r i k) (l1 : pm_L r j) (l2 : pm_L r k) : j = k := by
  have h3 : r j k := E.2.2 j i k hj hi hk (E.2.1 i j hi hj h1) h2
  rcases Nat.lt_trichotomy j k with q | q | q
  · exact absurd (E.2.1 j k hj hk h3) (l2 j q)
  · exact q
  · exact absurd h3 (l1 k q)
/-- two classes become one -/
theorem pm_merge {N : Nat} {r s : Nat → Nat → Prop} (E : pm_E N r) {x y : Nat} (hx : x < N) (hy : y < N) (hxy : ¬ r x y) (h : ∀ i j, i < N → j < N → (s i j ↔ r i j ∨ (r i x ∧ r y j) ∨ (r i y ∧ r x j))) : pm_n N r = pm_n N s + 1 := by
  obtain ⟨a, a1, a2, a3⟩ := pm_least E hx
  obtain ⟨b, b1, b2, b3⟩ := pm_least E hy
  have key : ∀ (x y a b : Nat), x < N → y < N → a ≤ x → b ≤ y → r x a → r y b → pm_L r a → pm_L r b → ¬ r x y → a < b → (∀ i j, i < N → j < N → (s i j ↔ r i j ∨ (r i x ∧ r y j) ∨ (r i y ∧ r x j))) → pm_n N r = pm_n N s + 1 := by
    intro x y a b hx hy a1 b1 a2 b2 a3 b3 hxy hab h
    refine pm_c_one (a := b) (by omega) (fun i hi hib => ⟨fun hL j hj hs => ?_, fun hL j hj hr => hL j hj ((h i j hi (by omega)).mpr (Or.inl hr))⟩) b3 (fun hL => ?_)
    · rcases (h i j hi (by omega)).mp hs with q | ⟨q1, q2⟩ | ⟨q1, q2⟩
      · exact hL j hj q
      · -- i in x's class and least: i = a; j in y's class, below a: but b is least there
        have hia : i = a := pm_least_eq E hx hi (by omega) (E.2.1 i x hi hx q1) a2 hL a3
        have hjb : r b j := E.2.2 b y j (by omega) hy (by omega) (E.2.1 y b hy (by omega) b2) q2
        exact b3 j (by omega) hjb
      · have hib2 : i = b := pm_least_eq E hy hi (by omega) (E.2.1 i y hi hy q1) b2 hL b3
        exact hib hib2
    · refine hL a hab ((h b a (by omega) (by omega)).mpr (Or.inr (Or.inr ⟨E.2.1 y b hy (by omega) b2, a2⟩)))
  rcases Nat.lt_trichotomy a b with q | q | q
  · exact key x y a b hx hy a1 b1 a2 b2 a3 b3 hxy q h
  · subst q
    exact absurd (E.2.2 x a y hx (by omega) hy a2 (E.2.1 y a hy (by omega) b2)) hxy
  · refine key y x b a hy hx b1 a1 b2 a2 b3 a3 (fun z => hxy (E.2.1 y x hy hx z)) q (fun i j hi hj => ?_)
    rw [h i j hi hj]
    constructor
    · rintro (z | z | z)
      · exact Or.inl z
      · exact Or.inr (Or.inr z)
      · exact Or.inr (Or.inl z)
    · rintro (z | z | z)
      · exact Or.inl z
      · exact Or.inr (Or.inr z)
      · exact Or.inr (Or.inl z)
theorem pm_RE {N : Nat} {f : Nat → Nat} (h : pm_P N f) : pm_E N (pm_R f) := ⟨fun _ _ => pm_R.rf, fun _ _ hi _ hr => hr.sy h hi, fun _ _ _ _ _ _ h1 h2 => h1.tr h2⟩
/-- how many rounds -/
noncomputable def pm_z (N : Nat) (f : Nat → Nat) : Nat := pm_n N (pm_R f)
def pm_sw (x y i : Nat) : Nat := if i = x then y else if i = y then x else i
theorem pm_sw_sw (x y i : Nat) : pm_sw x y (pm_sw x y i) = i := by
  unfold pm_sw
  by_cases h1 : i = x
  · subst h1
    by_cases h2 : y = i
    · simp [h2]
    · simp [h2]
  · by_cases h2 : i = y
    · subst h2; simp [h1]
    · simp [h1, h2]
theorem pm_sw_lt {N x y i : Nat} (hx : x < N) (hy : y < N) (hi : i < N) : pm_sw x y i < N := by
  unfold pm_sw
  split
  · exact hy
  · split
    · exact hx
    · exact hi
theorem pm_P_sw {N : Nat} {f : Nat → Nat} (h : pm_P N f) {x y : Nat} (hx : x < N) (hy : y < N) : pm_P N (fun i => f (pm_sw x y i)) := by
  refine ⟨fun i hi => h.1 _ (pm_sw_lt hx hy hi), fun i j hi hj e => ?_⟩
  have h1 := h.2 _ _ (pm_sw_lt hx hy hi) (pm_sw_lt hx hy hj) e
  have h2 := congrArg (pm_sw x y) h1
  rw [pm_sw_sw, pm_sw_sw] at h2
  exact h2
theorem pm_it_same {f g : Nat → Nat} {z : Nat} : ∀ k, (∀ j, j < k → g (pm_it f j z) = f (pm_it f j z)) → pm_it g k z = pm_it f k z := by
  intro k
  induction k with
  | zero => intro _; rfl
  | succ k ih =>
    intro h
    show g (pm_it g k z) = f (pm_it f k z)
    rw [ih (fun j hj => h j (by omega)), h k (by omega)]
theorem pm_it_congr {N : Nat} {f g : Nat → Nat} (hf : pm_P N f) (h : ∀ i, i < N → g i = f i) {i : Nat} (hi : i < N) (k : Nat) : pm_it g k i = pm_it f k i := pm_it_same k (fun j _ => h _ (pm_it_lt hf hi j))
theorem pm_z_congr {N : Nat} {f g : Nat → Nat} (hf : pm_P N f) (h : ∀ i, i < N → g i = f i) : pm_z N g = pm_z N f :=
  pm_n_congr (fun i j hi _ => ⟨fun ⟨k, e⟩ => ⟨k, by rw [← pm_it_congr hf h hi]; exact e⟩, fun ⟨k, e⟩ => ⟨k, by rw [pm_it_congr hf h hi]; exact e⟩⟩)
/-- rounds of x and y apart: swapping joins them -/
theorem pm_join {N : Nat} {f : Nat → Nat} (h : pm_P N f) {x y : Nat} (hx : x < N) (hy : y < N) (hr : ¬ pm_R f x y) : pm_z N f = pm_z N (fun i => f (pm_sw x y i)) + 1 := by
  have hg := pm_P_sw h hx hy
  have hxy : x ≠ y := fun e => hr (by rw [e]; exact pm_R.rf)
  have E := pm_RE h
  have Eg := pm_RE hg
  -- from x by g one comes to y
  have hRg : ∀ x y, x < N → y < N → x ≠ y → ¬ pm_R f x y → pm_R (fun i => f (pm_sw x y i)) x y := by
    intro x y hx hy hxy hr
    obtain ⟨p, hp, -, hpy, hpm⟩ := pm_per h hy
    refine ⟨p, ?_⟩
    have h1 : pm_it (fun i => f (pm_sw x y i)) (p - 1) (f y) = pm_it f (p - 1) (f y) := by
      refine pm_it_same _ (fun j hj => ?_)
      show f (pm_sw x y (pm_it f j (f y))) = _
      have e1 : pm_it f j (f y) = pm_it f (j + 1) y := (pm_it_f f j y).symm
      have n1 : pm_it f j (f y) ≠ x := fun e => hr (pm_R.sy h hy ⟨j + 1, by rw [← e1]; exact e⟩)
      have n2 : pm_it f j (f y) ≠ y := by rw [e1]; exact hpm (j + 1) (by omega) (by omega)
      unfold pm_sw
      rw [if_neg n1, if_neg n2]
    have h2 : pm_it (fun i => f (pm_sw x y i)) p x = pm_it (fun i => f (pm_sw x y i)) (p - 1) (f y) := by
      have : p = (p - 1) + 1 := by omega
      rw [this, pm_it_f]
      show pm_it _ (p - 1 + 1 - 1) (f (pm_sw x y x)) = _
      rw [Nat.add_sub_cancel]
      unfold pm_sw
      rw [if_pos rfl]
    rw [h2, h1, ← pm_it_f, show p - 1 + 1 = p by omega]
    exact hpy
  have hgxy := hRg x y hx hy hxy hr
  refine pm_merge E hx hy hr (fun i j hi hj => ⟨fun ⟨k, e⟩ => ?_, fun hm => ?_⟩)
  · -- g's rounds are within the joined classes
    have step : ∀ k, pm_R f i (pm_it (fun i => f (pm_sw x y i)) k i) ∨ (pm_R f i x ∧ pm_R f y (pm_it (fun i => f (pm_sw x y i)) k i)) ∨ (pm_R f i y ∧ pm_R f x (pm_it (fun i => f (pm_sw x y i)) k i)) := by
      intro k
      induction k with
      | zero => exact Or.inl pm_R.rf
      | succ k ih =>
        show pm_R f i (f (pm_sw x y (pm_it _ k i))) ∨ (pm_R f i x ∧ pm_R f y (f (pm_sw x y (pm_it _ k i)))) ∨ (pm_R f i y ∧ pm_R f x (f (pm_sw x y (pm_it _ k i))))
        generalize hm : pm_it (fun i => f (pm_sw x y i)) k i = m at ih ⊢
        have hmN : m < N := by rw [← hm]; exact pm_it_lt hg hi k
        by_cases mx : m = x
        · subst mx
          have e1 : pm_sw m y m = y := by unfold pm_sw; rw [if_pos rfl]
          rw [e1]
          rcases ih with q | ⟨q1, q2⟩ | ⟨q1, q2⟩
          · exact Or.inr (Or.inl ⟨q, pm_R.st⟩)
          · exact absurd (pm_R.sy h hy q2) hr
          · exact Or.inl (q1.tr pm_R.st)
        · by_cases my : m = y
          · subst my
            have e1 : pm_sw x m m = x := by unfold pm_sw; rw [if_neg mx, if_pos rfl]
            rw [e1]
            rcases ih with q | ⟨q1, q2⟩ | ⟨q1, q2⟩
            · exact Or.inr (Or.inr ⟨q, pm_R.st⟩)
            · exact Or.inl (q1.tr pm_R.st)
            · exact absurd q2 hr
          · have e1 : pm_sw x y m = m := by unfold pm_sw; rw [if_neg mx, if_neg my]
            rw [e1]
            rcases ih with q | ⟨q1, q2⟩ | ⟨q1, q2⟩
            · exact Or.inl (q.tr pm_R.st)
            · exact Or.inr (Or.inl ⟨q1, q2.tr pm_R.st⟩)
            · exact Or.inr (Or.inr ⟨q1, q2.tr pm_R.st⟩)
    rw [← e]
    exact step k
  · -- f's rounds are within g's
    have hgyx := hgxy.sy hg hx
    have sub : ∀ i j, i < N → pm_R f i j → pm_R (fun i => f (pm_sw x y i)) i j := by
      intro i j hi ⟨k, e⟩
      rw [← e]
      have : ∀ k, pm_R (fun i => f (pm_sw x y i)) i (pm_it f k i) := by
        intro k
        induction k with
        | zero => exact pm_R.rf
        | succ k ih =>
          show pm_R _ i (f (pm_it f k i))
          generalize pm_it f k i = m at ih ⊢
          by_cases mx : m = x
          · have e2 : f m = (fun i => f (pm_sw x y i)) y := by
              show f m = f (pm_sw x y y)
              unfold pm_sw
              by_cases hyx : y = x
              · exact absurd hyx.symm hxy
              · rw [if_neg hyx, if_pos rfl, mx]
            rw [e2]
            exact (ih.tr (by rw [mx]; exact hgxy)).tr pm_R.st
          · by_cases my : m = y
            · have e2 : f m = (fun i => f (pm_sw x y i)) x := by
                show f m = f (pm_sw x y x)
                unfold pm_sw
                rw [if_pos rfl, my]
              rw [e2]
              exact (ih.tr (by rw [my]; exact hgyx)).tr pm_R.st
            · have e2 : f m = (fun i => f (pm_sw x y i)) m := by
                show f m = f (pm_sw x y m)
                unfold pm_sw
                rw [if_neg mx, if_neg my]
              rw [e2]
              exact ih.tr pm_R.st
      exact this k
    rcases hm with q | ⟨q1, q2⟩ | ⟨q1, q2⟩
    · exact sub i j hi q
    · exact ((sub i x hi q1).tr hgxy).tr (sub y j hy q2)
    · exact ((sub i y hi q1).tr hgyx).tr (sub x j hx q2)
/-- x and y in one round: swapping parts them -/
theorem pm_part {N : Nat} {f : Nat → Nat} (h : pm_P N f) {x y : Nat} (hx : x < N) (hy : y < N) (hxy : x ≠ y) (hr : pm_R f x y) : ¬ pm_R (fun i => f (pm_sw x y i)) x y ∧ pm_z N (fun i => f (pm_sw x y i)) = pm_z N f + 1 := by
  have hg := pm_P_sw h hx hy
  have hn : ¬ pm_R (fun i => f (pm_sw x y i)) x y := by
    -- the first time that y's walk meets x or y again it meets x
    have hyx := hr.sy h hx
    obtain ⟨p, hp, -, hpy, hpm⟩ := pm_per h hy
    obtain ⟨k, ⟨hk1, hk2⟩, hk3⟩ := pk_least (fun k => 1 ≤ k ∧ pm_it f k y = x) (by
      obtain ⟨k, e⟩ := hyx
      refine ⟨k, ?_, e⟩
      rcases Nat.eq_zero_or_pos k with z | z
      · subst z; exact absurd e.symm hxy
      · exact z)
    have hkp : k < p := by
      rcases Nat.lt_or_ge k p with q | q
      · exact q
      · exfalso
        have e := pm_it_mod hpy k
        rw [hk2] at e
        have hlt : k % p < p := Nat.mod_lt _ hp
        rcases Nat.eq_zero_or_pos (k % p) with z | z
        · rw [z] at e; exact hxy e
        · exact hk3 (k % p) (by omega) ⟨z, e.symm⟩
    -- g's iterates of x
    have walk : ∀ j, j ≤ k → 1 ≤ j → pm_it (fun i => f (pm_sw x y i)) j x = pm_it f j y := by
      intro j
      induction j with
      | zero => intro _ h1; omega
      | succ j ih =>
        intro hj _
        rcases Nat.eq_zero_or_pos j with z | z
        · subst z
          show f (pm_sw x y x) = f y
          unfold pm_sw
          rw [if_pos rfl]
        · show f (pm_sw x y (pm_it _ j x)) = f (pm_it f j y)
          rw [ih (by omega) z]
          have n1 : pm_it f j y ≠ x := fun e => hk3 j (by omega) ⟨z, e⟩
          have n2 : pm_it f j y ≠ y := hpm j z (by omega)
          unfold pm_sw
          rw [if_neg n1, if_neg n2]
    have hper : pm_it (fun i => f (pm_sw x y i)) k x = x := by rw [walk k (Nat.le_refl k) hk1]; exact hk2
    intro ⟨m, e⟩
    rw [pm_it_mod hper m] at e
    have hlt : m % k < k := Nat.mod_lt _ hk1
    rcases Nat.eq_zero_or_pos (m % k) with z | z
    · rw [z] at e; exact hxy e
    · rw [walk _ (by omega) z] at e
      exact hpm _ z (by omega) e
  refine ⟨hn, ?_⟩
  have h2 := pm_join hg hx hy hn
  rw [h2]
  congr 1
  refine pm_z_congr h (fun i hi => ?_)
  show f (pm_sw x y (pm_sw x y i)) = f i
  rw [pm_sw_sw]
