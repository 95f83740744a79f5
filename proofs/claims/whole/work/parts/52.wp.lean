/-! What an answer has: rules for the functions f.. -/
def wp_Q {β : Type} (P : β → Prop) (o : Option β) : Prop := ∃ r, o = some r ∧ P r
theorem wp_some {β : Type} {P : β → Prop} {r : β} (h : P r) : wp_Q P (some r) := ⟨r, rfl, h⟩
theorem wp_if {β : Type} {P : β → Prop} {c : Prop} [Decidable c] {x y : Option β} (h1 : c → wp_Q P x) (h2 : ¬ c → wp_Q P y) : wp_Q P (if c then x else y) := by
  by_cases h : c
  · rw [if_pos h]; exact h1 h
  · rw [if_neg h]; exact h2 h
theorem wp_ifp {β : Type} {P : β → Prop} {c : Prop} [Decidable c] {x y : Option β} (h : c) (h1 : wp_Q P x) : wp_Q P (if c then x else y) := by rw [if_pos h]; exact h1
theorem wp_ifn {β : Type} {P : β → Prop} {c : Prop} [Decidable c] {x y : Option β} (h : ¬ c) (h1 : wp_Q P y) : wp_Q P (if c then x else y) := by rw [if_neg h]; exact h1
theorem wp_bind {α β : Type} {P1 : α → Prop} {P : β → Prop} {o : Option α} {f : α → Option β} (h : wp_Q P1 o) (k : ∀ r, P1 r → wp_Q P (f r)) : wp_Q P (o.bind f) := by
  obtain ⟨r, rfl, h1⟩ := h
  exact k r h1
theorem wp_eq {α β : Type} {P : β → Prop} {o : Option α} {f : α → Option β} {r : α} (h : o = some r) (k : wp_Q P (f r)) : wp_Q P (o.bind f) := by rw [h]; exact k
theorem wp_mono {β : Type} {P P' : β → Prop} {o : Option β} (h : wp_Q P o) (k : ∀ r, P r → P' r) : wp_Q P' o := by
  obtain ⟨r, h1, h2⟩ := h
  exact ⟨r, h1, k r h2⟩
theorem wp_loop {α β : Type} {b : (α → Option β) → α → Option β} {P : β → Prop} (I : α → Prop) (μ : α → Nat) (step : ∀ k a, I a → (∀ a', I a' → μ a' < μ a → wp_Q P (k a')) → wp_Q P (b k a)) {n : Nat} {a : α} (h : I a) (hn : μ a < n) : wp_Q P (gt_loop b n a) := by
  induction n generalizing a with
  | zero => omega
  | succ n ih => exact step (gt_loop b n) a h (fun a' h1 h2 => ih h1 (by omega))
theorem wp_get {β : Type} {v : β} {o : Option β} (h : wp_Q (fun r => r = v) o) : o = some v := by
  obtain ⟨r, h1, h2⟩ := h
  rw [h1, h2]
theorem gt_fuel_eq : gt_fuel = 1000000 := rfl
/-! places, by numbers -/
def na_across (a : Nat) : Nat := 4 * (a / 4) + (a + 2) % 4
def na_beside (a : Nat) : Nat := 4 * (a / 4) + (a + 3) % 4
def na_uo (sg : Nat → Int) (k : Nat) : Nat := if sg k = 1 then 1 else 3
def na_ui (sg : Nat → Int) (k : Nat) : Nat := if sg k = 1 then 3 else 1
def na_out (sg : Nat → Int) (a : Nat) : Prop := a % 4 = 2 ∨ a % 4 = na_uo sg (a / 4)
def na_seif (sg : Nat → Int) (a : Nat) : Nat := 4 * (a / 4) + (if a % 2 = 0 then na_uo sg (a / 4) else 2)
/-- a row of n crossings in a Row's state -/
def rw_ok (t : gt_T) (n : Nat) : Prop := t.1 2 = (n : Int) ∧ n ≤ 20 ∧ (∀ k, k < n → t.2 0 k = 1 ∨ t.2 0 k = -1) ∧ ∀ a, a < 4 * n → 1 ≤ t.2 1 a ∧ t.2 1 a ≤ 9999
theorem sX4_has (T : gt_T) (x : Int) : fX4_has T x = some (if 0 ≤ x ∧ x < T.1 2 then 1 else 0) := by
  unfold fX4_has fX4_has_16 fX4_has_17
  by_cases h1 : x < 0
  · rw [if_pos h1, if_neg (show ¬ (0 ≤ x ∧ x < T.1 2) by omega)]; rfl
  · rw [if_neg h1]
    by_cases h2 : T.1 2 ≤ x
    · rw [if_pos h2, if_neg (show ¬ (0 ≤ x ∧ x < T.1 2) by omega)]; rfl
    · rw [if_neg h2, if_pos (show 0 ≤ x ∧ x < T.1 2 by omega)]; rfl
theorem sX4_spots {T : gt_T} {n : Nat} (h : T.1 2 = (n : Int)) (hn : n ≤ 20) : fX4_spots T = some ((4 * n : Nat) : Int) := by
  unfold fX4_spots
  rw [if_pos (by omega), h]
  congr 1
theorem sX4_label {T : gt_T} {n : Nat} (h : rw_ok T n) (x : Int) : fX4_label T x = some (if 0 ≤ x ∧ x < 4 * n then T.2 1 x.toNat else 0) := by
  have hn := h.2.1
  unfold fX4_label fX4_label_21 fX4_label_22
  by_cases h1 : x < 0
  · rw [if_pos h1, if_neg (show ¬ (0 ≤ x ∧ x < 4 * n) by omega)]
  · rw [if_neg h1, sX4_spots h.1 h.2.1]
    show (if ((4 * n : Nat) : Int) ≤ x then _ else _) = _
    by_cases h2 : ((4 * n : Nat) : Int) ≤ x
    · rw [if_pos h2, if_neg (show ¬ (0 ≤ x ∧ x < 4 * n) by omega)]
    · rw [if_neg h2, if_pos (show 0 ≤ x ∧ x < 80 by omega), if_pos (show 0 ≤ x ∧ x < 4 * n by omega)]
theorem sX4_labelN {T : gt_T} {n a : Nat} (h : rw_ok T n) (ha : a < 4 * n) : fX4_label T (a : Int) = some (T.2 1 a) := by
  rw [sX4_label h, if_pos (by omega), Int.toNat_natCast]
theorem sX4_sign {T : gt_T} {n : Nat} (h : rw_ok T n) (x : Int) : fX4_sign T x = some (if 0 ≤ x ∧ x < n then T.2 0 x.toNat else 0) := by
  have hn := h.2.1
  unfold fX4_sign fX4_sign_18
  rw [sX4_has, h.1]
  by_cases h1 : 0 ≤ x ∧ x < n
  · simp only [if_pos h1, Option.bind_some]
    rw [if_neg (show ¬ (1 : Int) = 0 by decide), if_pos (show 0 ≤ x ∧ x < 20 by omega)]
  · simp only [if_neg h1, Option.bind_some]
    rfl
theorem sX4_signN {T : gt_T} {n k : Nat} (h : rw_ok T n) (hk : k < n) : fX4_sign T (k : Int) = some (T.2 0 k) := by
  rw [sX4_sign h, if_pos (by omega), Int.toNat_natCast]
theorem sX4_lowerOut {k : Nat} (hk : k < 1000) : fX4_lowerOut (k : Int) = some ((4 * k + 2 : Nat) : Int) := by
  unfold fX4_lowerOut
  rw [if_pos (by omega)]
  rfl
theorem sX4_lowerIn {k : Nat} (hk : k < 1000) : fX4_lowerIn (k : Int) = some ((4 * k : Nat) : Int) := by
  unfold fX4_lowerIn
  rw [if_pos (by omega)]
  rfl
theorem sX4_upperOut {T : gt_T} {n k : Nat} (h : rw_ok T n) (hk : k < n) : fX4_upperOut T (k : Int) = some ((4 * k + na_uo (T.2 0) k : Nat) : Int) := by
  have hn := h.2.1
  unfold fX4_upperOut fX4_upperOut_17 na_uo
  rw [if_pos (by omega), sX4_signN h hk]
  show (if T.2 0 k = 1 then _ else _) = _
  by_cases h1 : T.2 0 k = 1
  · rw [if_pos h1, if_pos h1, if_pos (by omega)]; rfl
  · rw [if_neg h1, if_neg h1, if_pos (by omega)]; rfl
theorem sX4_upperIn {T : gt_T} {n k : Nat} (h : rw_ok T n) (hk : k < n) : fX4_upperIn T (k : Int) = some ((4 * k + na_ui (T.2 0) k : Nat) : Int) := by
  have hn := h.2.1
  unfold fX4_upperIn fX4_upperIn_17 na_ui
  rw [if_pos (by omega), sX4_signN h hk]
  show (if T.2 0 k = 1 then _ else _) = _
  by_cases h1 : T.2 0 k = 1
  · rw [if_pos h1, if_pos h1, if_pos (by omega)]; rfl
  · rw [if_neg h1, if_neg h1, if_pos (by omega)]; rfl
theorem na_td (a : Nat) (d : Nat) : Int.tdiv (a : Int) (d : Int) = ((a / d : Nat) : Int) := by
  rw [Int.tdiv_eq_ediv_of_nonneg (by omega)]; rfl
theorem na_uo_lt (sg : Nat → Int) (k : Nat) : na_uo sg k < 4 := by unfold na_uo; split <;> omega
theorem na_ui_lt (sg : Nat → Int) (k : Nat) : na_ui sg k < 4 := by unfold na_ui; split <;> omega
theorem sX4_goesOut {T : gt_T} {n a : Nat} (h : rw_ok T n) (ha : a < 4 * n) : (na_out (T.2 0) a ∧ fX4_goesOut T (a : Int) = some 1) ∨ (¬ na_out (T.2 0) a ∧ fX4_goesOut T (a : Int) = some 0) := by
  have hn := h.2.1
  have hlt := na_uo_lt (T.2 0) (a / 4)
  unfold fX4_goesOut fX4_goesOut_21 fX4_goesOut_26 na_out
  rw [show Int.tdiv (a : Int) (4 : Int) = ((a / 4 : Nat) : Int) from na_td a 4, sX4_lowerOut (by omega), sX4_upperOut h (by omega)]
  show (_ ∧ (if (a : Int) = ((4 * (a / 4) + 2 : Nat) : Int) then _ else (if (a : Int) = ((4 * (a / 4) + na_uo (T.2 0) (a / 4) : Nat) : Int) then _ else _)) = _) ∨ (_ ∧ (if (a : Int) = ((4 * (a / 4) + 2 : Nat) : Int) then _ else (if (a : Int) = ((4 * (a / 4) + na_uo (T.2 0) (a / 4) : Nat) : Int) then _ else _)) = _)
  by_cases h1 : (a : Int) = ((4 * (a / 4) + 2 : Nat) : Int)
  · left
    rw [if_pos h1]
    exact ⟨Or.inl (by omega), rfl⟩
  · by_cases h2 : (a : Int) = ((4 * (a / 4) + na_uo (T.2 0) (a / 4) : Nat) : Int)
    · left
      rw [if_neg h1, if_pos h2]
      exact ⟨Or.inr (by omega), rfl⟩
    · right
      rw [if_neg h1, if_neg h2]
      exact ⟨by omega, rfl⟩
theorem sX4_across {a : Nat} (ha : a < 1000) : fX4_across (a : Int) = some ((na_across a : Nat) : Int) := by
  unfold fX4_across na_across
  rw [if_pos (by omega)]
  congr 1
  omega
theorem sX4_beside {a : Nat} (ha : a < 1000) : fX4_beside (a : Int) = some ((na_beside a : Nat) : Int) := by
  unfold fX4_beside na_beside
  rw [if_pos (by omega)]
  congr 1
  omega
theorem sX4_isUpper (a : Nat) : fX4_isUpper (a : Int) = some (if a % 2 = 0 then 0 else 1) := by
  unfold fX4_isUpper fX4_isUpper_11
  rw [if_pos (by omega)]
  by_cases h : a % 2 = 0
  · rw [if_pos (by omega), if_pos h]; rfl
  · rw [if_neg (by omega), if_neg h]; rfl
theorem sX4_seifertOut {T : gt_T} {n a : Nat} (h : rw_ok T n) (ha : a < 4 * n) : fX4_seifertOut T (a : Int) = some ((na_seif (T.2 0) a : Nat) : Int) := by
  have hn := h.2.1
  unfold fX4_seifertOut fX4_seifertOut_23 na_seif
  rw [sX4_isUpper, show Int.tdiv (a : Int) (4 : Int) = ((a / 4 : Nat) : Int) from na_td a 4, sX4_lowerOut (by omega), sX4_upperOut h (by omega)]
  by_cases h1 : a % 2 = 0
  · rw [if_pos h1, if_pos h1]; rfl
  · rw [if_neg h1, if_neg h1]; rfl
theorem sX4_crossings (T : gt_T) : fX4_crossings T = some (T.1 2) := rfl
