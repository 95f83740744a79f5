/-! Labels when a crossing is smoothed away. -/
def mrg (lb : Nat → Int) (u v : Int) (x : Nat) : Int := if lb x = max u v then min u v else lb x
theorem mrg_iff (lb : Nat → Int) (u v : Int) (x y : Nat) : mrg lb u v x = mrg lb u v y ↔ lb x = lb y ∨ ((lb x = u ∨ lb x = v) ∧ (lb y = u ∨ lb y = v)) := by
  unfold mrg
  split <;> split <;> omega
theorem mrg_in (lb : Nat → Int) (u v : Int) (x : Nat) : mrg lb u v x = u ∨ mrg lb u v x = v ∨ mrg lb u v x = lb x := by
  unfold mrg
  split <;> omega
def MJ (N : Nat) (R : Nat → Prop) (sg lb : Nat → Int) (μ : Nat → Nat) : Prop := ∀ x, x < N → ¬ R x → μ x < N ∧ ¬ R (μ x) ∧ μ x ≠ x ∧ μ (μ x) = x ∧ lb (μ x) = lb x ∧ (na_out sg (μ x) ↔ ¬ na_out sg x) ∧ ∀ y, y < N → ¬ R y → lb y = lb x → y = x ∨ y = μ x
theorem MJ.st {N : Nat} {R : Nat → Prop} {sg lb : Nat → Int} {μ : Nat → Nat} (h : MJ N R sg lb μ) {a b : Nat} (ha : a < N) (hb : b < N) (ra : ¬ R a) (rb : ¬ R b) (hab : a ≠ b) (ho : na_out sg a ↔ ¬ na_out sg b) : MJ N (fun x => R x ∨ x = a ∨ x = b) sg (mrg lb (lb a) (lb b)) (jn μ a b) := by
  intro x hx hR
  have rx : ¬ R x := fun z => hR (Or.inl z)
  have xa : x ≠ a := fun z => hR (Or.inr (Or.inl z))
  have xb : x ≠ b := fun z => hR (Or.inr (Or.inr z))
  obtain ⟨a1, a2, a3, a4, a5, a6, a7⟩ := h a ha ra
  obtain ⟨b1, b2, b3, b4, b5, b6, b7⟩ := h b hb rb
  have hinj : ∀ y z, y < N → z < N → ¬ R y → ¬ R z → μ y = μ z → y = z := fun y z hy hz ry rz e => by rw [← (h y hy ry).2.2.2.1, e, (h z hz rz).2.2.2.1]
  have hpq : μ a ≠ μ b := fun z => hab (hinj a b ha hb ra rb z)
  have uniq : ∀ y, y < N → ¬ (R y ∨ y = a ∨ y = b) → (lb y = lb a ∨ lb y = lb b) → y = μ a ∨ y = μ b := fun y hy ry e => by
    rcases e with e | e
    · rcases a7 y hy (fun z => ry (Or.inl z)) e with z | z
      · exact absurd (Or.inr (Or.inl z)) ry
      · exact Or.inl z
    · rcases b7 y hy (fun z => ry (Or.inl z)) e with z | z
      · exact absurd (Or.inr (Or.inr z)) ry
      · exact Or.inr z
  have out4 : na_out sg (μ b) ↔ ¬ na_out sg (μ a) := by rw [a6, b6, ho, Classical.not_not]
  by_cases xp : x = μ a
  · have e : jn μ a b x = μ b := by unfold jn; rw [if_neg (by omega), if_pos xp]
    have qa : μ b ≠ a := fun z => xb (by rw [xp, ← z, b4])
    have e' : jn μ a b (μ b) = μ a := by unfold jn; rw [if_neg (by omega), if_neg hpq.symm, if_pos rfl]
    rw [e]
    refine ⟨b1, fun w => Or.elim w b2 (fun w' => Or.elim w' qa b3), fun z => hpq (by rw [z, xp]), by rw [e', xp], ?_, ?_, fun y hy ry e3 => ?_⟩
    · rw [mrg_iff]; exact Or.inr ⟨Or.inr b5, by rw [xp]; exact Or.inl a5⟩
    · rw [xp]; exact out4
    · rw [mrg_iff] at e3
      have : lb y = lb a ∨ lb y = lb b := by
        rcases e3 with z | z
        · rw [xp, a5] at z; exact Or.inl z
        · exact z.1
      rcases uniq y hy ry this with z | z
      · exact Or.inl (by rw [z, xp])
      · exact Or.inr z
  · by_cases xq : x = μ b
    · have e : jn μ a b x = μ a := by unfold jn; rw [if_neg (by omega), if_neg xp, if_pos xq]
      have pb : μ a ≠ b := fun z => xa (by rw [xq, ← z, a4])
      have e' : jn μ a b (μ a) = μ b := by unfold jn; rw [if_neg (by omega), if_pos rfl]
      rw [e]
      refine ⟨a1, fun w => Or.elim w a2 (fun w' => Or.elim w' a3 pb), fun z => hpq (by rw [z, xq]), by rw [e', xq], ?_, ?_, fun y hy ry e3 => ?_⟩
      · rw [mrg_iff]; exact Or.inr ⟨Or.inl a5, by rw [xq]; exact Or.inr b5⟩
      · rw [xq, out4, Classical.not_not]
      · rw [mrg_iff] at e3
        have : lb y = lb a ∨ lb y = lb b := by
          rcases e3 with z | z
          · rw [xq, b5] at z; exact Or.inr z
          · exact z.1
        rcases uniq y hy ry this with z | z
        · exact Or.inr z
        · exact Or.inl (by rw [z, xq])
    · obtain ⟨x1, x2, x3, x4, x5, x6, x7⟩ := h x hx rx
      have e : jn μ a b x = μ x := by unfold jn; rw [if_neg (by omega), if_neg xp, if_neg xq]
      have mxa : μ x ≠ a := fun z => xp (by rw [← z, x4])
      have mxb : μ x ≠ b := fun z => xq (by rw [← z, x4])
      have e' : jn μ a b (μ x) = x := by
        unfold jn
        rw [if_neg (by omega), if_neg (fun z => xa (hinj x a hx ha rx ra z)), if_neg (fun z => xb (hinj x b hx hb rx rb z)), x4]
      rw [e]
      refine ⟨x1, fun w => Or.elim w x2 (fun w' => Or.elim w' mxa mxb), x3, e', ?_, x6, fun y hy ry e3 => ?_⟩
      · rw [mrg_iff]; exact Or.inl x5
      · rw [mrg_iff] at e3
        rcases e3 with z | ⟨_, z⟩
        · exact x7 y hy (fun w => ry (Or.inl w)) z
        · rcases uniq x hx hR z with w | w
          · exact absurd w xp
          · exact absurd w xq
theorem jn_iv {N : Nat} {R : Nat → Prop} {sg lb : Nat → Int} {μ : Nat → Nat} (h : MJ N R sg lb μ) (hf : ∀ x, x < N → R x → μ x = x) (x : Nat) (hx : x < N) : μ x < N ∧ μ (μ x) = x := by
  by_cases r : R x
  · rw [hf x hx r]; exact ⟨hx, hf x hx r⟩
  · exact ⟨(h x hx r).1, (h x hx r).2.2.2.1⟩
section SMO
variable {n k : Nat} {sg lb : Nat → Int}
/-- the labels after both joins -/
def sm_l1 (sg lb : Nat → Int) (k : Nat) : Nat → Int := mrg lb (lb (4 * k)) (lb (4 * k + na_uo sg k))
def sm_l2 (sg lb : Nat → Int) (k : Nat) : Nat → Int := mrg (sm_l1 sg lb k) (sm_l1 sg lb k (4 * k + na_ui sg k)) (sm_l1 sg lb k (4 * k + 2))
theorem hol_4 (k x : Nat) : hol (4 * k) x / 4 = (if x / 4 < k then x / 4 else x / 4 + 1) ∧ hol (4 * k) x % 4 = x % 4 := by
  unfold hol
  split <;> split <;> omega
theorem sm_D (hD : dg_D (n + 1) sg lb) (hk : k ≤ n) : ∃ μ2 : Nat → Nat, MJ (4 * n + 4) (fun x => 4 * k ≤ x ∧ x < 4 * k + 4) sg (sm_l2 sg lb k) μ2 ∧ (∀ x, 4 * k ≤ x → x < 4 * k + 4 → μ2 x = x) ∧ (ESp (4 * n + 4) na_beside (mt lb (4 * n + 4)) → ∃ β2 : Nat → Nat, pm_P (4 * n + 4) β2 ∧ (∀ x, 4 * k ≤ x → x < 4 * k + 4 → β2 x = x) ∧ (∀ x, ¬ (4 * k ≤ x ∧ x < 4 * k + 4) → β2 x = na_beside x) ∧ ESp (4 * n + 4) β2 μ2) := by
  have hN : 4 * (n + 1) = 4 * n + 4 := by omega
  have h0 : MJ (4 * n + 4) (fun _ => False) sg lb (mt lb (4 * n + 4)) := by
    intro x hx _
    have hx' : x < 4 * (n + 1) := by omega
    have h1 := dg_mt hD hx'
    have h2 := dg_mm hD hx'
    rw [hN] at h1 h2
    exact ⟨h1.1, id, h1.2.1, h2, h1.2.2.1, h1.2.2.2.1, fun y hy _ e => h1.2.2.2.2 y hy e⟩
  obtain ⟨a, ha⟩ : ∃ a, a = 4 * k := ⟨_, rfl⟩
  obtain ⟨b, hb⟩ : ∃ b, b = 4 * k + na_uo sg k := ⟨_, rfl⟩
  obtain ⟨c, hc⟩ : ∃ c, c = 4 * k + na_ui sg k := ⟨_, rfl⟩
  obtain ⟨d, hd⟩ : ∃ d, d = 4 * k + 2 := ⟨_, rfl⟩
  have hu : (na_uo sg k = 1 ∧ na_ui sg k = 3) ∨ (na_uo sg k = 3 ∧ na_ui sg k = 1) := by unfold na_uo na_ui; split <;> simp
  have oa : ¬ na_out sg a := by unfold na_out; rw [show a / 4 = k by omega]; omega
  have ob : na_out sg b := by unfold na_out; rw [show b / 4 = k by omega]; omega
  have oc : ¬ na_out sg c := by unfold na_out; rw [show c / 4 = k by omega]; omega
  have od : na_out sg d := by unfold na_out; rw [show d / 4 = k by omega]; omega
  have h1 := h0.st (a := a) (b := b) (by omega) (by omega) id id (by omega) ⟨fun z => absurd z oa, fun z => absurd ob z⟩
  have f1 : ∀ x, x < 4 * n + 4 → (False ∨ x = a ∨ x = b) → jn (mt lb (4 * n + 4)) a b x = x := fun x _ z => by
    unfold jn; rw [if_pos (by rcases z with z | z; exact absurd z id; exact z)]
  have iv1 := jn_iv h1 f1
  have nR : ∀ y, y = c ∨ y = d → ¬ (False ∨ y = a ∨ y = b) := fun y z => by
    rintro (w | w | w)
    · exact w
    · omega
    · omega
  have h2 := h1.st (a := c) (b := d) (by omega) (by omega) (nR c (Or.inl rfl)) (nR d (Or.inr rfl)) (by omega) ⟨fun z => absurd z oc, fun z => absurd od z⟩
  have hset : ∀ x, ((False ∨ x = a ∨ x = b) ∨ x = c ∨ x = d) ↔ (4 * k ≤ x ∧ x < 4 * k + 4) := fun x => by
    constructor
    · rintro ((z | z | z) | z | z)
      · exact absurd z id
      all_goals omega
    · intro z
      rcases (show x = a ∨ x = b ∨ x = c ∨ x = d by omega) with w | w | w | w
      · exact Or.inl (Or.inr (Or.inl w))
      · exact Or.inl (Or.inr (Or.inr w))
      · exact Or.inr (Or.inl w)
      · exact Or.inr (Or.inr w)
  refine ⟨jn (jn (mt lb (4 * n + 4)) a b) c d, ?_, fun x x1 x2 => ?_, fun hE => ?_⟩
  · intro x hx hR
    obtain ⟨y1, y2, y3, y4, y5, y6, y7⟩ := h2 x hx (fun z => hR ((hset x).mp z))
    have el : mrg (mrg lb (lb a) (lb b)) (mrg lb (lb a) (lb b) c) (mrg lb (lb a) (lb b) d) = sm_l2 sg lb k := by
      unfold sm_l2 sm_l1; rw [ha, hb, hc, hd]
    rw [el] at y5 y7
    exact ⟨y1, fun z => y2 ((hset _).mpr z), y3, y4, y5, y6, fun y hy ry e => y7 y hy (fun z => ry ((hset y).mp z)) e⟩
  · rcases (hset x).mpr ⟨x1, x2⟩ with (z | z | z) | z
    · exact absurd z id
    · have : jn (mt lb (4 * n + 4)) a b x = x := f1 x (by omega) (Or.inr (Or.inl z))
      have hc1 := (h1 c (by omega) (nR c (Or.inl rfl))).2.1
      have hd1 := (h1 d (by omega) (nR d (Or.inr rfl))).2.1
      unfold jn
      rw [if_neg (by omega)]
      rw [if_neg (fun w => hc1 (by rw [show jn (mt lb (4 * n + 4)) a b c = x from w.symm]; exact Or.inr (Or.inl z))), if_neg (fun w => hd1 (by rw [show jn (mt lb (4 * n + 4)) a b d = x from w.symm]; exact Or.inr (Or.inl z)))]
      exact this
    · have : jn (mt lb (4 * n + 4)) a b x = x := f1 x (by omega) (Or.inr (Or.inr z))
      have hc1 := (h1 c (by omega) (nR c (Or.inl rfl))).2.1
      have hd1 := (h1 d (by omega) (nR d (Or.inr rfl))).2.1
      unfold jn
      rw [if_neg (by omega)]
      rw [if_neg (fun w => hc1 (by rw [show jn (mt lb (4 * n + 4)) a b c = x from w.symm]; exact Or.inr (Or.inr z))), if_neg (fun w => hd1 (by rw [show jn (mt lb (4 * n + 4)) a b d = x from w.symm]; exact Or.inr (Or.inr z)))]
      exact this
    · unfold jn; rw [if_pos z]
  · -- the two turns at the crossing
    obtain ⟨x, y, hxy, hx, hy, s1, s2, s3, s4⟩ : ∃ x y, x ≠ y ∧ x / 4 = k ∧ y / 4 = k ∧ na_beside (pm_sw x y a) = b ∧ na_beside (pm_sw x y b) = a ∧ na_beside (pm_sw x y c) = d ∧ na_beside (pm_sw x y d) = c := by
      rcases hu with ⟨u1, u2⟩ | ⟨u1, u2⟩
      · refine ⟨4 * k, 4 * k + 2, by omega, by omega, by omega, ?_, ?_, ?_, ?_⟩
        · rw [ha, sw_l, hb, u1]; unfold na_beside; omega
        · rw [hb, u1, sw_o (by omega) (by omega), ha]; unfold na_beside; omega
        · rw [hc, u2, sw_o (by omega) (by omega), hd]; unfold na_beside; omega
        · rw [hd, sw_r, hc, u2]; unfold na_beside; omega
      · refine ⟨4 * k + 1, 4 * k + 3, by omega, by omega, by omega, ?_, ?_, ?_, ?_⟩
        · rw [ha, sw_o (by omega) (by omega), hb, u1]; unfold na_beside; omega
        · rw [hb, u1, sw_r, ha]; unfold na_beside; omega
        · rw [hc, u2, sw_l, hd]; unfold na_beside; omega
        · rw [hd, sw_o (by omega) (by omega), hc, u2]; unfold na_beside; omega
    have bP : pm_P (4 * n + 4) na_beside := by have := be_P (n + 1); rw [hN] at this; exact this
    have mP : pm_P (4 * n + 4) (mt lb (4 * n + 4)) := by have := mt_P hD; rw [hN] at this; exact this
    have iv0 : ∀ x, x < 4 * n + 4 → mt lb (4 * n + 4) x < 4 * n + 4 ∧ mt lb (4 * n + 4) (mt lb (4 * n + 4) x) = x := fun x hx => ⟨(h0 x hx id).1, (h0 x hx id).2.2.2.1⟩
    have E1 := ES_A hE bP mP (x := x) (y := y) (by omega) (by omega) hxy ((be_R x y).mpr (by omega))
    have P1 := pm_P_sw bP (x := x) (y := y) (by omega) (by omega)
    have E2 := ES_pair E1 P1 iv0 (a := a) (b := b) (by omega) (by omega) (by omega) (h0 a (by omega) id).2.2.1 (h0 b (by omega) id).2.2.1 s1 s2
    have oP : ∀ {β : Nat → Nat} {a b : Nat}, pm_P (4 * n + 4) β → a < 4 * n + 4 → b < 4 * n + 4 → β a = b → β b = a → pm_P (4 * n + 4) (off2 a b β) := by
      intro β a b hβ ha hb e1 e2
      refine pm_P_congr (pm_P_sw hβ ha hb) (fun i _ => ?_)
      unfold off2
      by_cases z1 : i = a
      · rw [z1, if_pos (Or.inl rfl), sw_l, e2]
      · by_cases z2 : i = b
        · rw [z2, if_pos (Or.inr rfl), sw_r, e1]
        · rw [if_neg (by omega), sw_o z1 z2]
    have P2 := oP P1 (show a < 4 * n + 4 by omega) (show b < 4 * n + 4 by omega) s1 s2
    have t1 : off2 a b (fun i => na_beside (pm_sw x y i)) c = d := by unfold off2; rw [if_neg (by omega)]; exact s3
    have t2 : off2 a b (fun i => na_beside (pm_sw x y i)) d = c := by unfold off2; rw [if_neg (by omega)]; exact s4
    have E3 := ES_pair E2 P2 iv1 (a := c) (b := d) (by omega) (by omega) (by omega) (h1 c (by omega) (nR c (Or.inl rfl))).2.2.1 (h1 d (by omega) (nR d (Or.inr rfl))).2.2.1 t1 t2
    refine ⟨_, oP P2 (by omega) (by omega) t1 t2, fun z z1 z2 => ?_, fun z hz => ?_, E3⟩
    · unfold off2
      rcases (show z = a ∨ z = b ∨ z = c ∨ z = d by omega) with w | w | w | w
      · rw [if_neg (by omega), if_pos (Or.inl w)]
      · rw [if_neg (by omega), if_pos (Or.inr w)]
      · rw [if_pos (Or.inl w)]
      · rw [if_pos (Or.inr w)]
    · unfold off2
      rw [if_neg (by omega), if_neg (by omega)]
      show na_beside (pm_sw x y z) = _
      rw [sw_o (by omega) (by omega)]
/-- all of it: what is left is a diagram on spheres -/
theorem smooth_ok (M : mr (n + 1) sg lb) (hs : SPh (n + 1) lb) (hk : k ≤ n) {sg' lb' : Nat → Int} (e1 : ∀ i, i < n → sg' i = sg (if i < k then i else i + 1)) (e2 : ∀ x, x < 4 * n → lb' x = sm_l2 sg lb k (hol (4 * k) x)) : mr n sg' lb' ∧ SPh n lb' := by
  have hN : 4 * (n + 1) = 4 * n + 4 := by omega
  obtain ⟨hn, m1, m2, hD⟩ := M
  obtain ⟨μ2, J, fx, hE⟩ := sm_D hD hk
  have hout : ∀ x, x < 4 * n → (na_out sg' x ↔ na_out sg (hol (4 * k) x)) := fun x hx => by
    obtain ⟨q1, q2⟩ := hol_4 k x
    unfold na_out na_uo
    rw [q2, q1, e1 _ (by omega)]
  have nR : ∀ x, ¬ (4 * k ≤ hol (4 * k) x ∧ hol (4 * k) x < 4 * k + 4) := fun x => hol_out
  have back : ∀ i, i < 4 * n + 4 → ¬ (4 * k ≤ i ∧ i < 4 * k + 4) → ∃ x, x < 4 * n ∧ hol (4 * k) x = i := fun i hi hR => by
    obtain ⟨x, e⟩ := hol_ex hR
    refine ⟨x, ?_, e⟩
    unfold hol at e; split at e <;> omega
  have hD' : dg_D n sg' lb' := by
    intro x hx
    obtain ⟨y1, y2, y3, y4, y5, y6, y7⟩ := J _ (hol_lt hx) (nR x)
    obtain ⟨y, z1, z2⟩ := back _ y1 y2
    refine ⟨y, z1, fun z => y3 (by rw [← z2, z]), by rw [e2 y z1, e2 x hx, z2]; exact y5, by rw [hout y z1, hout x hx, z2]; exact y6, fun d hd e => ?_⟩
    rw [e2 d hd, e2 x hx] at e
    rcases y7 _ (hol_lt hd) (nR d) e with w | w
    · exact Or.inl (hol_inj w)
    · exact Or.inr (hol_inj (by rw [w, z2]))
  have hlb : ∀ x, x < 4 * n + 4 → 1 ≤ sm_l2 sg lb k x ∧ sm_l2 sg lb k x ≤ 9999 := fun x hx => by
    have b0 : ∀ x, x < 4 * n + 4 → 1 ≤ lb x ∧ lb x ≤ 9999 := fun x hx => m2 x (by omega)
    have hu := na_uo_lt sg k
    have hu' := na_ui_lt sg k
    have b1 : ∀ x, x < 4 * n + 4 → 1 ≤ sm_l1 sg lb k x ∧ sm_l1 sg lb k x ≤ 9999 := fun x hx => by
      unfold sm_l1
      rcases mrg_in lb (lb (4 * k)) (lb (4 * k + na_uo sg k)) x with e | e | e <;> rw [e] <;> exact b0 _ (by omega)
    unfold sm_l2
    rcases mrg_in (sm_l1 sg lb k) (sm_l1 sg lb k (4 * k + na_ui sg k)) (sm_l1 sg lb k (4 * k + 2)) x with e | e | e <;> rw [e] <;> exact b1 _ (by omega)
  refine ⟨⟨by omega, fun i hi => ?_, fun x hx => ?_, hD'⟩, (ES_iff hD').mp ?_⟩
  · rw [e1 i hi]; split
    · exact m1 i (by omega)
    · exact m1 (i + 1) (by omega)
  · rw [e2 x hx]; exact hlb _ (hol_lt hx)
  · have hE0 := (ES_iff hD).mpr hs
    rw [hN] at hE0
    obtain ⟨β2, bP, b1, b2, E2⟩ := hE hE0
    refine ES_hol (m := 4 * k) (by omega) E2 bP (iv_P (jn_iv J (fun x _ r => fx x r.1 r.2))) (be_P n) (mt_P hD') b1 fx (fun x hx => ?_) (fun x hx => ?_)
    · rw [b2 _ (nR x)]
      unfold hol na_beside
      split <;> split <;> omega
    · obtain ⟨y1, y2, y3, y4, y5, y6, y7⟩ := J _ (hol_lt hx) (nR x)
      obtain ⟨y, z1, z2⟩ := back _ y1 y2
      rw [← z2]
      obtain ⟨w1, w2, w3, w4, w5⟩ := dg_mt hD' hx
      have : lb' y = lb' x := by rw [e2 y z1, e2 x hx, z2]; exact y5
      rcases w5 y z1 this with q | q
      · exact absurd (by rw [← z2, q]) y3
      · rw [q]
end SMO
