/-! Places turned within crossings, labels named anew: the same spheres. -/
def ro (b : Nat → Nat) (x : Nat) : Nat := 4 * (x / 4) + (x + b (x / 4)) % 4
theorem ro_4 (b : Nat → Nat) (x : Nat) : ro b x / 4 = x / 4 := by unfold ro; omega
theorem ro_be (b : Nat → Nat) (x : Nat) : ro b (na_beside x) = na_beside (ro b x) := by
  unfold ro
  rw [na_beside_4]
  unfold na_beside
  omega
theorem ro_P (b : Nat → Nat) (n : Nat) : pm_P (4 * n) (ro b) := by
  refine ⟨fun i hi => by have := ro_4 b i; omega, fun i j hi hj e => ?_⟩
  have h1 := ro_4 b i
  have h2 := ro_4 b j
  rw [e] at h1
  have h3 : i / 4 = j / 4 := by omega
  unfold ro at e
  rw [h3] at e
  omega
theorem turn_ok {n : Nat} {sg lb sg' lb' : Nat → Int} {b : Nat → Nat} {T : Int → Prop} (M : mr n sg lb) (hs : SPh n lb) (h1 : ∀ k, k < n → sg' k = 1 ∨ sg' k = -1) (h2 : ∀ x, x < 4 * n → 1 ≤ lb' x ∧ lb' x ≤ 9999) (h3 : ∀ x y, x < 4 * n → y < 4 * n → (lb' x = lb' y ↔ lb (ro b x) = lb (ro b y))) (h4 : ∀ x, x < 4 * n → (na_out sg' x ↔ (na_out sg (ro b x) ↔ ¬ T (lb (ro b x))))) : mr n sg' lb' ∧ SPh n lb' := by
  obtain ⟨hn, m1, m2, hD⟩ := M
  have rP := ro_P b n
  have key : ∀ x, x < 4 * n → ∃ y, y < 4 * n ∧ ro b y = mt lb (4 * n) (ro b x) ∧ y ≠ x ∧ lb' y = lb' x ∧ (na_out sg' y ↔ ¬ na_out sg' x) ∧ ∀ d, d < 4 * n → lb' d = lb' x → d = x ∨ d = y := by
    intro x hx
    obtain ⟨w1, w2, w3, w4, w5⟩ := dg_mt hD (rP.1 x hx)
    obtain ⟨y, y1, y2⟩ := pm_inv rP w1
    refine ⟨y, y1, y2, fun z => w2 (by rw [← y2, z]), by rw [h3 y x y1 hx, y2]; exact w3, ?_, fun d hd e => ?_⟩
    · rw [h4 y y1, h4 x hx, y2, w3, w4]
      by_cases p : na_out sg (ro b x) <;> by_cases q : T (lb (ro b x)) <;> simp [p, q]
    · rcases w5 _ (rP.1 d hd) ((h3 d x hd hx).mp e) with z | z
      · exact Or.inl (rP.2 _ _ hd hx z)
      · exact Or.inr (rP.2 _ _ hd y1 (by rw [z, y2]))
  have hD' : dg_D n sg' lb' := fun x hx => by
    obtain ⟨y, y1, y2, y3, y4, y5, y6⟩ := key x hx
    exact ⟨y, y1, y3, y4, y5, y6⟩
  have hmt : ∀ x, x < 4 * n → ro b (mt lb' (4 * n) x) = mt lb (4 * n) (ro b x) := fun x hx => by
    obtain ⟨y, y1, y2, y3, y4, y5, y6⟩ := key x hx
    obtain ⟨w1, w2, w3, w4, w5⟩ := dg_mt hD' hx
    rcases w5 y y1 y4 with z | z
    · exact absurd z y3
    · rw [← z]; exact y2
  have hfa : ∀ x, x < 4 * n → ro b (fa n lb' x) = fa n lb (ro b x) := fun x hx => by
    unfold fa; rw [ro_be, hmt x hx]
  have hpr : ∀ i j, pr_L n lb' i j ↔ pr_L n lb i j := fun i j => by
    constructor
    · intro h P hP
      refine h P (fun x y hx hy e => ?_)
      have := hP (ro b x) (ro b y) (rP.1 x hx) (rP.1 y hy) ((h3 x y hx hy).mp e)
      rw [ro_4, ro_4] at this; exact this
    · intro h P hP
      refine h P (fun x y hx hy e => ?_)
      obtain ⟨x', x1, x2⟩ := pm_inv rP hx
      obtain ⟨y', y1, y2⟩ := pm_inv rP hy
      have := hP x' y' x1 y1 ((h3 x' y' x1 y1).mpr (by rw [x2, y2]; exact e))
      rw [← x2, ← y2, ro_4, ro_4]; exact this
  refine ⟨⟨hn, h1, h2, hD'⟩, fun k hk hl => ?_⟩
  have e1 : NC n lb' k = NC n lb k := pm_c_congr (fun x _ => hpr x k)
  have e2 : FS n lb' k = FS n lb k := by
    have its : ∀ q x, x < 4 * n → pm_it (fa n lb) q (ro b x) = ro b (pm_it (fa n lb') q x) := fun q x hx => by
      induction q with
      | zero => rfl
      | succ q ih =>
        show fa n lb (pm_it (fa n lb) q (ro b x)) = _
        rw [ih, ← hfa _ (pm_it_lt (fa_P hD') hx q)]; rfl
    refine nq_bij rP (pm_RE (fa_P hD')) (pm_RE (fa_P hD)) (fun i j hi hj => ⟨fun ⟨q, e⟩ => ⟨q, by rw [its q i hi, e]⟩, fun ⟨q, e⟩ => ⟨q, ?_⟩⟩) (fun i hi => by rw [ro_4]; exact hpr _ k) (fun i j hi hj hr q => (it_inv (Q := fun a => pr_L n lb (a / 4) k) (fa_P hD) (fun a ha => fa_pr hD ha k) hi hr).mp q)
    rw [its q i hi] at e
    exact rP.2 _ _ (pm_it_lt (fa_P hD') hi q) hj e
  rw [e1, e2]
  exact hs k hk ((pm_L_congr (N := n) (fun i j _ _ => hpr i j) hk).mp hl)
theorem ro_0 (x : Nat) : ro (fun _ => 0) x = x := by
  show 4 * (x / 4) + (x + 0) % 4 = x
  omega
/-- a survey of a diagram on spheres -/
theorem SP_dsm {n : Nat} {sg lb sg' lb' : Nat → Int} (e : dsm n sg lb sg' lb') (M : mr n sg lb) (h : SPh n lb) : SPh n lb' := by
  have M' := e.mr M
  refine (turn_ok (b := fun _ => 0) (T := fun _ => False) M h M'.2.1 M'.2.2.1 (fun x y hx hy => ?_) (fun x hx => ?_)).2
  · rw [ro_0, ro_0, e.2 x hx, e.2 y hy]
  · rw [ro_0, ← e.out hx]; simp
theorem ed_ex {n : Nat} {sg lb : Nat → Int} (M : mr n sg lb) : ∃ f c, ed_S f c lb (4 * n) ∧ c = 2 * n := by
  have hr : rm_ok ((fun _ => (n : Int), fun j => if j = 9 then sg else lb) : gt_T) n := ⟨rfl, M.1, M.2.1, M.2.2.1⟩
  obtain ⟨r, _, _, c, _, hS⟩ := sX6_sort hr
  exact ⟨_, c, hS, ed_c M hS⟩
theorem sv_sp {rw ed pc ar cm sf fc ow : gt_T} {n : Nat} (hr : rw_ok rw n) (M : mr n (rw.2 0) (rw.2 1)) (hs : SPh n (rw.2 1)) : wp_Q (fun q => q.1.1 = rw ∧ q.2 = 0 ∧ ∃ c, ch_ok q.1 n c) (fX0_survey (rw, ed, pc, ar, cm, sf, fc, ow)) := by
  refine wp_mono (sX0_survey hr) (fun q ⟨h1, h2, h3⟩ => ?_)
  obtain ⟨f, c, hS, hc⟩ := ed_ex M
  have h0 : sv_ans n (rw.2 0) (rw.2 1) 0 (-1) := Or.inr (Or.inr (Or.inr ⟨rfl, rfl, M.2.2.2, f, c, hS, hc, (SP_ok3 M.2.2.2 hS hc).mp hs⟩))
  obtain ⟨e, _⟩ := sv_uniq h2 h0
  exact ⟨h1, e, h3 e⟩
theorem ch_SP {T : gx_Ch} {n c : Nat} (h : ch_ok T n c) : SPh n (T.1.2 1) := (SP_ok3 h.1.2.1 h.1.2.2.2.1 h.1.2.2.2.2.1).mpr h.2.2.2.2.2.2
