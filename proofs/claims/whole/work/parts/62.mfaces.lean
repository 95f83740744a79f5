section MF
variable {n : Nat} {sg lb : Nat → Int} {t : gt_T}
/-- a dart by its label -/
def D_of (f : Nat → Int) (j : Nat) : Int := 2 * f (j / 2) + ((j % 2 : Nat) : Int)
theorem mIsOut (M : mr n sg lb) (S : mst t n sg lb) {a : Nat} (ha : a < 4 * n) : (na_out sg a ∧ fX6_isOut t (a : Int) = some 1) ∨ (¬ na_out sg a ∧ fX6_isOut t (a : Int) = some 0) := by
  have := sX6_isOut (M.ok S) ha
  rw [S.2.1] at this
  exact this
theorem f_pos {f : Nat → Int} {c i : Nat} (M : mr n sg lb) (hS : ed_S f c lb (4 * n)) (hi : i < c) : 1 ≤ f i ∧ f i ≤ 9999 := by
  obtain ⟨a, a1, a2⟩ := hS.2.2.1 i hi
  rw [← a2]; exact M.2.2.1 a a1
theorem D_da {f : Nat → Int} {c a : Nat} (hS : ed_S f c lb (4 * n)) (ha : a < 4 * n) : D_of f (da_of f c sg lb a) = 2 * lb a + @ite Int (na_out sg a) (Classical.propDecidable _) 0 1 := by
  have h2 := (er_lb hS ha).2
  unfold D_of da_of
  by_cases z : na_out sg a
  · rw [if_pos z, if_pos z, show (2 * er f (lb a) c + 0) / 2 = er f (lb a) c by omega, h2]
    omega
  · rw [if_neg z, if_neg z, show (2 * er f (lb a) c + 1) / 2 = er f (lb a) c by omega, h2]
    omega
theorem mTurn {f : Nat → Int} {c j : Nat} (M : mr n sg lb) (S : mst t n sg lb) (hS : ed_S f c lb (4 * n)) (hj : j < 2 * c) : fX6_turn t (D_of f j) = some (D_of f (pi_d f c sg lb (4 * n) j)) := by
  have hn := M.1
  have hp := f_pos M hS (show j / 2 < c by omega)
  obtain ⟨r1, r2, r3⟩ := da_ar_lt M.2.2.2 hS hj
  have q1 := na_beside_lt r1
  have q2 := M.2.2.1 _ q1
  have body : ∀ o : Int, fX6_placeOf t (f (j / 2)) o = some (da_ar f sg lb (4 * n) j : Int) → wp_Q (fun v => v = D_of f (pi_d f c sg lb (4 * n) j)) (fX6_turn_16 t (f (j / 2)) o) := by
    intro o ho
    unfold fX6_turn_16 fX6_turn_53
    refine wp_eq ho ?_
    have e1 : Int.tdiv ((da_ar f sg lb (4 * n) j : Nat) : Int) (4 : Int) = ((da_ar f sg lb (4 * n) j / 4 : Nat) : Int) := na_td _ 4
    have e2 : ((da_ar f sg lb (4 * n) j / 4 : Nat) : Int) * 4 + (((da_ar f sg lb (4 * n) j : Nat) : Int) + 3) % 4 = ((na_beside (da_ar f sg lb (4 * n) j) : Nat) : Int) := by
      unfold na_beside; omega
    rw [e1, e2, Int.toNat_natCast, S.2.2]
    refine wp_ifp (by omega) ?_
    unfold pi_d
    rw [D_da hS q1]
    rcases mIsOut M S q1 with ⟨z1, z2⟩ | ⟨z1, z2⟩
    · refine wp_eq z2 (wp_ifn (by decide) (wp_ifp (by omega) (wp_some ?_)))
      rw [if_pos z1]
    · refine wp_eq z2 (wp_ifp rfl (wp_ifp (by omega) (wp_some ?_)))
      rw [if_neg z1]
  refine wp_get ?_
  have e0 : D_of f j = 2 * f (j / 2) + ((j % 2 : Nat) : Int) := rfl
  have et : Int.tdiv (D_of f j) (2 : Int) = f (j / 2) := by
    rw [e0, Int.tdiv_eq_ediv_of_nonneg (by omega)]; omega
  unfold fX6_turn
  rw [et]
  refine wp_ifp (by omega) ?_
  by_cases z : j % 2 = 0
  · refine wp_ifn (by omega) (body 0 ?_)
    rw [fP0 M S hS (by omega)]
    unfold da_ar
    rw [if_pos z]
  · refine wp_ifp (by omega) (body 1 ?_)
    rw [fP1 M S hS (by omega)]
    unfold da_ar
    rw [if_neg z]
/-- faces found -/
def md_fc (T : gt_T) (n c : Nat) (sg lb : Nat → Int) : Prop := T.1 13 = (c : Int) ∧ ed_S (T.2 14) c lb (4 * n) ∧ T.1 20 = (pm_z (2 * c) (pi_d (T.2 14) c sg lb (4 * n)) : Int) ∧ ∀ i j, i < 2 * c → pm_R (pi_d (T.2 14) c sg lb (4 * n)) i j → pm_L (pm_R (pi_d (T.2 14) c sg lb (4 * n))) j → T.2 22 i = (pm_c (pm_L (pm_R (pi_d (T.2 14) c sg lb (4 * n)))) j : Int)
theorem sX6_findFaces (M : mr n sg lb) (S : mst t n sg lb) : wp_Q (fun T' => md_F [13, 20] [14, 22] t T' ∧ ∃ c, md_fc T' n c sg lb) (fX6_findFaces t) := by
  have hn := M.1
  unfold fX6_findFaces
  refine wp_bind (sX6_sort (M.ok S)) (fun t0 ⟨hF0, c, g13, hS⟩ => ?_)
  rw [S.2.2] at hS
  have hc := ed_c M hS
  have hπ := pi_d_P M.2.2.2 hS
  have E := pm_RE hπ
  have hturn : ∀ (t : gt_T), mst t n sg lb → ∀ j, j < 2 * c → fX6_turn t (D_of (t0.2 14) j) = some (D_of (t0.2 14) (pi_d (t0.2 14) c sg lb (4 * n) j)) := fun t S j hj => mTurn M S hS hj
  generalize hπe : pi_d (t0.2 14) c sg lb (4 * n) = π at hπ E hturn
  refine wp_loop (fun x => ∃ m : Nat, m ≤ 80 ∧ x.2 = (m : Int) ∧ md_F [20] [22] t0 x.1 ∧ ∀ a, a < m → x.1.2 22 a = -1) (fun x => 200 - x.2.toNat) ?_ ⟨0, Nat.zero_le _, rfl, md_F.rf, fun a q => absurd q (Nat.not_lt_zero a)⟩ (by rw [gt_fuel_eq]; omega)
  intro k0 ⟨t1, x0⟩ ⟨m, hm, e1, hF1, g0⟩ ih0
  simp only at e1 hF1 g0
  subst e1
  unfold fX6_findFaces_6
  simp only
  refine wp_if (fun c1 => ?_) (fun c1 => ?_)
  · refine wp_loop (fun x => ∃ i : Nat, i ≤ 2 * c ∧ x.2 = (i : Int) ∧ md_F [20] [22] t0 x.1 ∧ x.1.1 20 = (pm_c (pm_L (pm_R π)) i : Int) ∧ ∀ a j, a < 2 * c → pm_R π a j → pm_L (pm_R π) j → x.1.2 22 a = if j < i then (pm_c (pm_L (pm_R π)) j : Int) else -1) (fun x => 200 - x.2.toNat) ?_ ⟨0, Nat.zero_le _, rfl, hF1.i (by decide) 0, by simp [va_up, pm_c], fun a j ha _ _ => by rw [if_neg (Nat.not_lt_zero j)]; exact g0 a (by omega)⟩ (by rw [gt_fuel_eq]; omega)
    intro k ⟨t2, x2⟩ ⟨i, hi, f1, hF2, g20, g22⟩ ih
    simp only at f1 hF2 g20 g22
    subst f1
    have S2 : mst t2 n sg lb := (S.F hF0 (by decide) (by decide) (by decide)).F hF2 (by decide) (by decide) (by decide)
    have e13 : t2.1 13 = (c : Int) := by rw [hF2.1 13 (by decide)]; exact g13
    have e14 : t2.2 14 = t0.2 14 := hF2.2 14 (by decide)
    unfold fX6_findFaces_32
    simp only
    rw [e13]
    refine wp_ifp (by omega) ?_
    refine wp_if (fun c2 => wp_some ?_) (fun c2 => ?_)
    · have : i = 2 * c := by omega
      subst this
      refine ⟨(hF0.up (by decide) (by decide)).tr (hF2.up (by decide) (by decide)), c, e13, by rw [e14]; exact hS, by rw [e14, hπe]; exact g20, fun a j ha hr hl => ?_⟩
      rw [e14, hπe] at hr hl ⊢
      rw [g22 a j ha hr hl, if_pos (hr.lt hπ ha)]
    · have hic : i < 2 * c := by omega
      have hp := f_pos M hS (show i / 2 < c by omega)
      rw [show Int.tdiv (i : Int) (2 : Int) = ((i / 2 : Nat) : Int) from na_td i 2, Int.toNat_natCast, Int.toNat_natCast, e14]
      refine wp_ifp (by omega) ?_
      obtain ⟨j0, hj0, hr0, hl0⟩ := pm_least E hic
      have ev := g22 i j0 hic hr0 hl0
      have hcl := pm_c_le (pm_L (pm_R π)) i
      have eD : (2 : Int) * t0.2 14 (i / 2) + (i : Int) % 2 = D_of (t0.2 14) i := by unfold D_of; omega
      rw [eD]
      refine wp_if (fun c3 => ?_) (fun c3 => ?_)
      · have hlt : j0 < i := by
          rcases Nat.lt_or_ge j0 i with q | q
          · exact q
          · rw [if_neg (by omega)] at ev; omega
        have hnL : ¬ pm_L (pm_R π) i := fun hL => hL j0 hlt hr0
        unfold fX6_findFaces_71
        refine wp_loop (fun x => x = (t2, (i : Int), D_of (t0.2 14) i, (0 : Int))) (fun _ => 0) ?_ rfl (by rw [gt_fuel_eq]; omega)
        intro k2 x hx _
        subst hx
        unfold fX6_findFaces_72 fX6_findFaces_128 fX6_findFaces_142
        simp only
        refine wp_ifp trivial ?_
        refine wp_ifp trivial ?_
        rw [g20]
        refine wp_ifp (by omega) ?_
        refine ih _ ⟨i + 1, by omega, by simp only; omega, hF2.i (by decide) _, ?_, fun a j ha hr hl => ?_⟩ (by simp only; omega)
        · simp only [va_up, ↓reduceIte]; rw [pm_c_n hnL]; omega
        · have hne : j ≠ i := fun e => hnL (e ▸ hl)
          rw [g22 a j ha hr hl]
          by_cases q : j < i
          · rw [if_pos q, if_pos (by omega)]
          · rw [if_neg q, if_neg (by omega)]
      · have hji : j0 = i := by
          rcases Nat.lt_or_ge j0 i with q | q
          · rw [if_pos q] at ev; omega
          · omega
        subst hji
        obtain ⟨p, hp1, hpN, hpm, hmin⟩ := pm_per hπ hic
        unfold fX6_findFaces_71
        refine wp_loop (fun x => ∃ s : Nat, s ≤ p ∧ x.2.1 = (j0 : Int) ∧ x.2.2.1 = D_of (t0.2 14) (pm_it π s j0) ∧ x.2.2.2 = 1 ∧ md_F [20] [22] t0 x.1 ∧ x.1.1 20 = (pm_c (pm_L (pm_R π)) j0 : Int) ∧ (∀ a, a < 2 * c → (∃ s', s' < s ∧ pm_it π s' j0 = a) → x.1.2 22 a = (pm_c (pm_L (pm_R π)) j0 : Int)) ∧ ∀ a, a < 2 * c → ¬ (∃ s', s' < s ∧ pm_it π s' j0 = a) → x.1.2 22 a = t2.2 22 a) (fun x => 200 - pm_c (fun a => 0 ≤ x.1.2 22 a) 80) ?_ ⟨0, Nat.zero_le p, rfl, rfl, rfl, hF2, g20, fun a _ ⟨s', q, _⟩ => absurd q (Nat.not_lt_zero s'), fun a _ _ => rfl⟩ (by rw [gt_fuel_eq]; omega)
        intro k2 ⟨t3, x3, l3, is3⟩ ⟨s, hs, p1, p2, p3, hF3, q20, qy, qn⟩ ih2
        simp only at p1 p2 p3 hF3 q20 qy qn
        subst p1; subst p2; subst p3
        have hit := pm_it_lt hπ hic s
        have hpi := f_pos M hS (show pm_it π s j0 / 2 < c by omega)
        have S3 : mst t3 n sg lb := (S.F hF0 (by decide) (by decide) (by decide)).F hF3 (by decide) (by decide) (by decide)
        have e14' : t3.2 14 = t0.2 14 := hF3.2 14 (by decide)
        have eD0 : D_of (t0.2 14) (pm_it π s j0) = 2 * t0.2 14 (pm_it π s j0 / 2) + ((pm_it π s j0 % 2 : Nat) : Int) := rfl
        have et : Int.tdiv (D_of (t0.2 14) (pm_it π s j0)) (2 : Int) = t0.2 14 (pm_it π s j0 / 2) := by
          rw [eD0, Int.tdiv_eq_ediv_of_nonneg (by omega)]; omega
        have er0 : fX6_rowOf t3 (t0.2 14 (pm_it π s j0 / 2)) = some ((pm_it π s j0 / 2 : Nat) : Int) := by
          have := sX6_rowOf (T := t3) (by rw [e14']; exact hS) (by omega) (show pm_it π s j0 / 2 < c by omega)
          rw [e14'] at this
          exact this
        have ei : (2 : Int) * ((pm_it π s j0 / 2 : Nat) : Int) + (D_of (t0.2 14) (pm_it π s j0)) % 2 = ((pm_it π s j0 : Nat) : Int) := by rw [eD0]; omega
        unfold fX6_findFaces_72
        simp only
        refine wp_ifn (by decide) ?_
        rw [et]
        refine wp_eq er0 ?_
        rw [ei, Int.toNat_natCast]
        refine wp_ifp (by omega) ?_
        rcases Nat.lt_or_ge s p with hsp | hsp
        · have hnm : ¬ ∃ s', s' < s ∧ pm_it π s' j0 = pm_it π s j0 := fun ⟨s', z1, z2⟩ => by
            have := pm_apart hπ hic hmin (by omega) hsp z2
            omega
          have hneg : t3.2 22 (pm_it π s j0) = -1 := by
            rw [qn _ hit hnm, g22 _ j0 hit (pm_R.sy hπ hic ⟨s, rfl⟩) hl0, if_neg (Nat.lt_irrefl _)]
          refine wp_ifn (by rw [hneg]; decide) ?_
          refine wp_eq er0 ?_
          rw [ei, Int.toNat_natCast]
          refine wp_ifp (by omega) ?_
          have S4 : mst (t3.1, va_up t3.2 22 (va_up (t3.2 22) (pm_it π s j0) (t3.1 20))) n sg lb := S3.F (md_F.rf.a (is := []) (js := [22]) (by decide) _) (by decide) (by decide) (by decide)
          refine wp_eq (hturn _ S4 _ hit) ?_
          have hcnt := pm_c_le (fun a => 0 ≤ t3.2 22 a) 80
          have grow : pm_c (fun a => 0 ≤ va_up t3.2 22 (va_up (t3.2 22) (pm_it π s j0) (t3.1 20)) 22 a) 80 = pm_c (fun a => 0 ≤ t3.2 22 a) 80 + 1 := by
            refine pm_c_one (a := pm_it π s j0) (by omega) (fun a _ hne => ?_) ?_ (by rw [hneg]; decide)
            · simp only [va_up, ↓reduceIte]
              rw [if_neg hne]
            · simp only [va_up, ↓reduceIte]
              omega
          refine ih2 _ ⟨s + 1, hsp, rfl, rfl, rfl, hF3.a (by decide) _, q20, fun a ha ⟨s', z1, z2⟩ => ?_, fun a ha hna => ?_⟩ (by simp only; omega)
          · simp only [va_up, ↓reduceIte]
            by_cases w : a = pm_it π s j0
            · rw [if_pos w, q20]
            · rw [if_neg w]
              refine qy a ha ⟨s', ?_, z2⟩
              rcases Nat.lt_or_ge s' s with y | y
              · exact y
              · exact absurd (by rw [← z2, show s' = s by omega]) w
          · simp only [va_up, ↓reduceIte]
            rw [if_neg (fun w => hna ⟨s, by omega, w.symm⟩)]
            exact qn a ha (fun ⟨s', z1, z2⟩ => hna ⟨s', by omega, z2⟩)
        · have hsp2 : s = p := by omega
          have hpos : 0 ≤ t3.2 22 (pm_it π s j0) := by
            rw [qy _ hit ⟨0, by omega, by rw [hsp2, hpm]; rfl⟩]
            omega
          refine wp_ifp hpos ?_
          unfold fX6_findFaces_128 fX6_findFaces_142
          refine wp_ifn (by decide) ?_
          rw [q20]
          refine wp_ifp (by omega) ?_
          refine ih _ ⟨j0 + 1, by omega, by simp only; omega, hF3.i (by decide) _, ?_, fun a j ha hr hl => ?_⟩ (by simp only; omega)
          · simp only [va_up, ↓reduceIte]; rw [pm_c_y hl0]; rfl
          · have horb : (∃ s', s' < s ∧ pm_it π s' j0 = a) ↔ j = j0 := by
              constructor
              · rintro ⟨s', _, z⟩
                exact pm_least_eq E ha (hr.lt hπ ha) hic hr (pm_R.sy hπ hic ⟨s', z⟩) hl hl0
              · rintro rfl
                obtain ⟨s', es⟩ := pm_R.sy hπ ha hr
                exact ⟨s' % p, by rw [hsp2]; exact Nat.mod_lt _ hp1, by rw [← pm_it_mod hpm]; exact es⟩
            by_cases q : j = j0
            · rw [qy a ha (horb.mpr q), if_pos (by omega), q]
            · rw [qn a ha (fun z => q (horb.mp z)), g22 a j ha hr hl]
              by_cases q2 : j < j0
              · rw [if_pos q2, if_pos (by omega)]
              · rw [if_neg q2, if_neg (by omega)]
  · refine wp_ifp (by omega) ?_
    rw [Int.toNat_natCast]
    refine ih0 _ ⟨m + 1, by omega, by simp only; omega, hF1.a (by decide) _, fun a ha => ?_⟩ (by simp only; omega)
    simp only [va_up, ↓reduceIte]
    by_cases q : a = m
    · rw [if_pos q]
    · rw [if_neg q]; exact g0 a (by omega)
/-- pieces: each crossing's least one -/
def md_pc (T : gt_T) (n : Nat) (lb : Nat → Int) : Prop := ∀ k j, k < n → j < n → pr_L n lb k j → pm_L (pr_L n lb) j → T.2 18 k = (j : Int)
def sm18 (f : Nat → Int) : Nat → Nat
  | 0 => 0
  | n + 1 => sm18 f n + (f n).toNat
theorem sm18_le {f g : Nat → Int} : ∀ {n : Nat}, (∀ i, i < n → (f i).toNat ≤ (g i).toNat) → sm18 f n ≤ sm18 g n := by
  intro n
  induction n with
  | zero => intro _; exact Nat.le_refl 0
  | succ n ih =>
    intro h
    have h1 := ih (fun i hi => h i (by omega))
    have h2 := h n (by omega)
    show sm18 f n + (f n).toNat ≤ sm18 g n + (g n).toNat
    omega
theorem sm18_lt {f g : Nat → Int} {k : Nat} : ∀ {n : Nat}, k < n → (∀ i, i < n → (f i).toNat ≤ (g i).toNat) → (f k).toNat < (g k).toNat → sm18 f n < sm18 g n := by
  intro n
  induction n with
  | zero => intro h; omega
  | succ n ih =>
    intro hk h hlt
    show sm18 f n + (f n).toNat < sm18 g n + (g n).toNat
    by_cases q : k = n
    · subst q
      have := sm18_le (f := f) (g := g) (n := k) (fun i hi => h i (by omega))
      omega
    · have h1 := ih (by omega) (fun i hi => h i (by omega)) hlt
      have h2 := h n (by omega)
      omega
theorem sm18_b {f : Nat → Int} : ∀ {n : Nat}, (∀ i, i < n → (f i).toNat ≤ 20) → sm18 f n ≤ 20 * n := by
  intro n
  induction n with
  | zero => intro _; exact Nat.le_refl 0
  | succ n ih =>
    intro h
    have h1 := ih (fun i hi => h i (by omega))
    have h2 := h n (by omega)
    show sm18 f n + (f n).toNat ≤ _
    omega
/-- what the pieces' numbers are on the way: a crossing's is one that hangs with it, not above it -/
def hg_I (T : gt_T) (n : Nat) (lb : Nat → Int) : Prop := ∀ k, k < n → ∃ j : Nat, T.2 18 k = (j : Int) ∧ j ≤ k ∧ pr_L n lb k j
theorem sX6_hang {t : gt_T} (hn : n ≤ 20) (h5 : t.1 5 = (n : Int)) (h10 : t.2 10 = lb) : wp_Q (fun T' => md_F [] [18] t T' ∧ md_pc T' n lb) (fX6_hang t) := by
  have E := pr_E n n lb
  unfold fX6_hang
  refine wp_loop (fun x => ∃ m : Nat, m ≤ n ∧ x.2 = (m : Int) ∧ md_F [] [18] t x.1 ∧ ∀ k, k < m → x.1.2 18 k = (k : Int)) (fun x => 200 - x.2.toNat) ?_ ⟨0, Nat.zero_le _, rfl, md_F.rf, fun a q => absurd q (Nat.not_lt_zero a)⟩ (by rw [gt_fuel_eq]; omega)
  intro k0 ⟨t0, x0⟩ ⟨m, hm, e1, hF0, g0⟩ ih0
  simp only at e1 hF0 g0
  subst e1
  unfold fX6_hang_2
  simp only
  rw [hF0.1 5 (by decide), h5]
  refine wp_if (fun c1 => ?_) (fun c1 => ?_)
  · -- passes over all pairs of places, until nothing changes
    refine wp_loop (fun x => md_F [] [18] t x.1 ∧ hg_I x.1 n lb ∧ (x.2 = 1 ∨ (x.2 = 0 ∧ ∀ a b, a < 4 * n → b < 4 * n → lb a = lb b → x.1.2 18 (b / 4) ≤ x.1.2 18 (a / 4)))) (fun x => 2 * sm18 (x.1.2 18) n + x.2.toNat) ?_ ⟨hF0, fun k hk => ⟨k, g0 k (by omega), Nat.le_refl k, E.1 k hk⟩, Or.inl rfl⟩ (by
      have := sm18_b (f := t0.2 18) (n := n) (fun i hi => by rw [g0 i (by omega)]; omega)
      rw [gt_fuel_eq]
      simp only
      omega)
    intro k ⟨t1, more⟩ ⟨hF1, hI, hmore⟩ ih
    simp only at hF1 hI hmore
    unfold fX6_hang_25
    simp only
    refine wp_if (fun c2 => wp_some ?_) (fun c2 => ?_)
    · -- nothing changed: the numbers are the least ones
      have hst : ∀ a b, a < 4 * n → b < 4 * n → lb a = lb b → t1.2 18 (b / 4) ≤ t1.2 18 (a / 4) := by
        rcases hmore with q | ⟨_, q⟩
        · omega
        · exact q
      refine ⟨hF1, fun x j hx hj hr hl => ?_⟩
      have hconst : ∀ y, pr_L n lb x y → t1.2 18 x = t1.2 18 y := by
        intro y hy
        exact (hy (fun z => t1.2 18 x = t1.2 18 z) (fun a b ha hb e => by
          have q1 := hst a b ha hb e
          have q2 := hst b a hb ha e.symm
          have : t1.2 18 (a / 4) = t1.2 18 (b / 4) := by omega
          rw [this])).mp rfl
      obtain ⟨v, v1, v2, v3⟩ := hI j hj
      have : v = j := by
        rcases Nat.lt_or_ge v j with q | q
        · exact absurd v3 (hl v q)
        · omega
      rw [hconst j hr, v1, this]
    · -- one pass
      have hm1 : more = 1 := by rcases hmore with q | ⟨q, _⟩ <;> omega
      subst hm1
      refine wp_loop (fun x => ∃ a : Nat, a ≤ 4 * n ∧ x.2.2 = (a : Int) ∧ md_F [] [18] t x.1 ∧ hg_I x.1 n lb ∧ ((x.2.1 = 1 ∧ sm18 (x.1.2 18) n < sm18 (t1.2 18) n) ∨ (x.2.1 = 0 ∧ sm18 (x.1.2 18) n ≤ sm18 (t1.2 18) n ∧ ∀ a' b, a' < a → b < 4 * n → lb a' = lb b → x.1.2 18 (b / 4) ≤ x.1.2 18 (a' / 4)))) (fun x => 200 - x.2.2.toNat) ?_ ⟨0, Nat.zero_le _, rfl, hF1, hI, Or.inr ⟨rfl, Nat.le_refl _, fun a' b q => absurd q (Nat.not_lt_zero a')⟩⟩ (by rw [gt_fuel_eq]; omega)
      intro k2 ⟨t2, more2, x2⟩ ⟨a, ha, f1, hF2, hI2, hd2⟩ ih2
      simp only at f1 hF2 hI2 hd2
      subst f1
      unfold fX6_hang_33
      simp only
      rw [hF2.1 5 (by decide), h5]
      refine wp_ifp (by omega) ?_
      refine wp_if (fun c3 => ?_) (fun c3 => ?_)
      · have : a = 4 * n := by omega
        subst this
        refine ih _ ⟨hF2, hI2, ?_⟩ ?_
        · rcases hd2 with ⟨q, _⟩ | ⟨q, _, z⟩
          · exact Or.inl q
          · exact Or.inr ⟨q, z⟩
        · simp only
          rcases hd2 with ⟨q, z⟩ | ⟨q, z, _⟩
          · rw [q]; omega
          · rw [q]; omega
      · have han : a < 4 * n := by omega
        refine wp_loop (fun x => ∃ b : Nat, b ≤ 4 * n ∧ x.2.2.1 = (a : Int) ∧ x.2.2.2 = (b : Int) ∧ md_F [] [18] t x.1 ∧ hg_I x.1 n lb ∧ ((x.2.1 = 1 ∧ sm18 (x.1.2 18) n < sm18 (t1.2 18) n) ∨ (x.2.1 = 0 ∧ sm18 (x.1.2 18) n ≤ sm18 (t1.2 18) n ∧ (∀ a' b', a' < a → b' < 4 * n → lb a' = lb b' → x.1.2 18 (b' / 4) ≤ x.1.2 18 (a' / 4)) ∧ ∀ b', b' < b → lb a = lb b' → x.1.2 18 (b' / 4) ≤ x.1.2 18 (a / 4)))) (fun x => 200 - x.2.2.2.toNat) ?_ ⟨0, Nat.zero_le _, rfl, rfl, hF2, hI2, by
          rcases hd2 with q | ⟨q, z, w⟩
          · exact Or.inl q
          · exact Or.inr ⟨q, z, w, fun b' q => absurd q (Nat.not_lt_zero b')⟩⟩ (by rw [gt_fuel_eq]; omega)
        intro k3 ⟨t3, more3, y3, z3⟩ ⟨b, hb, p1, p2, hF3, hI3, hd3⟩ ih3
        simp only at p1 p2 hF3 hI3 hd3
        subst p1; subst p2
        have u10 : t3.2 10 = lb := by rw [hF3.2 10 (by decide)]; exact h10
        unfold fX6_hang_45 fX6_hang_107
        simp only
        rw [hF3.1 5 (by decide), h5]
        refine wp_ifp (by omega) ?_
        refine wp_if (fun c4 => ?_) (fun c4 => ?_)
        · have : b = 4 * n := by omega
          subst this
          refine wp_ifp (by omega) ?_
          refine ih2 _ ⟨a + 1, by omega, by simp only; omega, hF3, hI3, ?_⟩ (by simp only; omega)
          rcases hd3 with q | ⟨q, z, w1, w2⟩
          · exact Or.inl q
          · refine Or.inr ⟨q, z, fun a' b' ha' hb' e => ?_⟩
            by_cases y : a' = a
            · rw [y] at e ⊢; exact w2 b' hb' e
            · exact w1 a' b' (by omega) hb' e
        · have hbn : b < 4 * n := by omega
          refine wp_ifp (by omega) ?_
          rw [Int.toNat_natCast, Int.toNat_natCast, u10, show Int.tdiv (a : Int) (4 : Int) = ((a / 4 : Nat) : Int) from na_td a 4, show Int.tdiv (b : Int) (4 : Int) = ((b / 4 : Nat) : Int) from na_td b 4, Int.toNat_natCast, Int.toNat_natCast]
          obtain ⟨va, va1, va2, va3⟩ := hI3 (a / 4) (by omega)
          obtain ⟨vb, vb1, vb2, vb3⟩ := hI3 (b / 4) (by omega)
          refine wp_if (fun c5 => ?_) (fun c5 => ?_)
          · refine wp_ifp (by omega) ?_
            refine wp_if (fun c6 => ?_) (fun c6 => ?_)
            · refine wp_ifp (by omega) ?_
              refine ih3 _ ⟨b + 1, by omega, rfl, by simp only; omega, hF3, hI3, ?_⟩ (by simp only; omega)
              rcases hd3 with q | ⟨q, z, w1, w2⟩
              · exact Or.inl q
              · refine Or.inr ⟨q, z, w1, fun b' hb' e => ?_⟩
                by_cases y : b' = b
                · rw [y]; exact c6
                · exact w2 b' (by omega) e
            · refine wp_ifp (by omega) ?_
              refine wp_ifp (by omega) ?_
              have hrab : pr_L n lb (b / 4) (a / 4) := fun P hP => hP b a hbn han c5.symm
              have e18 : ∀ i, va_up t3.2 18 (va_up (t3.2 18) (b / 4) (t3.2 18 (a / 4))) 18 i = if i = b / 4 then t3.2 18 (a / 4) else t3.2 18 i := fun i => by simp only [va_up, ↓reduceIte]
              have hlt : sm18 (va_up t3.2 18 (va_up (t3.2 18) (b / 4) (t3.2 18 (a / 4))) 18) n < sm18 (t3.2 18) n := by
                refine sm18_lt (k := b / 4) (by omega) (fun i hi => ?_) ?_
                · rw [e18 i]
                  by_cases y : i = b / 4
                  · rw [if_pos y, y]; omega
                  · rw [if_neg y]; exact Nat.le_refl _
                · rw [e18, if_pos rfl]; omega
              refine ih3 _ ⟨b + 1, by omega, rfl, by simp only; omega, hF3.a (by decide) _, fun k hk => ?_, Or.inl ⟨rfl, ?_⟩⟩ (by simp only; omega)
              · simp only
                rw [e18 k]
                by_cases y : k = b / 4
                · rw [if_pos y]
                  exact ⟨va, va1, by omega, by rw [y]; exact E.2.2 _ _ _ (by omega) (by omega) (by omega) hrab va3⟩
                · rw [if_neg y]; exact hI3 k hk
              · simp only
                rcases hd3 with ⟨q, z⟩ | ⟨q, z, _⟩
                · omega
                · omega
          · refine wp_ifp (by omega) ?_
            refine ih3 _ ⟨b + 1, by omega, rfl, by simp only; omega, hF3, hI3, ?_⟩ (by simp only; omega)
            rcases hd3 with q | ⟨q, z, w1, w2⟩
            · exact Or.inl q
            · refine Or.inr ⟨q, z, w1, fun b' hb' e => ?_⟩
              by_cases y : b' = b
              · rw [y] at e; exact absurd e c5
              · exact w2 b' (by omega) e
  · refine wp_ifp (by omega) ?_
    rw [Int.toNat_natCast]
    refine ih0 _ ⟨m + 1, by omega, by simp only; omega, hF0.a (by decide) _, fun a ha => ?_⟩ (by simp only; omega)
    simp only [va_up, ↓reduceIte]
    by_cases q : a = m
    · rw [if_pos q, q]
    · rw [if_neg q]; exact g0 a (by omega)
end MF
