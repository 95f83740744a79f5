section MFA
variable {n : Nat} {sg lb : Nat → Int} {t : gt_T}
theorem md_pc_iff {T : gt_T} {x k : Nat} (h : md_pc T n lb) (hx : x < n) (hk : k < n) : T.2 18 x = (k : Int) → pm_L (pr_L n lb) k → pr_L n lb x k := by
  intro e hl
  obtain ⟨j, j1, j2, j3⟩ := pm_least (pr_E n n lb) hx
  have := h x j hx (by omega) j2 j3
  have : j = k := by omega
  rw [← this]; exact j2
theorem pr_mate {a b : Nat} (ha : a < 4 * n) (hb : b < 4 * n) (e : lb a = lb b) (k : Nat) : pr_L n lb (a / 4) k ↔ pr_L n lb (b / 4) k := by
  constructor
  · intro h P hP; exact (hP a b ha hb e).symm.trans (h P hP)
  · intro h P hP; exact (hP a b ha hb e).trans (h P hP)
theorem sX6_facesAt {T : gt_T} {c k : Nat} (M : mr n sg lb) (S : mst T n sg lb) (hfc : md_fc T n c sg lb) (hpc : md_pc T n lb) (hk : k < n) (hl : pm_L (pr_L n lb) k) : fX6_facesAt T (k : Int) = some (FC (T.2 14) c n sg lb k : Int) := by
  have hn := M.1
  obtain ⟨g13, hS, g20, g22⟩ := hfc
  have hc := ed_c M hS
  have hπ := pi_d_P M.2.2.2 hS
  have E := pm_RE hπ
  unfold fX6_facesAt FC
  generalize hπe : pi_d (T.2 14) c sg lb (4 * n) = π at hπ E g20 g22 ⊢
  refine wp_get ?_
  refine wp_loop (fun x => ∃ j : Nat, j ≤ 2 * c ∧ x.1 = (k : Int) ∧ x.2.2.2 = (j : Int) ∧ x.2.2.1 = (pm_c (pm_L (pm_R π)) j : Int) - 1 ∧ x.2.1 = (pm_c (fun j => pm_L (pm_R π) j ∧ pr_L n lb (is sg lb (4 * n) (T.2 14 (j / 2)) / 4) k) j : Int)) (fun x => 200 - x.2.2.2.toNat) ?_ ⟨0, Nat.zero_le _, rfl, rfl, rfl, rfl⟩ (by rw [gt_fuel_eq]; omega)
  intro kk ⟨x1, x2, x3, x4⟩ ⟨j, hj, e1, e2, e3, e4⟩ ih
  simp only at e1 e2 e3 e4
  subst e1; subst e2; subst e3; subst e4
  have hcj := pm_c_le (fun j => pm_L (pm_R π) j ∧ pr_L n lb (is sg lb (4 * n) (T.2 14 (j / 2)) / 4) k) j
  unfold fX6_facesAt_7 fX6_facesAt_34 fX6_facesAt_71 fX6_facesAt_72 fX6_facesAt_90
  simp only
  rw [g13]
  refine wp_ifp (by omega) ?_
  refine wp_if (fun c1 => wp_some ?_) (fun c1 => ?_)
  · rw [show 2 * c = j by omega]
  · have hjc : j < 2 * c := by omega
    obtain ⟨j0, hj0, hr0, hl0⟩ := pm_least E hjc
    have ev := g22 j j0 hjc hr0 hl0
    refine wp_ifp (by omega) ?_
    rw [Int.toNat_natCast]
    refine wp_if (fun c2 => ?_) (fun c2 => ?_)
    · -- not the first of its face
      have hnL : ¬ pm_L (pm_R π) j := fun hL => by
        have : j0 = j := pm_least_eq E hjc (by omega) hjc hr0 pm_R.rf hl0 hL
        rw [this] at ev
        omega
      refine wp_ifp trivial ?_
      refine wp_ifp (by omega) ?_
      refine wp_ifp trivial ?_
      refine wp_ifp (by omega) ?_
      refine ih _ ⟨j + 1, by omega, rfl, by simp only; omega, by simp only; rw [pm_c_n hnL], by simp only; rw [pm_c_n (p := fun j => pm_L (pm_R π) j ∧ pr_L n lb (is sg lb (4 * n) (T.2 14 (j / 2)) / 4) k) (fun q => hnL q.1)]; omega⟩ (by simp only; omega)
    · -- a new face
      have hj0j : j0 = j := by
        rcases Nat.lt_or_ge j0 j with q | q
        · have := pm_c_lt q hl0; omega
        · omega
      subst hj0j
      have hi2 : j0 / 2 < c := by omega
      obtain ⟨o1, o2, o3⟩ := fos M hS hi2
      obtain ⟨i1, i2, i3⟩ := fis M hS hi2
      have hpm := pr_mate (n := n) (lb := lb) o1 i1 (by rw [o2, i2]) k
      refine wp_ifn (by decide) ?_
      rw [show Int.tdiv (j0 : Int) (2 : Int) = ((j0 / 2 : Nat) : Int) from na_td j0 2, Int.toNat_natCast]
      refine wp_ifp (by omega) ?_
      refine wp_eq (fP1 M S hS hi2) ?_
      rw [show Int.tdiv ((os sg lb (4 * n) (T.2 14 (j0 / 2)) : Nat) : Int) (4 : Int) = ((os sg lb (4 * n) (T.2 14 (j0 / 2)) / 4 : Nat) : Int) from na_td _ 4, Int.toNat_natCast]
      refine wp_ifp (by omega) ?_
      refine wp_if (fun c3 => ?_) (fun c3 => ?_)
      · have hr : pr_L n lb (is sg lb (4 * n) (T.2 14 (j0 / 2)) / 4) k := hpm.mp (md_pc_iff hpc (by omega) hk c3 hl)
        refine wp_ifp (by omega) ?_
        refine wp_ifn (by decide) ?_
        refine wp_ifp (by omega) ?_
        refine wp_ifp (by omega) ?_
        refine ih _ ⟨j0 + 1, by omega, rfl, by simp only; omega, by simp only; rw [ev, pm_c_y hl0]; omega, by simp only; rw [pm_c_y (p := fun j => pm_L (pm_R π) j ∧ pr_L n lb (is sg lb (4 * n) (T.2 14 (j / 2)) / 4) k) ⟨hl0, hr⟩]; omega⟩ (by simp only; omega)
      · have hr : ¬ pr_L n lb (is sg lb (4 * n) (T.2 14 (j0 / 2)) / 4) k := fun q => c3 (hpc _ k (by omega) hk (hpm.mpr q) hl)
        refine wp_ifp (by omega) ?_
        refine wp_ifn (by decide) ?_
        refine wp_ifp (by omega) ?_
        refine wp_ifp (by omega) ?_
        refine ih _ ⟨j0 + 1, by omega, rfl, by simp only; omega, by simp only; rw [ev, pm_c_y hl0]; omega, by simp only; rw [pm_c_n (p := fun j => pm_L (pm_R π) j ∧ pr_L n lb (is sg lb (4 * n) (T.2 14 (j / 2)) / 4) k) (fun q => hr q.2)]; omega⟩ (by simp only; omega)
theorem sX6_badPiece (M : mr n sg lb) (S : mst t n sg lb) : wp_Q (fun q => md_F [13, 20] [14, 18, 22] t q.1 ∧ ∃ f c, ed_S f c lb (4 * n) ∧ c = 2 * n ∧ ((q.2 = -1 ∧ ∀ k, k < n → ok3 f c n sg lb k) ∨ ∃ k : Nat, k < n ∧ q.2 = (k : Int) ∧ ¬ ok3 f c n sg lb k ∧ ∀ j, j < k → ok3 f c n sg lb j)) (fX6_badPiece t) := by
  have hn := M.1
  have E := pr_E n n lb
  unfold fX6_badPiece
  refine wp_bind (sX6_hang hn S.1 S.2.2) (fun t1 ⟨hF1, hpc1⟩ => ?_)
  have S1 : mst t1 n sg lb := S.F hF1 (by decide) (by decide) (by decide)
  refine wp_bind (sX6_findFaces M S1) (fun t2 ⟨hF2, c, hfc⟩ => ?_)
  have S2 : mst t2 n sg lb := S1.F hF2 (by decide) (by decide) (by decide)
  have hpc : md_pc t2 n lb := fun k j a b d e => by rw [hF2.2 18 (by decide)]; exact hpc1 k j a b d e
  have hFt : md_F [13, 20] [14, 18, 22] t t2 := (hF1.up (by decide) (by decide)).tr (hF2.up (by decide) (by decide))
  have hS := hfc.2.1
  have hc := ed_c M hS
  rw [S2.1]
  refine wp_ifp (by omega) ?_
  refine wp_loop (fun x => ∃ m : Nat, m ≤ n ∧ x.1 = t2 ∧ x.2.2 = (m : Int) - 1 ∧ ((x.2.1 = -1 ∧ ∀ k, m ≤ k → k < n → ok3 (t2.2 14) c n sg lb k) ∨ ∃ k : Nat, m ≤ k ∧ k < n ∧ x.2.1 = (k : Int) ∧ ¬ ok3 (t2.2 14) c n sg lb k ∧ ∀ j, m ≤ j → j < k → ok3 (t2.2 14) c n sg lb j)) (fun x => (x.2.2 + 1).toNat) ?_ ⟨n, Nat.le_refl n, rfl, rfl, Or.inl ⟨rfl, fun k a b => by omega⟩⟩ (by rw [gt_fuel_eq]; simp only; omega)
  intro kk ⟨u1, u2, u3⟩ ⟨m, hm, e1, e2, g⟩ ih
  simp only at e1 e2 g
  subst e1; subst e2
  unfold fX6_badPiece_17
  simp only
  refine wp_if (fun c1 => wp_some ?_) (fun c1 => ?_)
  · have : m = 0 := by omega
    subst this
    refine ⟨hFt, u1.2 14, c, hS, hc, ?_⟩
    rcases g with ⟨q1, q2⟩ | ⟨k, q1, q2, q3, q4, q5⟩
    · exact Or.inl ⟨q1, fun k hk => q2 k (Nat.zero_le k) hk⟩
    · exact Or.inr ⟨k, q2, q3, q4, fun j hj => q5 j (Nat.zero_le j) hj⟩
  · -- crossing m - 1
    obtain ⟨k, rfl⟩ : ∃ k, m = k + 1 := ⟨m - 1, by omega⟩
    have ek : ((k + 1 : Nat) : Int) - 1 = (k : Int) := by omega
    rw [ek]
    have hkn : k < n := by omega
    have good : ok3 (u1.2 14) c n sg lb k → ((u2 = -1 ∧ ∀ k', k ≤ k' → k' < n → ok3 (u1.2 14) c n sg lb k') ∨ ∃ k' : Nat, k ≤ k' ∧ k' < n ∧ u2 = (k' : Int) ∧ ¬ ok3 (u1.2 14) c n sg lb k' ∧ ∀ j, k ≤ j → j < k' → ok3 (u1.2 14) c n sg lb j) := by
      intro hok
      rcases g with ⟨q1, q2⟩ | ⟨k', q1, q2, q3, q4, q5⟩
      · refine Or.inl ⟨q1, fun k' a b => ?_⟩
        by_cases z : k' = k
        · rw [z]; exact hok
        · exact q2 k' (by omega) b
      · refine Or.inr ⟨k', by omega, q2, q3, q4, fun j a b => ?_⟩
        by_cases z : j = k
        · rw [z]; exact hok
        · exact q5 j (by omega) b
    refine wp_loop (fun x => ∃ y : Nat, y ≤ n ∧ x.1 = u1 ∧ x.2.1 = u2 ∧ x.2.2.1 = (k : Int) ∧ x.2.2.2.2 = (y : Int) ∧ x.2.2.2.1 = (pm_c (fun z => u1.2 18 z = (k : Int)) y : Int)) (fun x => 200 - x.2.2.2.2.toNat) ?_ ⟨0, Nat.zero_le _, rfl, rfl, rfl, rfl, rfl⟩ (by rw [gt_fuel_eq]; omega)
    intro k2 ⟨w1, w2, w3, w4, w5⟩ ⟨y, hy, f1, f2, f3, f4, f5⟩ ih2
    simp only at f1 f2 f3 f4 f5
    subst f1; subst f2; subst f3; subst f4; subst f5
    have hcy := pm_c_le (fun z => w1.2 18 z = (k : Int)) y
    unfold fX6_badPiece_26 fX6_badPiece_85 fX6_badPiece_86 fX6_badPiece_52
    simp only
    rw [S2.1]
    refine wp_if (fun c2 => ?_) (fun c2 => ?_)
    · have : y = n := by omega
      subst this
      refine wp_ifp (by omega) ?_
      rw [Int.toNat_natCast]
      obtain ⟨j0, hj0, hr0, hl0⟩ := pm_least E hkn
      have ev := hpc k j0 hkn (by omega) hr0 hl0
      refine wp_if (fun c3 => ?_) (fun c3 => ?_)
      · have hj0k : j0 = k := by omega
        subst hj0k
        have eN : pm_c (fun z => w1.2 18 z = (j0 : Int)) y = NC y lb j0 := pm_c_congr (fun z hz => ⟨fun q => md_pc_iff hpc hz hkn q hl0, fun q => hpc z j0 hz hkn q hl0⟩)
        rw [eN] at hcy ⊢
        refine wp_eq (sX6_facesAt M S2 hfc hpc hkn hl0) ?_
        refine wp_ifp (by omega) ?_
        refine wp_if (fun c4 => ?_) (fun c4 => ?_)
        · refine wp_ifp (by omega) ?_
          exact ih _ ⟨j0, by omega, rfl, by simp only; omega, good (fun _ => by omega)⟩ (by simp only; omega)
        · refine wp_ifp (by omega) ?_
          exact ih _ ⟨j0, by omega, rfl, by simp only; omega, Or.inr ⟨j0, Nat.le_refl _, hkn, rfl, fun q => c4 (by have := q hl0; omega), fun j a b => by omega⟩⟩ (by simp only; omega)
      · refine wp_ifp (by omega) ?_
        refine ih _ ⟨k, by omega, rfl, by simp only; omega, good (fun hl => ?_)⟩ (by simp only; omega)
        have : j0 = k := pm_least_eq E hkn (by omega) hkn hr0 (E.1 k hkn) hl0 hl
        exact absurd (by rw [ev, this]) c3
    · refine wp_ifp (by omega) ?_
      rw [Int.toNat_natCast]
      refine wp_if (fun c3 => ?_) (fun c3 => ?_)
      · refine wp_ifp (by omega) ?_
        exact ih2 _ ⟨y + 1, by omega, rfl, rfl, rfl, by simp only; omega, by simp only; rw [pm_c_y (p := fun z => w1.2 18 z = (k : Int)) c3]; omega⟩ (by simp only; omega)
      · refine wp_ifp (by omega) ?_
        exact ih2 _ ⟨y + 1, by omega, rfl, rfl, rfl, by simp only; omega, by simp only; rw [pm_c_n (p := fun z => w1.2 18 z = (k : Int)) c3]; omega⟩ (by simp only; omega)
theorem sX6_badLabel (h : rm_ok t n) {kd : Int} (hkd : kd = 0 ∨ kd = 1) : wp_Q (fun q => md_F [13] [14] t q.1 ∧ ((q.2 = -1 ∧ ∀ a, a < 4 * n → (kd = 0 → ok1 n (t.2 10) (t.2 10 a)) ∧ (kd = 1 → ok2 n (t.2 9) (t.2 10) (t.2 10 a))) ∨ (1 ≤ q.2 ∧ (kd = 0 → bad_l n (t.2 10) (ok1 n (t.2 10)) q.2) ∧ (kd = 1 → bad_l n (t.2 10) (ok2 n (t.2 9) (t.2 10)) q.2)))) (fX6_badLabel t kd) := by
  have hn := h.2.1
  unfold fX6_badLabel
  refine wp_bind (sX6_sort h) (fun t1 ⟨hF1, c, g13, hS⟩ => ?_)
  have h1 := h.F hF1 (by decide) (by decide) (by decide)
  have e5 : t1.1 5 = (n : Int) := h1.1
  have e9 : t1.2 9 = t.2 9 := hF1.2 9 (by decide)
  have e10 : t1.2 10 = t.2 10 := hF1.2 10 (by decide)
  have hcm := hS.1
  refine wp_loop (fun x => ∃ i : Nat, i ≤ c ∧ x.1 = t1 ∧ x.2.1 = kd ∧ x.2.2 = (i : Int) ∧ ∀ j, j < i → (kd = 0 → ok1 n (t.2 10) (t1.2 14 j)) ∧ (kd = 1 → ok2 n (t.2 9) (t.2 10) (t1.2 14 j))) (fun x => 200 - x.2.2.toNat) ?_ ⟨0, Nat.zero_le _, rfl, rfl, rfl, fun j q => absurd q (Nat.not_lt_zero j)⟩ (by rw [gt_fuel_eq]; omega)
  intro k ⟨u1, u2, u3⟩ ⟨i, hi, f1, f2, f3, g⟩ ih
  simp only at f1 f2 f3 g
  subst f1; subst f2; subst f3
  unfold fX6_badLabel_6
  simp only
  rw [g13]
  refine wp_if (fun c1 => wp_some ⟨hF1, Or.inl ⟨rfl, fun a ha => ?_⟩⟩) (fun c1 => ?_)
  · obtain ⟨j, j1, j2⟩ := hS.2.2.2 a ha
    rw [← j2]; exact g j (by omega)
  · have hic : i < c := by omega
    have hpos : 1 ≤ u1.2 14 i := by
      obtain ⟨a, a1, a2⟩ := hS.2.2.1 i hic
      rw [← a2]; exact (h.2.2.2 a a1).1
    refine wp_loop (fun x => ∃ a : Nat, a ≤ 4 * n ∧ x.1 = u1 ∧ x.2.1 = u2 ∧ x.2.2.1 = (i : Int) ∧ x.2.2.2.2 = (a : Int) ∧ x.2.2.2.1 = (lb_occ (t.2 10) a (u1.2 14 i) : Int)) (fun x => 200 - x.2.2.2.2.toNat) ?_ ⟨0, Nat.zero_le _, rfl, rfl, rfl, rfl, rfl⟩ (by rw [gt_fuel_eq]; omega)
    intro k2 ⟨w1, w2, w3, w4, w5⟩ ⟨a, ha, p1, p2, p3, p4, p5⟩ ih2
    simp only at p1 p2 p3 p4 p5
    subst p1; subst p2; subst p3; subst p4; subst p5
    have hoc := lb_occ_le (t.2 10) a (w1.2 14 i)
    -- how the label comes out
    have fin : ∀ s : Int, (s = 0 → (w2 = 0 → ¬ ok1 n (t.2 10) (w1.2 14 i)) ∧ (w2 = 1 → ¬ ok2 n (t.2 9) (t.2 10) (w1.2 14 i))) → (¬ s = 0 → (w2 = 0 → ok1 n (t.2 10) (w1.2 14 i)) ∧ (w2 = 1 → ok2 n (t.2 9) (t.2 10) (w1.2 14 i))) → wp_Q (fun q => md_F [13] [14] t q.1 ∧ ((q.2 = -1 ∧ ∀ a, a < 4 * n → (w2 = 0 → ok1 n (t.2 10) (t.2 10 a)) ∧ (w2 = 1 → ok2 n (t.2 9) (t.2 10) (t.2 10 a))) ∨ (1 ≤ q.2 ∧ (w2 = 0 → bad_l n (t.2 10) (ok1 n (t.2 10)) q.2) ∧ (w2 = 1 → bad_l n (t.2 10) (ok2 n (t.2 9) (t.2 10)) q.2)))) (fX6_badLabel_110 k w1 w2 (i : Int) s) := by
      intro s hb hg
      unfold fX6_badLabel_110
      refine wp_if (fun c5 => wp_ifp (by omega) (wp_some ⟨hF1, Or.inr ?_⟩)) (fun c5 => wp_ifp (by omega) (ih _ ⟨i + 1, by omega, rfl, rfl, by simp only; omega, fun j hj => ?_⟩ (by simp only; omega)))
      · rw [Int.toNat_natCast]
        exact ⟨hpos, fun z => bad_of hS hic ((hb c5).1 z) (fun j hj => (g j hj).1 z), fun z => bad_of hS hic ((hb c5).2 z) (fun j hj => (g j hj).2 z)⟩
      · by_cases z : j = i
        · rw [z]; exact hg c5
        · exact g j (by omega)
    unfold fX6_badLabel_19
    simp only
    rw [e5]
    refine wp_ifp (by omega) ?_
    refine wp_if (fun c2 => ?_) (fun c2 => ?_)
    · have : a = 4 * n := by omega
      subst this
      refine wp_if (fun c3 => ?_) (fun c3 => ?_)
      · refine wp_if (fun c4 => fin 1 (fun z => by omega) (fun _ => ⟨fun _ => by show lb_occ _ _ _ = 2; omega, fun z => by omega⟩)) (fun c4 => fin 0 (fun _ => ⟨fun _ q => c4 (by rw [show lb_occ (t.2 10) (4 * n) (w1.2 14 i) = 2 from q]; rfl), fun z => by omega⟩) (fun z => absurd rfl z))
      · refine wp_ifp (by omega) ?_
        rw [Int.toNat_natCast]
        have hw2 : w2 = 1 := by omega
        refine wp_bind (sX6_placeOf h1 (w1.2 14 i) 1 (Or.inr rfl)) (fun v hv => ?_)
        rw [e9, e10] at hv
        unfold fX6_badLabel_96
        refine wp_if (fun c4 => fin 0 (fun _ => ⟨fun z => by omega, fun _ q => ?_⟩) (fun z => absurd rfl z)) (fun c4 => ?_)
        · obtain ⟨b, b1, b2, b3⟩ := q.1
          rcases hv with ⟨_, z⟩ | ⟨d, _, d2, _⟩
          · exact z b b1 ⟨b2, ⟨fun _ => rfl, fun _ => b3⟩⟩
          · omega
        · have hout : ∃ b, b < 4 * n ∧ t.2 10 b = w1.2 14 i ∧ na_out (t.2 9) b := by
            obtain ⟨b, b1, b2, b3⟩ := ls_no hv (by omega)
            exact ⟨b, b1, b2, b3.mpr rfl⟩
          refine wp_ifp (by omega) ?_
          refine wp_bind (sX6_placeOf h1 (w1.2 14 i) 0 (Or.inl rfl)) (fun v' hv' => ?_)
          rw [e9, e10] at hv'
          refine wp_if (fun c5 => fin 0 (fun _ => ⟨fun z => by omega, fun _ q => ?_⟩) (fun z => absurd rfl z)) (fun c5 => fin 1 (fun z => by omega) (fun _ => ⟨fun z => by omega, fun _ => ⟨hout, ?_⟩⟩))
          · obtain ⟨b, b1, b2, b3⟩ := q.2
            rcases hv' with ⟨_, z⟩ | ⟨d, _, d2, _⟩
            · exact z b b1 ⟨b2, ⟨fun y => absurd y b3, fun y => absurd y (by decide)⟩⟩
            · omega
          · obtain ⟨b, b1, b2, b3⟩ := ls_no hv' (by omega)
            exact ⟨b, b1, b2, fun z => absurd (b3.mp z) (by decide)⟩
    · refine wp_ifp (by omega) ?_
      rw [Int.toNat_natCast, Int.toNat_natCast, e10]
      unfold fX6_badLabel_52
      refine wp_if (fun c3 => ?_) (fun c3 => ?_)
      · refine wp_ifp (by omega) ?_
        exact ih2 _ ⟨a + 1, by omega, rfl, rfl, rfl, by simp only; omega, by simp only; rw [lb_occ_y c3]; omega⟩ (by simp only; omega)
      · refine wp_ifp (by omega) ?_
        exact ih2 _ ⟨a + 1, by omega, rfl, rfl, rfl, by simp only; omega, by simp only; rw [lb_occ_n c3]; omega⟩ (by simp only; omega)
theorem sX6_fault (h : rm_ok t n) : wp_Q (fun q => md_F [2, 13, 20] [14, 18, 22] t q.1 ∧ sv_ans n (t.2 9) (t.2 10) q.2 (q.1.1 2)) (fX6_fault t) := by
  have hn := h.2.1
  unfold fX6_fault fX6_fault_56
  refine wp_bind (sX6_badLabel h (Or.inl rfl)) (fun ⟨t1, v1⟩ ⟨hF1, h1⟩ => ?_)
  simp only at hF1 h1 ⊢
  simp only [va_up, ↓reduceIte]
  have hF1' : md_F [2, 13, 20] [14, 18, 22] t (va_up t1.1 2 v1, t1.2) := (hF1.up (by decide) (by decide)).i (by decide) v1
  have r1 := h.F hF1' (by decide) (by decide) (by decide)
  refine wp_if (fun c1 => ?_) (fun c1 => ?_)
  · have all1 : ∀ a, a < 4 * n → ok1 n (t.2 10) (t.2 10 a) := by
      rcases h1 with ⟨_, q⟩ | ⟨q, _⟩
      · exact fun a ha => (q a ha).1 trivial
      · omega
    refine wp_bind (sX6_badLabel r1 (Or.inr rfl)) (fun ⟨t2, v2⟩ ⟨hF2, h2⟩ => ?_)
    simp only at hF2 h2 ⊢
    rw [hF1'.2 9 (by decide), hF1'.2 10 (by decide)] at h2
    have hF2' : md_F [2, 13, 20] [14, 18, 22] t (va_up t2.1 2 v2, t2.2) := (hF1'.tr (hF2.up (by decide) (by decide))).i (by decide) v2
    have r2 := h.F hF2' (by decide) (by decide) (by decide)
    refine wp_if (fun c2 => ?_) (fun c2 => ?_)
    · have all2 : ∀ a, a < 4 * n → ok2 n (t.2 9) (t.2 10) (t.2 10 a) := by
        rcases h2 with ⟨_, q⟩ | ⟨q, _⟩
        · exact fun a ha => (q a ha).2 trivial
        · omega
      obtain ⟨t1', -, c, g13, hS⟩ : ∃ t1', fX6_sort t = some t1' ∧ ∃ c : Nat, t1'.1 13 = (c : Int) ∧ ed_S (t1'.2 14) c (t.2 10) (4 * n) := by
        obtain ⟨r, a, _, b⟩ := sX6_sort h
        exact ⟨r, a, b⟩
      have hD : dg_D n (t.2 9) (t.2 10) := dg_of hS (fun i hi => by
        obtain ⟨a, a1, a2⟩ := hS.2.2.1 i hi
        rw [← a2]; exact all1 a a1) (fun i hi => by
        obtain ⟨a, a1, a2⟩ := hS.2.2.1 i hi
        rw [← a2]; exact all2 a a1)
      have M : mr n (t.2 9) (t.2 10) := ⟨hn, h.2.2.1, h.2.2.2, hD⟩
      refine wp_bind (sX6_badPiece M ⟨r2.1, hF2'.2 9 (by decide), hF2'.2 10 (by decide)⟩) (fun ⟨t3, v3⟩ ⟨hF3, f, c', hS', hc', h3⟩ => ?_)
      simp only at hF3 h3 ⊢
      have hF3' : md_F [2, 13, 20] [14, 18, 22] t (va_up t3.1 2 v3, t3.2) := (hF2'.tr (hF3.up (by decide) (by decide))).i (by decide) v3
      refine wp_if (fun c3 => wp_some ⟨hF3', ?_⟩) (fun c3 => wp_some ⟨hF3', ?_⟩)
      · simp only [va_up, ↓reduceIte]
        rcases h3 with ⟨q1, q2⟩ | ⟨k, _, q, _⟩
        · exact Or.inr (Or.inr (Or.inr ⟨rfl, q1, hD, f, c', hS', hc', q2⟩))
        · omega
      · simp only [va_up, ↓reduceIte]
        rcases h3 with ⟨q1, _⟩ | q
        · omega
        · exact Or.inr (Or.inr (Or.inl ⟨rfl, hD, f, c', hS', hc', q⟩))
    · refine wp_some ⟨hF2', ?_⟩
      simp only [va_up, ↓reduceIte]
      rcases h2 with ⟨q, _⟩ | ⟨_, _, q⟩
      · omega
      · exact Or.inr (Or.inl ⟨rfl, all1, q trivial⟩)
  · refine wp_some ⟨hF1', ?_⟩
    simp only [va_up, ↓reduceIte]
    rcases h1 with ⟨q, _⟩ | ⟨_, q, _⟩
    · omega
    · exact Or.inl ⟨rfl, q trivial⟩
end MFA
