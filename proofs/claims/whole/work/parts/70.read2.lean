/-! look, edge, component, face. -/
theorem oLook {D : gx_Dc} {m : gt_T} (h : RLn D m) (k x : Int) : wp_Q (fun q => md_F SI SA m q.1 ∧ fX5_look D k x = some q.2) (fX6_look m k x) := by
  obtain ⟨n, p, c, f, -, ⟨M, h5, hS, hV, _⟩, -⟩ := h
  have S : mst m n (m.2 9) (m.2 10) := ⟨h5, rfl, rfl⟩
  have S9 : m.2 9 = m.2 9 := rfl
  have S10 : m.2 10 = m.2 10 := rfl
  generalize hsg : m.2 9 = sg at M hS hV S S9
  generalize hlb : m.2 10 = lb at M hS hV S S10
  have hn := M.1
  have hc := ed_c M hS
  have hz3 := pm_n_le n (pr_L n lb)
  have hh := sX4_has D.2.1.1 k
  rw [hV.1.1] at hh
  unfold fX6_look fX6_look_22
  rw [h5]
  by_cases hk : 0 ≤ k ∧ k < n
  · obtain ⟨k', rfl⟩ : ∃ k' : Nat, k = (k' : Int) := ⟨k.toNat, by omega⟩
    have hk' : k' < n := by omega
    rw [if_pos hk] at hh
    refine wp_ifn (by omega) (wp_ifn (by omega) ?_)
    have lab : ∀ y : Nat, y < 4 → fX5_look_64 D (k' : Int) (y : Int) = some (lb (4 * k' + y)) := fun y hy => by
      unfold fX5_look_64
      refine wp_get (wp_ifp (by omega) (wp_eq (r := lb (4 * k' + y)) ?_ (wp_some rfl)))
      rw [show (4 : Int) * (k' : Int) + (y : Int) = ((4 * k' + y : Nat) : Int) by omega, sX4_labelN hV.1 (by omega), hV.2.1.2 _ (by omega)]
    have labs : ∀ y : Nat, y < 4 → wp_Q (fun r => r = lb (4 * k' + y)) (fX5_look D (k' : Int) (y : Int)) := fun y hy => by
      unfold fX5_look
      refine wp_eq hh (wp_ifn (by decide) ?_)
      have e := lab y hy
      rcases (show y = 0 ∨ y = 1 ∨ y = 2 ∨ y = 3 by omega) with z | z | z | z <;> subst z
      · exact wp_ifp rfl ⟨_, e, rfl⟩
      · exact wp_ifn (by decide) (wp_ifp rfl ⟨_, e, rfl⟩)
      · exact wp_ifn (by decide) (wp_ifn (by decide) (wp_ifp rfl ⟨_, e, rfl⟩))
      · exact wp_ifn (by decide) (wp_ifn (by decide) (wp_ifn (by decide) (wp_ifp rfl ⟨_, e, rfl⟩)))
    have rest : ∀ {v : Int}, ¬ x = 0 → ¬ x = 1 → ¬ x = 2 → ¬ x = 3 → wp_Q (fun r => r = v) (if x = 4 then (fX4_sign D.2.1.1 (k' : Int)).bind (fun (q88 : Int) => some q88) else (if x = 5 then (fX2_numberOf D.2.1.2.2.1 (k' : Int)).bind (fun (q100 : Int) => some q100) else (if x = 6 then (fX0_lowerComponent D.2.1 (k' : Int)).bind (fun (q109 : Int) => some q109) else (if x = 7 then (fX0_upperComponent D.2.1 (k' : Int)).bind (fun (q118 : Int) => some q118) else some (-1000 : Int))))) → wp_Q (fun r => r = v) (fX5_look D (k' : Int) x) := fun a b d e z => by
      unfold fX5_look
      exact wp_eq hh (wp_ifn (by decide) (wp_ifn a (wp_ifn b (wp_ifn d (wp_ifn e z)))))
    refine wp_if (fun d => rdI (v := -1000) (is := []) (js := []) (by simp) (by simp) (rest (by omega) (by omega) (by omega) (by omega) (wp_ifn (by omega) (wp_ifn (by omega) (wp_ifn (by omega) (wp_ifn (by omega) (wp_some rfl)))))) (wp_some ⟨md_F.rf, rfl⟩)) (fun d0 => ?_)
    refine wp_if (fun d1 => ?_) (fun d1 => rdI (v := -1000) (is := []) (js := []) (by simp) (by simp) (rest (by omega) (by omega) (by omega) (by omega) (wp_ifn (by omega) (wp_ifn (by omega) (wp_ifn (by omega) (wp_ifn (by omega) (wp_some rfl)))))) (wp_some ⟨md_F.rf, rfl⟩))
    refine wp_if (fun d2 => ?_) (fun d2 => ?_)
    · refine wp_if (fun d4 => ?_) (fun d4 => ?_)
      · subst d4
        refine rdI (v := sg k') (is := []) (js := []) (by simp) (by simp) (rest (by decide) (by decide) (by decide) (by decide) (wp_ifp rfl (wp_eq (cSign M hV hk') (wp_some rfl)))) (wp_ifp (by omega) (wp_some ⟨md_F.rf, ?_⟩))
        simp only
        rw [Int.toNat_natCast, hsg]
      · refine wp_if (fun d5 => ?_) (fun d5 => ?_)
        · subst d5
          refine rdI (v := (rn (pr_L n lb) k' : Int)) (is := []) (js := [18]) (by simp) (by decide) (rest (by decide) (by decide) (by decide) (by decide) (wp_ifn (by decide) (wp_ifp rfl (wp_eq (r := (rn (pr_L n lb) k' : Int)) ?_ (wp_some rfl))))) (wp_bind (mPieceOf M S hk') (fun q hq => wp_some hq))
          rw [sX2_numberOf hV.2.2.2.1.1 (by omega) hk', (hV.2.2.2.1.2.2 k' hk').2]
        · refine wp_ifp (by omega) ?_
          have cmp : ∀ y : Nat, y < 2 → wp_Q (fun q => md_F [13, 19] [14, 21] m q.1 ∧ q.2 = (rn (pm_R (pi_c f c n sg lb)) (er f (lb (4 * k' + y)) c) : Int)) (fX6_look_88 m ((4 : Int) * (k' : Int)) (y : Int)) := fun y hy => by
            unfold fX6_look_88 fX6_look_93
            refine wp_ifp (by omega) ?_
            rw [show ((4 : Int) * (k' : Int) + (y : Int)).toNat = 4 * k' + y by omega, hlb]
            obtain ⟨e1, e2⟩ := er_lb hS (show 4 * k' + y < 4 * n by omega)
            refine wp_bind (P1 := fun q => md_F [13, 19] [14, 21] m q.1 ∧ q.2 = (rn (pm_R (pi_c f c n sg lb)) (er f (lb (4 * k' + y)) c) : Int)) ?_ (fun q hq => wp_some hq)
            have := mComponentOf M hS S e1
            rw [e2] at this
            exact this
          refine wp_if (fun d6 => ?_) (fun d6 => ?_)
          · subst d6
            exact rdI (by decide) (by decide) (rest (by decide) (by decide) (by decide) (by decide) (wp_ifn (by decide) (wp_ifn (by decide) (wp_ifp rfl (wp_eq (cLower M hS hV hk') (wp_some rfl)))))) (cmp 0 (by decide))
          · have d7 : x = 7 := by omega
            subst d7
            exact rdI (by decide) (by decide) (rest (by decide) (by decide) (by decide) (by decide) (wp_ifn (by decide) (wp_ifn (by decide) (wp_ifn (by decide) (wp_ifp rfl (wp_eq (cUpper M hS hV hk') (wp_some rfl))))))) (cmp 1 (by decide))
    · obtain ⟨y, rfl⟩ : ∃ y : Nat, x = (y : Int) := ⟨x.toNat, by omega⟩
      refine rdI (v := lb (4 * k' + y)) (is := []) (js := []) (by simp) (by simp) (labs y (by omega)) (wp_ifp (by omega) (wp_some ⟨md_F.rf, ?_⟩))
      simp only
      rw [show ((4 : Int) * (k' : Int) + (y : Int)).toNat = 4 * k' + y by omega, hlb]
  · rw [if_neg hk] at hh
    have h5' : wp_Q (fun r => r = -1000) (fX5_look D k x) := by
      unfold fX5_look
      exact wp_eq hh (wp_ifp rfl (wp_some rfl))
    refine wp_if (fun d => rdI (is := []) (js := []) (by simp) (by simp) h5' (wp_some ⟨md_F.rf, rfl⟩)) (fun d0 => ?_)
    refine wp_if (fun d => rdI (is := []) (js := []) (by simp) (by simp) h5' (wp_some ⟨md_F.rf, rfl⟩)) (fun d1 => ?_)
    omega
theorem oEdge {D : gx_Dc} {m : gt_T} (h : RLn D m) (l x : Int) : wp_Q (fun q => md_F SI SA m q.1 ∧ fX5_edge D l x = some q.2) (fX6_edge m l x) := by
  obtain ⟨n, p, c, f, -, ⟨M, h5, hS, hV, _⟩, -⟩ := h
  have S : mst m n (m.2 9) (m.2 10) := ⟨h5, rfl, rfl⟩
  have hsg : m.2 9 = m.2 9 := rfl
  have hlb : m.2 10 = m.2 10 := rfl
  generalize m.2 9 = sg at M hS hV S
  generalize m.2 10 = lb at M hS hV S
  have hn := M.1
  have hc := ed_c M hS
  obtain ⟨r, r1, r2⟩ := sX1_rank hV.2.2.1.1 (by omega) (fun i j a b => by rw [(hV.2.2.1.2.1 i (by omega)).1, (hV.2.2.1.2.1 j b).1]; exact hS.2.1 i j a b) l
  unfold fX6_edge
  rcases r2 with ⟨i, e1, hi, e2⟩ | ⟨e1, e2⟩
  · subst e1
    have el : l = f i := by rw [← e2, (hV.2.2.1.2.1 i hi).1]
    subst el
    have hp := f_pos M hS hi
    obtain ⟨o1, o2, o3⟩ := fos M hS hi
    obtain ⟨i1, i2, i3⟩ := fis M hS hi
    obtain ⟨g0, g1, g2⟩ := hV.2.2.1.2.1 i hi
    have hfrom : fX1_from D.2.1.2.1 (i : Int) = some (os sg lb (4 * n) (f i) : Int) := by rw [sX1_from hV.2.2.1.1 (by omega) hi, g1]
    have hto : fX1_to D.2.1.2.1 (i : Int) = some (is sg lb (4 * n) (f i) : Int) := by rw [sX1_to hV.2.2.1.1 (by omega) hi, g2]
    have hcl : ∀ {v : Int} {o : Option Int}, wp_Q (fun r => r = v) o → (fX5_edge D (f i) x = o) → wp_Q (fun r => r = v) (fX5_edge D (f i) x) := fun a b => by rw [b]; exact a
    refine wp_ifn (by omega) (wp_eq (fP1 M S hS hi) ?_)
    unfold fX6_edge_14 fX6_edge_29
    refine wp_ifn (by omega) ?_
    have cls : ∀ {v : Int}, wp_Q (fun r => r = v) (if x = 0 then (fX1_from D.2.1.2.1 (i : Int)).bind (fun (q79 : Int) => some (Int.tdiv q79 (4 : Int))) else (if x = 1 then (fX1_from D.2.1.2.1 (i : Int)).bind (fun (q88 : Int) => (if 0 ≤ q88 then some (q88 % (4 : Int)) else none)) else (if x = 2 then (fX1_to D.2.1.2.1 (i : Int)).bind (fun (q97 : Int) => some (Int.tdiv q97 (4 : Int))) else (if x = 3 then (fX1_to D.2.1.2.1 (i : Int)).bind (fun (q106 : Int) => (if 0 ≤ q106 then some (q106 % (4 : Int)) else none)) else (if x = 4 then (fX3_next D.2.1.2.2.2.2.1 (i : Int)).bind (fun (q122 : Int) => (fX1_label D.2.1.2.1 q122).bind (fun (q125 : Int) => some q125)) else (if x = 5 then (fX3_roundOf D.2.1.2.2.2.2.1 (i : Int)).bind (fun (q138 : Int) => some q138) else (if x = 6 then (if (-2147483648 ≤ (2 : Int) * (i : Int) ∧ (2 : Int) * (i : Int) < 2147483648) then (fX3_roundOf D.2.1.2.2.2.2.2.2.1 ((2 : Int) * (i : Int))).bind (fun (q153 : Int) => some q153) else none) else (if x = 7 then (if (-2147483648 ≤ (2 : Int) * (i : Int) ∧ (2 : Int) * (i : Int) < 2147483648) ∧ (-2147483648 ≤ ((2 : Int) * (i : Int)) + (1 : Int) ∧ ((2 : Int) * (i : Int)) + (1 : Int) < 2147483648) then (fX3_roundOf D.2.1.2.2.2.2.2.2.1 (((2 : Int) * (i : Int)) + (1 : Int))).bind (fun (q170 : Int) => some q170) else none) else (if x = 8 then (fX2_least D.2.1.2.2.2.1 (i : Int)).bind (fun (q184 : Int) => (fX1_label D.2.1.2.1 q184).bind (fun (q187 : Int) => some q187)) else some (-1 : Int)))))))))) → wp_Q (fun r => r = v) (fX5_edge D (f i) x) := fun z => by
      unfold fX5_edge
      exact wp_eq r1 (wp_ifn (by omega) z)
    have out : ¬ (0 ≤ x ∧ x ≤ 8) → wp_Q (fun r => r = -1) (fX5_edge D (f i) x) := fun z => cls (wp_ifn (by omega) (wp_ifn (by omega) (wp_ifn (by omega) (wp_ifn (by omega) (wp_ifn (by omega) (wp_ifn (by omega) (wp_ifn (by omega) (wp_ifn (by omega) (wp_ifn (by omega) (wp_some rfl))))))))))
    refine wp_if (fun d => rdI (is := []) (js := []) (by simp) (by simp) (out (by omega)) (wp_some ⟨md_F.rf, rfl⟩)) (fun d => ?_)
    refine wp_if (fun d' => ?_) (fun d' => rdI (is := []) (js := []) (by simp) (by simp) (out (by omega)) (wp_some ⟨md_F.rf, rfl⟩))
    refine wp_eq (fP0 M S hS hi) ?_
    refine wp_if (fun d0 => ?_) (fun d0 => ?_)
    · exact rdI (is := []) (js := []) (by simp) (by simp) (cls (wp_ifp d0 (wp_eq hfrom (wp_some rfl)))) (wp_some ⟨md_F.rf, rfl⟩)
    refine wp_if (fun d1 => ?_) (fun d1 => ?_)
    · exact rdI (is := []) (js := []) (by simp) (by simp) (cls (wp_ifn d0 (wp_ifp d1 (wp_eq hfrom (wp_ifp (by omega) (wp_some rfl)))))) (wp_ifp (by omega) (wp_some ⟨md_F.rf, rfl⟩))
    refine wp_if (fun d2 => ?_) (fun d2 => ?_)
    · exact rdI (is := []) (js := []) (by simp) (by simp) (cls (wp_ifn d0 (wp_ifn d1 (wp_ifp d2 (wp_eq hto (wp_some rfl)))))) (wp_some ⟨md_F.rf, rfl⟩)
    refine wp_if (fun d3 => ?_) (fun d3 => ?_)
    · exact rdI (is := []) (js := []) (by simp) (by simp) (cls (wp_ifn d0 (wp_ifn d1 (wp_ifn d2 (wp_ifp d3 (wp_eq hto (wp_ifp (by omega) (wp_some rfl)))))))) (wp_ifp (by omega) (wp_some ⟨md_F.rf, rfl⟩))
    refine wp_if (fun d4 => ?_) (fun d4 => ?_)
    · have r := hV.2.2.2.2.2.1
      have hnx : fX3_next D.2.1.2.2.2.2.1 (i : Int) = some (pi_c f c n sg lb i : Int) := by rw [sX3_next r.1 (by omega) hi, (r.2.2.1 i hi).1]
      exact rdI (is := []) (js := []) (by simp) (by simp) (cls (wp_ifn d0 (wp_ifn d1 (wp_ifn d2 (wp_ifn d3 (wp_ifp d4 (wp_eq hnx (wp_eq (cLab M hS hV ((pcP M hS).1 i hi)) (wp_some rfl))))))))) (wp_eq (fNx M S hS hi) (wp_some ⟨md_F.rf, rfl⟩))
    refine wp_if (fun d5 => ?_) (fun d5 => ?_)
    · exact rdI (by decide) (by decide) (cls (wp_ifn d0 (wp_ifn d1 (wp_ifn d2 (wp_ifn d3 (wp_ifn d4 (wp_ifp d5 (wp_eq (cRound M hS hV hi) (wp_some rfl))))))))) (wp_bind (mComponentOf M hS S hi) (fun q hq => wp_some hq))
    have hfc : ∀ y : Nat, y < 2 → fX3_roundOf D.2.1.2.2.2.2.2.2.1 ((2 * i + y : Nat) : Int) = some (rn (pm_R (pi_q f c n sg lb)) (2 * i + y) : Int) := fun y hy => by
      have r := hV.2.2.2.2.2.2.2
      rw [sX3_roundOf r.1 (by omega) (by omega), (r.2.2.1 _ (by omega)).2]
    refine wp_if (fun d6 => ?_) (fun d6 => ?_)
    · refine rdI (v := (rn (pm_R (pi_q f c n sg lb)) (2 * i + 0) : Int)) (by decide) (by decide) (cls (wp_ifn d0 (wp_ifn d1 (wp_ifn d2 (wp_ifn d3 (wp_ifn d4 (wp_ifn d5 (wp_ifp d6 (wp_ifp (by omega) (wp_eq ?_ (wp_some rfl))))))))))) (wp_bind (mFaceAt M hS S hi (o := 0) (by omega)) (fun q hq => wp_some hq))
      rw [show (2 : Int) * (i : Int) = ((2 * i + 0 : Nat) : Int) by omega]
      exact hfc 0 (by omega)
    refine wp_if (fun d7 => ?_) (fun d7 => ?_)
    · refine rdI (v := (rn (pm_R (pi_q f c n sg lb)) (2 * i + 1) : Int)) (by decide) (by decide) (cls (wp_ifn d0 (wp_ifn d1 (wp_ifn d2 (wp_ifn d3 (wp_ifn d4 (wp_ifn d5 (wp_ifn d6 (wp_ifp d7 (wp_ifp (by omega) (wp_eq ?_ (wp_some rfl)))))))))))) (wp_bind (mFaceAt M hS S hi (o := 1) (by omega)) (fun q hq => wp_some hq))
      rw [show (2 : Int) * (i : Int) + 1 = ((2 * i + 1 : Nat) : Int) by omega]
      exact hfc 1 (by omega)
    · have d8 : x = 8 := by omega
      have g := hV.2.2.2.2.1
      have E : pm_E c (ar_r f c n sg lb) := cl_E c c _ _
      have hml := (pm_m_spec E hi).1
      have hle : fX2_least D.2.1.2.2.2.1 (i : Int) = some (pm_m (ar_r f c n sg lb) i : Int) := by rw [sX2_least g.1 (by omega) hi, (g.2.2 i hi).1]
      exact rdI (is := []) (js := []) (by simp) (by simp) (cls (wp_ifn d0 (wp_ifn d1 (wp_ifn d2 (wp_ifn d3 (wp_ifn d4 (wp_ifn d5 (wp_ifn d6 (wp_ifn d7 (wp_ifp d8 (wp_eq hle (wp_eq (cLab M hS hV (by omega)) (wp_some rfl))))))))))))) (wp_eq (mArcOf M hS S hi) (wp_some ⟨md_F.rf, rfl⟩))
  · subst e1
    have h5' : wp_Q (fun r => r = -1) (fX5_edge D l x) := by
      unfold fX5_edge
      exact wp_eq r1 (wp_ifp rfl (wp_some rfl))
    unfold fX6_edge_14 fX6_edge_29
    refine wp_if (fun d => wp_ifp (by decide) (rdI (is := []) (js := []) (by simp) (by simp) h5' (wp_some ⟨md_F.rf, rfl⟩))) (fun d => ?_)
    refine wp_bind (sX6_placeOf (M.ok S) l 1 (Or.inr rfl)) (fun v hv => ?_)
    rw [S.2.1, S.2.2] at hv
    have hv1 : v = -1 := by
      rcases hv with ⟨z, _⟩ | ⟨a, a1, _, ⟨a2, _⟩, _⟩
      · exact z
      · obtain ⟨j, j1, j2⟩ := hS.2.2.2 a a1
        exact absurd (by rw [(hV.2.2.1.2.1 j j1).1, j2, a2]) (e2 j j1)
    subst hv1
    exact wp_ifp (by decide) (rdI (is := []) (js := []) (by simp) (by simp) h5' (wp_some ⟨md_F.rf, rfl⟩))
