/-! component, face, which. -/
theorem oWhich {D : gx_Dc} {m : gt_T} (h : RLn D m) : ∃ v, fX5_which D = some v ∧ fX6_which m = some v := by
  obtain ⟨n, p, c, f, -, -, ⟨_, _, _, hw⟩⟩ := h
  exact ⟨m.1 2, by unfold fX5_which; rw [hw], rfl⟩
theorem cHas {D : gx_Dc} {n c : Nat} {sg lb f : Nat → Int} {m : gt_T} (M : mr n sg lb) (hS : ed_S f c lb (4 * n)) (hV : cv D.2.1 n c f sg lb) (hc1 : D.2.2.1 2 = m.1 6) (hc2 : 0 ≤ m.1 6) (hc3 : m.1 6 + 2 * (n : Int) ≤ 60) (k : Int) : fX5_hasComponent D k = some (if 0 ≤ k ∧ k < (pm_z c (pi_c f c n sg lb) : Int) + m.1 6 then 1 else 0) := by
  have hn := M.1
  have hc := ed_c M hS
  have hz1 := pm_z_le c (pi_c f c n sg lb)
  unfold fX5_hasComponent fX5_hasComponent_27 fX5_hasComponent_28
  refine wp_get ?_
  refine wp_if (fun d => ?_) (fun d => ?_)
  · rw [if_neg (by omega)]
    exact wp_ifp (by decide) (wp_some rfl)
  · refine wp_eq (show fX3_count _ = some _ from rfl) ?_
    rw [hV.2.2.2.2.2.1.2.1, hc1]
    refine wp_ifp (by omega) ?_
    refine wp_if (fun d1 => ?_) (fun d1 => ?_)
    · rw [if_neg (by omega)]
      exact wp_ifp (by decide) (wp_some rfl)
    · rw [if_pos (by omega)]
      exact wp_ifp (by decide) (wp_some rfl)
theorem oComponent {D : gx_Dc} {m : gt_T} (h : RLn D m) (k x : Int) (hx : -2147483648 ≤ x ∧ x < 2147483648) : wp_Q (fun q => md_F SI SA m q.1 ∧ fX5_component D k x = some q.2) (fX6_component m k x) := by
  obtain ⟨n, p, c, f, -, ⟨M, h5, hS, hV, _⟩, ⟨hc1, hc2, hc3, -⟩⟩ := h
  have S : mst m n (m.2 9) (m.2 10) := ⟨h5, rfl, rfl⟩
  have hsg : m.2 9 = m.2 9 := rfl
  have hlb : m.2 10 = m.2 10 := rfl
  generalize m.2 9 = sg at M hS hV S
  generalize m.2 10 = lb at M hS hV S
  have hn := M.1
  have hc := ed_c M hS
  have hP := pcP M hS
  have E := pm_RE hP
  have hz1 := pm_z_le c (pi_c f c n sg lb)
  have hz3 := pm_n_le n (pr_L n lb)
  have hH := cHas M hS hV hc1 hc2 hc3
  have hcnt : fX3_count D.2.1.2.2.2.2.1 = some (pm_z c (pi_c f c n sg lb) : Int) := by unfold fX3_count; rw [hV.2.2.2.2.2.1.2.1]
  have hpcs : fX2_count D.2.1.2.2.1 = some (pm_n n (pr_L n lb) : Int) := by unfold fX2_count; rw [hV.2.2.2.1.2.1]
  unfold fX6_component fX6_component_23
  refine wp_bind (mComponents M hS S) (fun t1 ⟨hF, g⟩ => ?_)
  have S1 := S.F hF (by decide) (by decide) (by decide)
  have e6 : t1.1 6 = m.1 6 := hF.1 6 (by decide)
  rw [g.2.2.1, e6]
  by_cases hk : 0 ≤ k ∧ k < (pm_z c (pi_c f c n sg lb) : Int) + m.1 6
  · obtain ⟨k', rfl⟩ : ∃ k' : Nat, k = (k' : Int) := ⟨k.toNat, by omega⟩
    have hk1 := hH (k' : Int)
    rw [if_pos hk] at hk1
    refine wp_ifn (by omega) (wp_ifp (by omega) (wp_ifp (by omega) ?_))
    have F2 : ∀ {t2 : gt_T} {js : List Nat}, md_F [] js t1 t2 → (∀ j ∈ js, j ∈ SA) → md_F SI SA m t2 := fun a b => (hF.up (by decide) (by decide)).tr (a.up (by simp) b)
    by_cases hx10 : x < 10
    · -- by itself
      by_cases hkc : (k' : Int) < (pm_z c (pi_c f c n sg lb) : Int)
      · obtain ⟨j, q, j1, j2, j3, q1, q2, s1, s2, -⟩ := cMember (i := 0) D.2.1.2.2.2.2.1 hP (by omega) hV.2.2.2.2.2.1 (k := k') (by omega)
        have cls : ∀ {v : Int}, wp_Q (fun r => r = v) (if x = 0 then (fX3_first D.2.1.2.2.2.2.1 (k' : Int)).bind (fun (q127 : Int) => (fX1_label D.2.1.2.1 q127).bind (fun (q130 : Int) => some q130)) else (if x = 1 then (fX3_size D.2.1.2.2.2.2.1 (k' : Int)).bind (fun (q142 : Int) => some q142) else (if x = 2 then (fX0_sumOfOwnSigns D.2.1 (k' : Int)).bind (fun (q151 : Int) => some q151) else (if x = 3 then (fX0_pieceOfComponent D.2.1 (k' : Int)).bind (fun (q160 : Int) => some q160) else some (-1000 : Int))))) → wp_Q (fun r => r = v) (fX5_component D (k' : Int) x) := fun z => by
          unfold fX5_component
          exact wp_eq hk1 (wp_ifn (by decide) (wp_ifp hx10 (wp_eq hcnt (wp_ifp hkc z))))
        refine wp_ifp hkc ?_
        unfold fX6_component_37
        refine wp_ifp hx10 (wp_ifp rfl ?_)
        refine wp_bind (mBeginning M hS S1 (k := k') (by omega)) (fun q' ⟨hF2, g2, j', jj1, jj2, jj3, jj4⟩ => ?_)
        have ej : j' = j := pm_c_inj jj2 j2 (by rw [jj3, j3])
        subst ej
        have S2 := S1.F hF2 (by decide) (by decide) (by decide)
        have hF2' : md_F SI SA m q'.1 := (hF.tr hF2).up (by decide) (by decide)
        unfold fX6_component_111
        rw [jj4]
        refine wp_if (fun d0 => ?_) (fun d0 => ?_)
        · exact wp_some ⟨hF2', wp_get (cls (wp_ifp d0 (wp_eq s2 (wp_eq (cLab M hS hV j1) (wp_some rfl)))))⟩
        refine wp_if (fun d1 => ?_) (fun d1 => ?_)
        · refine wp_ifp rfl (wp_eq (mEdgesOf M hS S2 j1 q2 q1) ?_)
          exact wp_some ⟨hF2', wp_get (cls (wp_ifn d0 (wp_ifp d1 (wp_eq s1 (wp_some rfl)))))⟩
        refine wp_if (fun d2 => ?_) (fun d2 => ?_)
        · refine wp_ifp rfl (wp_eq (mTogether M S2 g2.2.2.2 k' k') ?_)
          refine wp_some ⟨hF2', wp_get (cls (wp_ifn d0 (wp_ifn d1 (wp_ifp d2 (wp_eq (r := sm_i (sg_u f c n sg lb k' k') n) ?_ (wp_some (sg_uu k')))))))⟩
          exact wp_get (wp_eq (cSum M hS hV k' k') (wp_some rfl))
        refine wp_if (fun d3 => ?_) (fun d3 => ?_)
        · refine wp_ifp rfl (wp_eq (fP1 M S2 hS j1) ?_)
          obtain ⟨o1, o2, o3⟩ := fos M hS j1
          obtain ⟨i1, i2, i3⟩ := fis M hS j1
          rw [show Int.tdiv ((os sg lb (4 * n) (f j') : Nat) : Int) (4 : Int) = ((os sg lb (4 * n) (f j') / 4 : Nat) : Int) from na_td _ 4]
          refine wp_bind (mPieceOf M S2 (k := os sg lb (4 * n) (f j') / 4) (by omega)) (fun q3 hq3 => ?_)
          refine wp_some ⟨hF2'.tr (hq3.1.up (by simp) (by decide)), ?_⟩
          rw [hq3.2]
          have epc : rn (pr_L n lb) (os sg lb (4 * n) (f j') / 4) = rn (pr_L n lb) (is sg lb (4 * n) (f j') / 4) := by
            have E' := pr_E n n lb
            rw [rn_iff E' (by omega) (by omega), pr_mate o1 i1 (by rw [o2, i2])]
            exact E'.1 _ (by omega)
          refine wp_get (cls (wp_ifn d0 (wp_ifn d1 (wp_ifn d2 (wp_ifp d3 (wp_eq (r := (rn (pr_L n lb) (is sg lb (4 * n) (f j') / 4) : Int)) ?_ (wp_some (by rw [epc]))))))))
          refine wp_get (wp_eq s2 (wp_eq ?_ (wp_some rfl)))
          refine wp_get ?_
          unfold fX0_pieceOfEdge
          refine wp_eq (r := (is sg lb (4 * n) (f j') : Int)) ?_ ?_
          · show fX1_to D.2.1.2.1 (j' : Int) = _
            rw [sX1_to hV.2.2.1.1 (by omega) j1, (hV.2.2.1.2.1 j' j1).2.2]
          · rw [show Int.tdiv ((is sg lb (4 * n) (f j') : Nat) : Int) (4 : Int) = ((is sg lb (4 * n) (f j') / 4 : Nat) : Int) from na_td _ 4]
            refine wp_eq (r := (rn (pr_L n lb) (is sg lb (4 * n) (f j') / 4) : Int)) ?_ (wp_some rfl)
            show fX2_numberOf D.2.1.2.2.1 _ = _
            rw [sX2_numberOf hV.2.2.2.1.1 (by omega) (by omega), (hV.2.2.2.1.2.2 _ (by omega)).2]
        · exact wp_some ⟨hF2', wp_get (cls (wp_ifn d0 (wp_ifn d1 (wp_ifn d2 (wp_ifn d3 (wp_some rfl))))))⟩
      · -- a circle
        have cls : ∀ {v : Int}, wp_Q (fun r => r = v) (if x = 0 then some (0 : Int) else (if x = 1 then some (0 : Int) else (if x = 2 then some (0 : Int) else (if x = 3 then (fX2_count D.2.1.2.2.1).bind (fun (q41 : Int) => (if (-2147483648 ≤ q41 + ((k' : Int) - (pm_z c (pi_c f c n sg lb) : Int)) ∧ q41 + ((k' : Int) - (pm_z c (pi_c f c n sg lb) : Int)) < 2147483648) then some (q41 + ((k' : Int) - (pm_z c (pi_c f c n sg lb) : Int))) else none)) else some (-1000 : Int))))) → wp_Q (fun r => r = v) (fX5_component D (k' : Int) x) := fun {v} z => by
          unfold fX5_component
          exact wp_eq hk1 (wp_ifn (by decide) (wp_ifp hx10 (wp_eq hcnt (wp_ifn hkc (wp_eq hcnt (wp_ifp (by omega) (wp_bind (P1 := fun r => r = v) z (fun r hr => wp_some hr))))))))
        refine wp_ifn hkc ?_
        unfold fX6_component_37
        refine wp_ifp hx10 (wp_ifn (by decide) ?_)
        unfold fX6_component_111
        refine wp_if (fun d0 => ?_) (fun d0 => ?_)
        · exact wp_some ⟨hF.up (by decide) (by decide), wp_get (cls (wp_ifp d0 (wp_some rfl)))⟩
        refine wp_if (fun d1 => ?_) (fun d1 => ?_)
        · exact wp_ifn (by decide) (wp_some ⟨hF.up (by decide) (by decide), wp_get (cls (wp_ifn d0 (wp_ifp d1 (wp_some rfl))))⟩)
        refine wp_if (fun d2 => ?_) (fun d2 => ?_)
        · exact wp_ifn (by decide) (wp_some ⟨hF.up (by decide) (by decide), wp_get (cls (wp_ifn d0 (wp_ifn d1 (wp_ifp d2 (wp_some rfl)))))⟩)
        refine wp_if (fun d3 => ?_) (fun d3 => ?_)
        · refine wp_ifn (by decide) (wp_bind (mPieces M S1) (fun q3 hq3 => ?_))
          rw [hq3.2]
          refine wp_ifp (by omega) (wp_some ⟨F2 hq3.1 (by decide), wp_get (cls (wp_ifn d0 (wp_ifn d1 (wp_ifn d2 (wp_ifp d3 (wp_eq hpcs (wp_ifp (by omega) (wp_some ?_))))))))⟩)
          omega
        · exact wp_some ⟨hF.up (by decide) (by decide), wp_get (cls (wp_ifn d0 (wp_ifn d1 (wp_ifn d2 (wp_ifn d3 (wp_some rfl))))))⟩
    · -- with another
      obtain ⟨j, hj⟩ : ∃ j : Nat, x - 10 = (j : Int) := ⟨(x - 10).toNat, by omega⟩
      have hj1 := hH (j : Int)
      have cls : ∀ {v : Int}, wp_Q (fun r => r = v) ((fX5_hasComponent D (j : Int)).bind (fun (q25 : Int) => (if q25 = 0 then some (-1000 : Int) else (fX0_linking D.2.1 (k' : Int) (j : Int)).bind (fun (q37 : Int) => some q37)))) → wp_Q (fun r => r = v) (fX5_component D (k' : Int) x) := fun z => by
        unfold fX5_component
        refine wp_eq hk1 (wp_ifn (by decide) (wp_ifn hx10 (wp_ifp (by omega) ?_)))
        rw [hj]
        exact z
      have link : k' ≠ j → fX0_linking D.2.1 (k' : Int) (j : Int) = some (Int.tdiv (sm_i (sg_t f c n sg lb k' j) n) 2) := fun hne => by
        unfold fX0_linking
        refine wp_get (wp_ifn (by omega) (wp_eq (cSum M hS hV k' j) (wp_eq (cSum M hS hV j k') ?_)))
        rw [sg_ut hne]
        have hb := sm_i_b (g := sg_t f c n sg lb k' j) (m := n) (fun i hi => by
          unfold sg_t
          split
          · exact mr_sg M hi
          · decide)
        exact wp_ifp (by omega) (wp_some rfl)
      have link0 : fX0_linking D.2.1 (k' : Int) (k' : Int) = some 0 := by
        unfold fX0_linking
        exact wp_get (wp_ifp rfl (wp_some rfl))
      have body : ∀ s0 : Int, (s0 = 0 ∧ (k' : Int) < (pm_z c (pi_c f c n sg lb) : Int)) ∨ (s0 = 1 ∧ (pm_z c (pi_c f c n sg lb) : Int) ≤ (k' : Int)) → wp_Q (fun q => md_F SI SA m q.1 ∧ fX5_component D (k' : Int) x = some q.2) (fX6_component_37 t1 (k' : Int) x (pm_z c (pi_c f c n sg lb) : Int) s0) := by
        intro s0 hs0
        unfold fX6_component_37
        refine wp_ifn hx10 ?_
        rw [hj, e6]
        refine wp_ifp (by omega) ?_
        by_cases hjr : (j : Int) < (pm_z c (pi_c f c n sg lb) : Int) + m.1 6
        · rw [if_pos (by omega)] at hj1
          refine wp_ifp hjr ?_
          have hzero : (pm_z c (pi_c f c n sg lb) ≤ k' ∨ pm_z c (pi_c f c n sg lb) ≤ j ∨ j = k') → fX5_component D (k' : Int) x = some 0 := fun z => by
            refine wp_get (cls (wp_eq hj1 (wp_ifn (by decide) ?_)))
            by_cases hkj : k' = j
            · subst hkj; exact wp_eq link0 (wp_some rfl)
            · refine wp_eq (link hkj) (wp_some ?_)
              rw [sg_t0 M hS (by omega)]; rfl
          unfold fX6_component_83 fX6_component_96
          refine wp_if (fun d => ?_) (fun d => wp_some ⟨hF.up (by decide) (by decide), hzero (by omega)⟩)
          refine wp_if (fun d1 => wp_some ⟨hF.up (by decide) (by decide), hzero (by omega)⟩) (fun d1 => ?_)
          refine wp_if (fun d2 => wp_some ⟨hF.up (by decide) (by decide), hzero (by omega)⟩) (fun d2 => ?_)
          refine wp_eq (mTogether M S1 g.2.2.2 k' j) (wp_some ⟨hF.up (by decide) (by decide), ?_⟩)
          exact wp_get (cls (wp_eq hj1 (wp_ifn (by decide) (wp_eq (link (by omega)) (wp_some rfl)))))
        · rw [if_neg (by omega)] at hj1
          refine wp_ifn hjr (wp_some ⟨hF.up (by decide) (by decide), ?_⟩)
          exact wp_get (cls (wp_eq hj1 (wp_ifp rfl (wp_some rfl))))
      exact wp_if (fun d => body 0 (Or.inl ⟨rfl, d⟩)) (fun d => body 1 (Or.inr ⟨rfl, by omega⟩))
  · have hk1 := hH k
    rw [if_neg hk] at hk1
    have h5' : fX5_component D k x = some (-1000) := by
      unfold fX5_component
      exact wp_get (wp_eq hk1 (wp_ifp rfl (wp_some rfl)))
    refine wp_if (fun d => wp_some ⟨hF.up (by decide) (by decide), h5'⟩) (fun d => wp_ifp (by omega) (wp_ifn (by omega) (wp_some ⟨hF.up (by decide) (by decide), h5'⟩)))
theorem oFace {D : gx_Dc} {m : gt_T} (h : RLn D m) (k x : Int) : wp_Q (fun q => md_F SI SA m q.1 ∧ fX5_face D k x = some q.2) (fX6_face m k x) := by
  obtain ⟨n, p, c, f, -, ⟨M, h5, hS, hV, _⟩, -⟩ := h
  have S : mst m n (m.2 9) (m.2 10) := ⟨h5, rfl, rfl⟩
  have hsg : m.2 9 = m.2 9 := rfl
  have hlb : m.2 10 = m.2 10 := rfl
  generalize m.2 9 = sg at M hS hV S
  generalize m.2 10 = lb at M hS hV S
  have hn := M.1
  have hc := ed_c M hS
  have hP := pqP M hS
  have hz := pm_z_le (2 * c) (pi_q f c n sg lb)
  have r := hV.2.2.2.2.2.2.2
  by_cases hk : 0 ≤ k ∧ k < (pm_z (2 * c) (pi_q f c n sg lb) : Int)
  · obtain ⟨k', rfl⟩ : ∃ k' : Nat, k = (k' : Int) := ⟨k.toNat, by omega⟩
    have hk' : k' < pm_z (2 * c) (pi_q f c n sg lb) := by omega
    obtain ⟨j, q, j1, j2, j3, q1, q2, s1, s2, s3⟩ := cMember (i := x.toNat) D.2.1.2.2.2.2.2.2.1 hP (by omega) r hk'
    by_cases hx : -1 ≤ x
    · refine wp_mono (mFace M hS S hk' hx) (fun q' ⟨hF, j', p', jj1, jj2, jj3, jj4, a1, a2, a3⟩ => ⟨hF.up (by decide) (by decide), ?_⟩)
      have ej : j' = j := pm_c_inj jj2 j2 (by rw [jj3, j3])
      subst ej
      have ep := pm_o_uniq jj4 q2
      subst ep
      unfold fX5_face fX5_face_28 fX5_face_75
      refine wp_get (wp_eq s1 ?_)
      refine wp_if (fun d => wp_some (a1 d).symm) (fun d => wp_ifn (by omega) ?_)
      refine wp_if (fun d1 => ?_) (fun d1 => wp_some (a3 (by omega)).symm)
      obtain ⟨i, rfl⟩ : ∃ i : Nat, x = (i : Int) := ⟨x.toNat, by omega⟩
      rw [Int.toNat_natCast] at s3 a2
      have hlt := pm_it_lt hP j1 i
      rw [a2 (by omega) d1]
      refine wp_eq (s3 (by omega)) ?_
      rw [show Int.tdiv ((pm_it (pi_q f c n sg lb) i j' : Nat) : Int) (2 : Int) = ((pm_it (pi_q f c n sg lb) i j' / 2 : Nat) : Int) from na_td _ 2]
      refine wp_eq (cLab M hS hV (show pm_it (pi_q f c n sg lb) i j' / 2 < c by omega)) ?_
      have hp1 := f_pos M hS (show pm_it (pi_q f c n sg lb) i j' / 2 < c by omega)
      unfold sgd
      refine wp_ifp (by omega) (wp_if (fun d2 => wp_some ?_) (fun d2 => wp_ifp (by omega) (wp_some ?_)))
      · rw [if_pos (by omega)]
      · rw [if_neg (by omega)]
    · have h5' : fX5_face D (k' : Int) x = some 0 := by
        unfold fX5_face fX5_face_28
        exact wp_get (wp_eq s1 (wp_ifn (by omega) (wp_ifp (by omega) (wp_some rfl))))
      unfold fX6_face fX6_face_21
      refine wp_bind (mFaces M hS S) (fun t1 ⟨hF, g13, g14, g20, g22⟩ => ?_)
      exact wp_ifn (by omega) (wp_ifp (by omega) (wp_some ⟨hF.up (by decide) (by decide), h5'⟩))
  · have s1 : fX3_size D.2.1.2.2.2.2.2.2.1 k = some 0 := by
      unfold fX3_size fX3_size_18
      refine wp_get (wp_eq (sX3_hasRound _ k) ?_)
      rw [r.2.1, if_neg hk]
      exact wp_ifp rfl (wp_some rfl)
    have h5' : fX5_face D k x = some 0 := by
      unfold fX5_face fX5_face_28
      refine wp_get (wp_eq s1 (wp_if (fun d => wp_some rfl) (fun d => wp_if (fun d1 => wp_some rfl) (fun d1 => wp_ifn (by omega) (wp_some rfl)))))
    unfold fX6_face fX6_face_21
    refine wp_bind (mFaces M hS S) (fun t1 ⟨hF, g13, g14, g20, g22⟩ => ?_)
    rw [g20]
    exact wp_if (fun d => wp_some ⟨hF.up (by decide) (by decide), h5'⟩) (fun d => wp_if (fun d1 => wp_some ⟨hF.up (by decide) (by decide), h5'⟩) (fun d1 => wp_ifn (by omega) (wp_some ⟨hF.up (by decide) (by decide), h5'⟩)))
