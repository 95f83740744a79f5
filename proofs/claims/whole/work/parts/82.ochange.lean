/-! The calls change, mirror, reverse. -/
theorem RL_new {D : gx_Dc} {m' row ed pc ar cm sf fc ow own : gt_T} {n p : Nat} (h1 : rw_ok D.1.1 p ∧ m'.1 1 = (p : Int) ∧ dsm p (D.1.1.2 0) (D.1.1.2 1) (m'.2 3) (m'.2 4)) (h2 : rw_ok row n) (h3 : m'.1 5 = (n : Int)) (h4 : dsm n (row.2 0) (row.2 1) (m'.2 9) (m'.2 10)) (M : mr n (row.2 0) (row.2 1)) (hs : SPh n (row.2 1)) (h5 : own.1 2 = m'.1 6 ∧ 0 ≤ m'.1 6 ∧ m'.1 6 + 2 * (n : Int) ≤ 60 ∧ own.1 3 = m'.1 2) : ∃ q, fX0_survey (row, ed, pc, ar, cm, sf, fc, ow) = some q ∧ RLc (D.1, q.1, own) m' := by
  obtain ⟨q, e, q1, q2, c, q3⟩ := sv_sp (ed := ed) (pc := pc) (ar := ar) (cm := cm) (sf := sf) (fc := fc) (ow := ow) h2 M hs
  exact ⟨q, e, n, p, c, h1, ⟨h3, q3, by show dsm n (q.1.1.2 0) (q.1.1.2 1) _ _; rw [q1]; exact h4⟩, h5⟩
theorem rot_ro (g : Nat → Int) (k q x : Nat) : rot g k q x = g (ro (fun j => if j = k then q else 0) x) := by
  unfold rot ro
  simp only
  by_cases z : x / 4 = k
  · rw [if_pos z, if_pos z, z]
  · rw [if_neg z, if_neg z]; exact congrArg g (by omega)
theorem ro_m (b : Nat → Nat) (x : Nat) : ro b x % 4 = (x + b (x / 4)) % 4 := by unfold ro; omega
theorem uo_flip {s s' : Nat → Int} {k : Nat} (h : s k = 1 ∨ s k = -1) (e : s' k = -(s k)) : na_uo s' k = na_ui s k ∧ ((na_uo s k = 1 ∧ na_ui s k = 3) ∨ (na_uo s k = 3 ∧ na_ui s k = 1)) := by
  unfold na_uo na_ui
  rw [e]
  rcases h with h | h <;> rw [h] <;> decide
theorem uo_same {s s' : Nat → Int} {k : Nat} (e : s' k = s k) : na_uo s' k = na_uo s k := by unfold na_uo; rw [e]
theorem ex_ok {n k : Nat} {sg lb sg' lb' : Nat → Int} (M : mr n sg lb) (hs : SPh n lb) (h1 : ∀ x, sg' x = flp sg k x) (h2 : ∀ x, lb' x = rot lb k (na_ui sg k) x) : mr n sg' lb' ∧ SPh n lb' := by
  have e2 : ∀ x, lb' x = lb (ro (fun j => if j = k then na_ui sg k else 0) x) := fun x => by rw [h2 x, rot_ro]
  refine turn_ok (b := fun j => if j = k then na_ui sg k else 0) (T := fun _ => False) M hs (fun j hj => ?_) (fun x hx => ?_) (fun x y _ _ => by rw [e2 x, e2 y]) (fun x hx => ?_)
  · rw [h1 j]; unfold flp
    split
    · rcases M.2.1 j hj with z | z <;> rw [z] <;> decide
    · exact M.2.1 j hj
  · rw [e2 x]; exact M.2.2.1 _ ((ro_P _ n).1 x hx)
  · unfold na_out
    rw [ro_4, ro_m]
    simp only [not_false_eq_true, iff_true]
    by_cases z : x / 4 = k
    · have hfl : sg' (x / 4) = -(sg (x / 4)) := by rw [h1]; unfold flp; rw [if_pos z]
      obtain ⟨u1, u2⟩ := uo_flip (M.2.1 (x / 4) (by omega)) hfl
      rw [if_pos z, u1, z] at *
      omega
    · have hfl : sg' (x / 4) = sg (x / 4) := by rw [h1]; unfold flp; rw [if_neg z]
      rw [if_neg z, uo_same hfl]
      simp only [Nat.add_zero]
theorem mi_ok {n : Nat} {sg lb sg' lb' : Nat → Int} (M : mr n sg lb) (hs : SPh n lb) (h1 : ∀ x, sg' x = mirS sg n x) (h2 : ∀ x, lb' x = mirL lb sg n x) : mr n sg' lb' ∧ SPh n lb' := by
  have e2 : ∀ x, x < 4 * n → lb' x = lb (ro (fun j => na_ui sg j) x) := fun x hx => by
    rw [h2 x]; unfold mirL ro; rw [if_pos (by omega)]
  refine turn_ok (b := fun j => na_ui sg j) (T := fun _ => False) M hs (fun j hj => ?_) (fun x hx => ?_) (fun x y hx hy => by rw [e2 x hx, e2 y hy]) (fun x hx => ?_)
  · rw [h1 j]; unfold mirS
    rw [if_pos hj]
    rcases M.2.1 j hj with z | z <;> rw [z] <;> decide
  · rw [e2 x hx]; exact M.2.2.1 _ ((ro_P _ n).1 x hx)
  · unfold na_out
    rw [ro_4, ro_m]
    simp only [not_false_eq_true, iff_true]
    have hfl : sg' (x / 4) = -(sg (x / 4)) := by rw [h1]; unfold mirS; rw [if_pos (by omega)]
    obtain ⟨u1, u2⟩ := uo_flip (M.2.1 (x / 4) (by omega)) hfl
    rw [u1]
    omega
theorem rv_ok {n c k : Nat} {sg lb sg' lb' f : Nat → Int} (M : mr n sg lb) (hS : ed_S f c lb (4 * n)) (hs : SPh n lb) (h1 : ∀ x, x < n → sg' x = rvS (isL f c n sg lb k) (isU f c n sg lb k) sg n x) (h2 : ∀ x, x < 4 * n → lb' x = rvL (isL f c n sg lb k) lb n x) : mr n sg' lb' ∧ SPh n lb' := by
  obtain ⟨b, hb⟩ : ∃ b : Nat → Nat, ∀ j, (isL f c n sg lb k j ∧ b j = 2) ∨ (¬ isL f c n sg lb k j ∧ b j = 0) :=
    ⟨fun j => @ite Nat (isL f c n sg lb k j) (Classical.propDecidable _) 2 0, fun j => by
      by_cases z : isL f c n sg lb k j
      · exact Or.inl ⟨z, if_pos z⟩
      · exact Or.inr ⟨z, if_neg z⟩⟩
  have e2 : ∀ x, x < 4 * n → lb' x = lb (ro b x) := fun x hx => by
    rw [h2 x hx]; unfold rvL ro
    rcases hb (x / 4) with ⟨z, w⟩ | ⟨z, w⟩
    · rw [if_pos ⟨by omega, z⟩, w]
    · rw [if_neg (fun q => z q.2), w]; exact congrArg lb (by omega)
  refine turn_ok (b := b) (T := fun l => rn (pm_R (pi_c f c n sg lb)) (er f l c) = k) M hs (fun j hj => ?_) (fun x hx => ?_) (fun x y hx hy => by rw [e2 x hx, e2 y hy]) (fun x hx => ?_)
  · rw [h1 j hj]; unfold rvS
    split
    · rcases M.2.1 j hj with z | z <;> rw [z] <;> decide
    · exact M.2.1 j hj
  · rw [e2 x hx]; exact M.2.2.1 _ ((ro_P _ n).1 x hx)
  · have hxn : x / 4 < n := by omega
    have r4 := ro_4 b x
    have rm := ro_m b x
    have hr := (ro_P b n).1 x hx
    have acr : ∀ y, y < 4 * n → y / 4 = x / 4 → (y % 2 = 0 → (rn (pm_R (pi_c f c n sg lb)) (er f (lb y) c) = k ↔ isL f c n sg lb k (x / 4))) ∧ (y % 2 = 1 → (rn (pm_R (pi_c f c n sg lb)) (er f (lb y) c) = k ↔ isU f c n sg lb k (x / 4))) := by
      intro y hy e
      constructor
      · intro h2
        unfold isL
        rcases (show y = 4 * (x / 4) ∨ y = 4 * (x / 4) + 2 by omega) with z | z
        · rw [z]
        · rw [← rn_acr M hS (show 4 * (x / 4) < 4 * n by omega), show na_across (4 * (x / 4)) = y by unfold na_across; omega]
      · intro h2
        unfold isU
        rcases (show y = 4 * (x / 4) + 1 ∨ y = 4 * (x / 4) + 3 by omega) with z | z
        · rw [z]
        · rw [← rn_acr M hS (show 4 * (x / 4) + 1 < 4 * n by omega), show na_across (4 * (x / 4) + 1) = y by unfold na_across; omega]
    obtain ⟨ac0, ac1⟩ := acr _ hr r4
    have hsg : (¬ (isL f c n sg lb k (x / 4) ↔ isU f c n sg lb k (x / 4)) ∧ sg' (x / 4) = -(sg (x / 4))) ∨ ((isL f c n sg lb k (x / 4) ↔ isU f c n sg lb k (x / 4)) ∧ sg' (x / 4) = sg (x / 4)) := by
      rw [h1 _ hxn]; unfold rvS
      by_cases z : isL f c n sg lb k (x / 4) ↔ isU f c n sg lb k (x / 4)
      · exact Or.inr ⟨z, if_neg (fun q => q.2 z)⟩
      · exact Or.inl ⟨z, if_pos ⟨hxn, z⟩⟩
    unfold na_out
    rw [r4, rm]
    have huo : (na_uo sg (x / 4) = 1 ∧ na_ui sg (x / 4) = 3) ∨ (na_uo sg (x / 4) = 3 ∧ na_ui sg (x / 4) = 1) := (uo_flip (s' := fun j => -(sg j)) (M.2.1 _ hxn) rfl).2
    by_cases hev : x % 2 = 0
    · have hT : rn (pm_R (pi_c f c n sg lb)) (er f (lb (ro b x)) c) = k ↔ isL f c n sg lb k (x / 4) := by
        refine ac0 ?_
        rcases hb (x / 4) with ⟨_, w⟩ | ⟨_, w⟩ <;> rw [w] at rm <;> omega
      have hu' : na_uo sg' (x / 4) = 1 ∨ na_uo sg' (x / 4) = 3 := by unfold na_uo; split <;> simp
      rw [hT]
      rcases hb (x / 4) with ⟨z, w⟩ | ⟨z, w⟩
      · rw [w]; simp only [z, not_true_eq_false, iff_false]; omega
      · rw [w]; simp only [z, not_false_eq_true, iff_true]; omega
    · have hT : rn (pm_R (pi_c f c n sg lb)) (er f (lb (ro b x)) c) = k ↔ isU f c n sg lb k (x / 4) := by
        refine ac1 ?_
        rcases hb (x / 4) with ⟨_, w⟩ | ⟨_, w⟩ <;> rw [w] at rm <;> omega
      rw [hT]
      rcases hsg with ⟨s1, s2⟩ | ⟨s1, s2⟩
      · obtain ⟨u1, _⟩ := uo_flip (M.2.1 _ hxn) s2
        rw [u1]
        rcases hb (x / 4) with ⟨z, w⟩ | ⟨z, w⟩
        · have hU : ¬ isU f c n sg lb k (x / 4) := fun q => s1 ⟨fun _ => q, fun _ => z⟩
          rw [w]; simp only [hU, not_false_eq_true, iff_true]; omega
        · have hU : isU f c n sg lb k (x / 4) := Classical.not_not.mp (fun q => s1 ⟨fun y => absurd y z, fun y => absurd y q⟩)
          rw [w]; simp only [hU, not_true_eq_false, iff_false]; omega
      · rw [uo_same s2]
        rcases hb (x / 4) with ⟨z, w⟩ | ⟨z, w⟩
        · have hU := s1.mp z
          rw [w]; simp only [hU, not_true_eq_false, iff_false]; omega
        · have hU : ¬ isU f c n sg lb k (x / 4) := fun q => z (s1.mpr q)
          rw [w]; simp only [hU, not_false_eq_true, iff_true]; omega
theorem oChange {D : gx_Dc} {m : gt_T} (h : RLc D m) (x : Int) : wp_Q (fun q => ∃ D', fX5_change D x = some (D', q.2) ∧ RLc D' q.1) (fX6_change m x) := by
  have h0 := h
  obtain ⟨n, p, c, ⟨hp1, hp2, hp3⟩, ⟨h5, hch, hsm⟩, hcir⟩ := h
  have M := ch_mr hch
  have hs := ch_SP hch
  have hrw := hch.1.1
  have hn := M.1
  have hh := sX4_has D.2.1.1 x
  rw [hrw.1] at hh
  by_cases hx : 0 ≤ x ∧ x < n
  · obtain ⟨k, rfl⟩ : ∃ k : Nat, x = (k : Int) := ⟨x.toNat, by omega⟩
    rw [if_pos hx] at hh
    have hk : k < n := by omega
    have hrm : rm_ok m n := (hsm.mr M).ok ⟨h5, rfl, rfl⟩
    obtain ⟨T', t1, t2, t3, t4⟩ := sX4_exchange hrw hk
    refine wp_mono (mChange hrm hk) (fun q ⟨q1, q2, q3, q4⟩ => ?_)
    obtain ⟨M', hs'⟩ := ex_ok M hs t3 t4
    have hd : dsm n (T'.2 0) (T'.2 1) (q.1.2 9) (q.1.2 10) := by
      have eui : na_ui (m.2 9) k = na_ui (D.2.1.1.2 0) k := by unfold na_ui; rw [hsm.1 k hk]
      refine ⟨fun j hj => ?_, fun y hy => ?_⟩
      · rw [t3 j, q3 j]; unfold flp; rw [hsm.1 j hj]
      · rw [t4 y, q4 y, eui]; unfold rot
        have hu := na_ui_lt (D.2.1.1.2 0) k
        split
        · exact hsm.2 _ (by omega)
        · exact hsm.2 y hy
    obtain ⟨r, r1, r2⟩ := RL_new (D := D) (m' := q.1) (row := T') (own := D.2.2) (n := n) (p := p) ⟨hp1, by rw [q2.1 1 (by decide)]; exact hp2, by rw [q2.2 3 (by decide), q2.2 4 (by decide)]; exact hp3⟩ ⟨by rw [t2]; exact hrw.1, hn, M'.2.1, M'.2.2.1⟩ (by rw [q2.1 5 (by decide)]; exact h5) hd M' hs' (by rw [q2.1 6 (by decide), q2.1 2 (by decide)]; exact hcir) (ed := D.2.1.2.1) (pc := D.2.1.2.2.1) (ar := D.2.1.2.2.2.1) (cm := D.2.1.2.2.2.2.1) (sf := D.2.1.2.2.2.2.2.1) (fc := D.2.1.2.2.2.2.2.2.1) (ow := D.2.1.2.2.2.2.2.2.2)
    refine ⟨(D.1, r.1, D.2.2), ?_, r2⟩
    unfold fX5_change
    exact wp_get (wp_eq hh (wp_ifn (by decide) (wp_eq t1 (wp_eq r1 (wp_ifp (by decide) (wp_some (by rw [q1])))))))
  · rw [if_neg hx] at hh
    have hc : fX5_change D x = some (D, 0) := by
      unfold fX5_change
      exact wp_get (wp_eq hh (wp_ifp rfl (wp_ifp (by decide) (wp_some rfl))))
    unfold fX6_change fX6_change_12
    rw [h5]
    exact wp_if (fun _ => wp_ifp (by decide) (wp_some ⟨D, hc, h0⟩)) (fun _ => wp_ifn (by omega) (wp_ifp (by decide) (wp_some ⟨D, hc, h0⟩)))
theorem oMirror {D : gx_Dc} {m : gt_T} (h : RLc D m) : wp_Q (fun m' => ∃ D', fX5_mirror D = some D' ∧ RLc D' m') (fX6_mirror m) := by
  obtain ⟨n, p, c, ⟨hp1, hp2, hp3⟩, ⟨h5, hch, hsm⟩, hcir⟩ := h
  have M := ch_mr hch
  have hs := ch_SP hch
  have hrw := hch.1.1
  have hn := M.1
  have hrm : rm_ok m n := (hsm.mr M).ok ⟨h5, rfl, rfl⟩
  obtain ⟨T', t1, t2, t3, t4⟩ := sX4_mirror hrw
  refine wp_mono (mMirror hrm) (fun q ⟨q2, q3, q4⟩ => ?_)
  obtain ⟨M', hs'⟩ := mi_ok M hs t3 t4
  have hd : dsm n (T'.2 0) (T'.2 1) (q.2 9) (q.2 10) := by
    refine ⟨fun j hj => ?_, fun y hy => ?_⟩
    · rw [t3 j, q3 j]; unfold mirS; rw [hsm.1 j hj]
    · have eui : na_ui (m.2 9) (y / 4) = na_ui (D.2.1.1.2 0) (y / 4) := by unfold na_ui; rw [hsm.1 (y / 4) (by omega)]
      rw [t4 y, q4 y]; unfold mirL
      rw [eui]
      split
      · exact hsm.2 _ (by omega)
      · exact hsm.2 y hy
  obtain ⟨r, r1, r2⟩ := RL_new (D := D) (m' := q) (row := T') (own := D.2.2) (n := n) (p := p) ⟨hp1, by rw [q2.1 1 (by decide)]; exact hp2, by rw [q2.2 3 (by decide), q2.2 4 (by decide)]; exact hp3⟩ ⟨by rw [t2]; exact hrw.1, hn, M'.2.1, M'.2.2.1⟩ (by rw [q2.1 5 (by decide)]; exact h5) hd M' hs' (by rw [q2.1 6 (by decide), q2.1 2 (by decide)]; exact hcir) (ed := D.2.1.2.1) (pc := D.2.1.2.2.1) (ar := D.2.1.2.2.2.1) (cm := D.2.1.2.2.2.2.1) (sf := D.2.1.2.2.2.2.2.1) (fc := D.2.1.2.2.2.2.2.2.1) (ow := D.2.1.2.2.2.2.2.2.2)
  refine ⟨(D.1, r.1, D.2.2), ?_, r2⟩
  unfold fX5_mirror
  exact wp_get (wp_eq t1 (wp_eq r1 (wp_some rfl)))
theorem oReverse {D : gx_Dc} {m : gt_T} (h : RLc D m) (x : Int) : wp_Q (fun q => ∃ D', fX5_reverse D x = some (D', q.2) ∧ RLc D' q.1) (fX6_reverse m x) := by
  have h0 := h
  obtain ⟨n, p, c, ⟨hp1, hp2, hp3⟩, ⟨h5, hch, hsm⟩, hcir⟩ := h
  have Mc := ch_mr hch
  have hs := ch_SP hch
  have hrw := hch.1.1
  have hn := Mc.1
  have M := hsm.mr Mc
  have hs2 := SP_dsm hsm Mc hs
  have hS := hch.1.2.2.2.1.c hsm.2
  obtain ⟨hV, -⟩ := cv_of hch hsm M hS
  have S : mst m n (m.2 9) (m.2 10) := ⟨h5, rfl, rfl⟩
  have hc := ed_c M hS
  have hz1 := pm_z_le c (pi_c (D.2.1.2.1.2 0) c n (m.2 9) (m.2 10))
  have hH := cHas M hS hV hcir.1 hcir.2.1 hcir.2.2.1 x
  by_cases hx : 0 ≤ x ∧ x < (pm_z c (pi_c (D.2.1.2.1.2 0) c n (m.2 9) (m.2 10)) : Int) + m.1 6
  · rw [if_pos hx] at hH
    obtain ⟨k, rfl⟩ : ∃ k : Nat, x = (k : Int) := ⟨x.toNat, by omega⟩
    obtain ⟨T', t1, t2, t2', t3, t4⟩ := cTurn M hS hV k
    refine wp_mono (mReverse M hS S ⟨hcir.2.1, by have := hcir.2.2.1; omega⟩ hx.2) (fun q ⟨q1, q2, q3, q4⟩ => ?_)
    have hd : dsm n (T'.1.2 0) (T'.1.2 1) (q.1.2 9) (q.1.2 10) := by
      refine ⟨fun j hj => ?_, fun y hy => ?_⟩
      · rw [t3 j, q3 j]; unfold rvS; rw [hsm.1 j hj]
      · rw [t4 y, q4 y]; unfold rvL
        split
        · exact hsm.2 _ (by omega)
        · exact hsm.2 y hy
    obtain ⟨M', hs'⟩ := rv_ok (k := k) M hS hs2 (sg' := q.1.2 9) (lb' := q.1.2 10) (fun x _ => q3 x) (fun x _ => q4 x)
    have M'' := hd.sy.mr M'
    obtain ⟨r, r1, r2⟩ := RL_new (D := D) (m' := q.1) (row := T'.1) (own := D.2.2) (n := n) (p := p) ⟨hp1, by rw [q2.1 1 (by decide)]; exact hp2, by rw [q2.2 3 (by decide), q2.2 4 (by decide)]; exact hp3⟩ ⟨by rw [t2']; exact hrw.1, hn, M''.2.1, M''.2.2.1⟩ (by rw [q2.1 5 (by decide)]; exact h5) hd M'' (SP_dsm hd.sy M' hs') (by rw [q2.1 6 (by decide), q2.1 2 (by decide)]; exact hcir) (ed := T'.2.1) (pc := T'.2.2.1) (ar := T'.2.2.2.1) (cm := T'.2.2.2.2.1) (sf := T'.2.2.2.2.2.1) (fc := T'.2.2.2.2.2.2.1) (ow := T'.2.2.2.2.2.2.2)
    refine ⟨(D.1, r.1, D.2.2), ?_, r2⟩
    unfold fX5_reverse
    exact wp_get (wp_eq hH (wp_ifn (by decide) (wp_eq t1 (wp_eq r1 (wp_ifp (by decide) (wp_some (by rw [q1])))))))
  · rw [if_neg hx] at hH
    have hcl : fX5_reverse D x = some (D, 0) := by
      unfold fX5_reverse
      exact wp_get (wp_eq hH (wp_ifp rfl (wp_ifp (by decide) (wp_some rfl))))
    have h6 := hcir.2.1
    have h60 := hcir.2.2.1
    unfold fX6_reverse fX6_reverse_21
    refine wp_bind (mComponents M hS S) (fun t1 ⟨hF, g⟩ => ?_)
    rw [g.2.2.1, hF.1 6 (by decide)]
    have hR := h0.F (hF.up (is' := SI) (js' := SA) (by decide) (by decide))
    exact wp_if (fun _ => wp_ifp (by decide) (wp_some ⟨D, hcl, hR⟩)) (fun _ => wp_ifp (by omega) (wp_ifn (by omega) (wp_ifp (by decide) (wp_some ⟨D, hcl, hR⟩))))
