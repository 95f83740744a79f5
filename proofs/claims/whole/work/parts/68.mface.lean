section MFC
variable {n c : Nat} {sg lb f : Nat → Int} {t : gt_T}
/-- a dart as face tells it -/
def sgd (f : Nat → Int) (d : Nat) : Int := if d % 2 = 0 then f (d / 2) else -f (d / 2)
theorem D_inj (hS : ed_S f c lb (4 * n)) {a b : Nat} (ha : a < 2 * c) (hb : b < 2 * c) (e : D_of f a = D_of f b) : a = b := by
  unfold D_of at e
  have h1 : f (a / 2) = f (b / 2) := by omega
  have h2 := hS.inj (show a / 2 < c by omega) (show b / 2 < c by omega) h1
  omega
theorem mFace (M : mr n sg lb) (hS : ed_S f c lb (4 * n)) (S : mst t n sg lb) {k : Nat} (hk : k < pm_z (2 * c) (pi_q f c n sg lb)) {x : Int} (hx : -1 ≤ x) : wp_Q (fun q => md_F [13, 20] [14, 22] t q.1 ∧ ∃ j p : Nat, j < 2 * c ∧ pm_L (pm_R (pi_q f c n sg lb)) j ∧ pm_c (pm_L (pm_R (pi_q f c n sg lb))) j = k ∧ pm_o (pi_q f c n sg lb) j p ∧ (x = -1 → q.2 = (p : Int)) ∧ (0 ≤ x → x < p → q.2 = sgd f (pm_it (pi_q f c n sg lb) x.toNat j)) ∧ ((p : Int) ≤ x → q.2 = 0)) (fX6_face t (k : Int) x) := by
  have hn := M.1
  have hc := ed_c M hS
  have hP := pqP M hS
  have E := pm_RE hP
  unfold fX6_face fX6_face_21
  refine wp_bind (mFaces M hS S) (fun t1 ⟨hF, g13, g14, g20, g22⟩ => ?_)
  have S1 := S.F hF (by decide) (by decide) (by decide)
  have hT : ∀ j, j < 2 * c → fX6_turn t1 (D_of f j) = some (D_of f (pi_q f c n sg lb j)) := fun j hj => mTurn M S1 hS hj
  generalize pi_q f c n sg lb = π at hk hP E g20 g22 hT ⊢
  rw [g20]
  refine wp_ifn (by omega) ?_
  refine wp_ifn (by omega) ?_
  refine wp_ifp (by omega) ?_
  obtain ⟨j, j1, j2, j3⟩ := pm_c_nth hk
  have hrj : rn (pm_R π) j = k := by unfold rn; rw [(pm_m_self E j1).mpr j2, j3]
  refine wp_loop (fun y => ∃ i : Nat, i ≤ j ∧ y.1 = t1 ∧ y.2.1 = (k : Int) ∧ y.2.2.1 = x ∧ y.2.2.2 = (i : Int)) (fun y => 200 - y.2.2.2.toNat) ?_ ⟨0, Nat.zero_le _, rfl, rfl, rfl, rfl⟩ (by rw [gt_fuel_eq]; omega)
  intro kk ⟨y1, y2, y3, y4⟩ ⟨i, hi, e1, e2, e3, e4⟩ ih
  simp only at e1 e2 e3 e4
  subst e1; subst e2; subst e3; subst e4
  unfold fX6_face_25
  simp only
  rw [Int.toNat_natCast, g22 i (by omega)]
  refine wp_ifp (by omega) ?_
  refine wp_if (fun c1 => ?_) (fun c1 => ?_)
  · have hij : i = j := by
      have h1 : pm_R π i j := (rn_iff E (by omega) j1).mp (by omega)
      rcases Nat.lt_or_ge i j with z | z
      · exact absurd (pm_R.sy hP (by omega) h1) (j2 i z)
      · omega
    subst hij
    have hp0 := f_pos M hS (show i / 2 < c by omega)
    rw [show Int.tdiv ((i : Nat) : Int) (2 : Int) = ((i / 2 : Nat) : Int) from na_td i 2, Int.toNat_natCast, g14 (i / 2) (by omega)]
    have eD : (2 : Int) * f (i / 2) + ((i : Nat) : Int) % 2 = D_of f i := by unfold D_of; omega
    rw [eD]
    have hb : 0 ≤ D_of f i ∧ D_of f i < 30000 := by rw [← eD]; omega
    refine wp_ifp (by omega) ?_
    obtain ⟨p, hpc, hp⟩ := pm_it_lo hP j1
    obtain ⟨p1, p2, p3⟩ := id hp
    have rest : ∀ there : Int, ((0 ≤ y3 ∧ y3 < 1 ∧ there = D_of f (pm_it π y3.toNat i)) ∨ (¬ (0 ≤ y3 ∧ y3 < 1) ∧ there = 0)) → wp_Q (fun q => md_F [13, 20] [14, 22] t q.1 ∧ ∃ j p : Nat, j < 2 * c ∧ pm_L (pm_R π) j ∧ pm_c (pm_L (pm_R π)) j = k ∧ pm_o π j p ∧ (y3 = -1 → q.2 = (p : Int)) ∧ (0 ≤ y3 → y3 < p → q.2 = sgd f (pm_it π y3.toNat j)) ∧ ((p : Int) ≤ y3 → q.2 = 0)) (fX6_face_70 y1 y3 (D_of f i) (1 : Int) there) := by
      intro there hth
      unfold fX6_face_70
      refine wp_eq (hT i j1) ?_
      refine wp_loopN (fun m z => ∃ q : Nat, 1 ≤ q ∧ q ≤ p ∧ z.1 = y1 ∧ z.2.1 = y3 ∧ z.2.2.1 = D_of f i ∧ z.2.2.2.1 = (q : Int) ∧ z.2.2.2.2.2 = D_of f (pm_it π q i) ∧ ((0 ≤ y3 ∧ y3 < q ∧ z.2.2.2.2.1 = D_of f (pm_it π y3.toNat i)) ∨ (¬ (0 ≤ y3 ∧ y3 < q) ∧ z.2.2.2.2.1 = 0)) ∧ q + m = 2 * c + 1) ?_ (m := 2 * c) ⟨1, Nat.le_refl 1, p1, rfl, rfl, rfl, rfl, rfl, hth, by omega⟩ (by rw [gt_fuel_eq]; omega)
      intro k2 m ⟨z1, z2, z3, z4, z5, z6⟩ ⟨q, q1, q2, d1, d2, d3, d4, d5, d6, d7⟩ ih2
      simp only at d1 d2 d3 d4 d5 d6
      subst d1; subst d2; subst d3; subst d4; subst d5
      have hlt := pm_it_lt hP j1 q
      unfold fX6_face_80 fX6_face_143 fX6_face_100
      simp only
      refine wp_if (fun c2 => ?_) (fun c2 => ?_)
      · have hq : pm_it π q i = i := D_inj hS hlt j1 c2
        have hqp : q = p := by
          rcases Nat.lt_or_ge q p with w | w
          · exact absurd hq (p3 q q1 w)
          · omega
        subst hqp
        refine wp_if (fun c3 => ?_) (fun c3 => wp_some ⟨hF, i, q, j1, j2, j3, hp, fun _ => rfl, fun w => by omega, fun w => by omega⟩)
        rcases d6 with ⟨_, w2, w3⟩ | ⟨w1, w2⟩
        · have hlt' := pm_it_lt hP j1 z2.toNat
          have hp1 := f_pos M hS (show pm_it π z2.toNat i / 2 < c by omega)
          have et : Int.tdiv z5 2 = f (pm_it π z2.toNat i / 2) := by
            rw [w3]; unfold D_of
            rw [Int.tdiv_eq_ediv_of_nonneg (by omega)]; omega
          have em : z5 % 2 = ((pm_it π z2.toNat i % 2 : Nat) : Int) := by rw [w3]; unfold D_of; omega
          have h0 : 0 ≤ z5 := by rw [w3]; unfold D_of; omega
          rw [et, em]
          refine wp_ifp h0 ?_
          refine wp_if (fun c4 => wp_ifp (by omega) (wp_some ⟨hF, i, q, j1, j2, j3, hp, fun w => by omega, fun _ _ => ?_, fun w => by omega⟩)) (fun c4 => wp_some ⟨hF, i, q, j1, j2, j3, hp, fun w => by omega, fun _ _ => ?_, fun w => by omega⟩)
          · unfold sgd; rw [if_neg (by omega)]
          · unfold sgd; rw [if_pos (by omega)]
        · subst w2
          refine wp_ifp (by decide) (wp_ifn (by decide) (wp_some ⟨hF, i, q, j1, j2, j3, hp, fun w => by omega, fun w w' => absurd ⟨w, w'⟩ w1, fun _ => rfl⟩))
      · have hqp : q ≠ p := fun w => c2 (by rw [w, p2])
        have hqN : q < 2 * c := by omega
        refine wp_if (fun c3 => wp_ifp (by omega) (wp_eq (hT _ hlt) ?_)) (fun c3 => wp_ifp (by omega) (wp_eq (hT _ hlt) ?_))
        · exact ih2 (m - 1) _ ⟨q + 1, by omega, by omega, rfl, rfl, rfl, by simp only; omega, rfl, Or.inl ⟨by omega, by omega, by simp only; rw [← c3, Int.toNat_natCast]⟩, by omega⟩ (by omega)
        · refine ih2 (m - 1) _ ⟨q + 1, by omega, by omega, rfl, rfl, rfl, by simp only; omega, rfl, ?_, by omega⟩ (by omega)
          rcases d6 with ⟨w1, w2, w3⟩ | ⟨w1, w2⟩
          · exact Or.inl ⟨w1, by omega, w3⟩
          · exact Or.inr ⟨by omega, w2⟩
    refine wp_if (fun c2 => rest _ (Or.inl ⟨by omega, by omega, ?_⟩)) (fun c2 => rest _ (Or.inr ⟨by omega, rfl⟩))
    rw [c2]; rfl
  · have hij : i ≠ j := fun z => c1 (by rw [z, hrj])
    refine wp_ifp (by omega) ?_
    exact ih _ ⟨i + 1, by omega, rfl, rfl, rfl, by simp only; omega⟩ (by simp only; omega)
end MFC
