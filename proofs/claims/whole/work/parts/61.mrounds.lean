/-! The reference: components, faces. -/
def mr (n : Nat) (sg lb : Nat → Int) : Prop := n ≤ 20 ∧ (∀ k, k < n → sg k = 1 ∨ sg k = -1) ∧ (∀ a, a < 4 * n → 1 ≤ lb a ∧ lb a ≤ 9999) ∧ dg_D n sg lb
def mst (t : gt_T) (n : Nat) (sg lb : Nat → Int) : Prop := t.1 5 = (n : Int) ∧ t.2 9 = sg ∧ t.2 10 = lb
theorem mst.F {t t' : gt_T} {n : Nat} {sg lb : Nat → Int} {is js : List Nat} (h : mst t n sg lb) (f : md_F is js t t') (h1 : 5 ∉ is) (h2 : 9 ∉ js) (h3 : 10 ∉ js) : mst t' n sg lb := ⟨by rw [f.1 5 h1]; exact h.1, by rw [f.2 9 h2]; exact h.2.1, by rw [f.2 10 h3]; exact h.2.2⟩
theorem mr.ok {n : Nat} {sg lb : Nat → Int} (M : mr n sg lb) {t : gt_T} (S : mst t n sg lb) : rm_ok t n := by
  obtain ⟨s1, s2, s3⟩ := S
  unfold rm_ok
  rw [s1, s2, s3]
  exact ⟨rfl, M.1, M.2.1, M.2.2.1⟩
section MR
variable {n : Nat} {sg lb : Nat → Int} {t : gt_T}
theorem mP1 (M : mr n sg lb) (S : mst t n sg lb) {a : Nat} (ha : a < 4 * n) : fX6_placeOf t (lb a) 1 = some (os sg lb (4 * n) (lb a) : Int) := by
  obtain ⟨s1, rfl, rfl⟩ := S
  exact sX6_placeOf1 (M.ok ⟨s1, rfl, rfl⟩) M.2.2.2 ha
theorem mP0 (M : mr n sg lb) (S : mst t n sg lb) {a : Nat} (ha : a < 4 * n) : fX6_placeOf t (lb a) 0 = some (is sg lb (4 * n) (lb a) : Int) := by
  obtain ⟨s1, rfl, rfl⟩ := S
  exact sX6_placeOf0 (M.ok ⟨s1, rfl, rfl⟩) M.2.2.2 ha
theorem mNx (M : mr n sg lb) (S : mst t n sg lb) {a : Nat} (ha : a < 4 * n) : fX6_next t (lb a) = some (lb (na_across (is sg lb (4 * n) (lb a)))) := by
  obtain ⟨s1, rfl, rfl⟩ := S
  exact sX6_next (M.ok ⟨s1, rfl, rfl⟩) M.2.2.2 ha
/-- the same by places in the list of labels -/
theorem fP1 {f : Nat → Int} {c i : Nat} (M : mr n sg lb) (S : mst t n sg lb) (hS : ed_S f c lb (4 * n)) (hi : i < c) : fX6_placeOf t (f i) 1 = some (os sg lb (4 * n) (f i) : Int) := by
  obtain ⟨a, a1, a2⟩ := hS.2.2.1 i hi
  rw [← a2]; exact mP1 M S a1
theorem fP0 {f : Nat → Int} {c i : Nat} (M : mr n sg lb) (S : mst t n sg lb) (hS : ed_S f c lb (4 * n)) (hi : i < c) : fX6_placeOf t (f i) 0 = some (is sg lb (4 * n) (f i) : Int) := by
  obtain ⟨a, a1, a2⟩ := hS.2.2.1 i hi
  rw [← a2]; exact mP0 M S a1
theorem fNx {f : Nat → Int} {c i : Nat} (M : mr n sg lb) (S : mst t n sg lb) (hS : ed_S f c lb (4 * n)) (hi : i < c) : fX6_next t (f i) = some (f (pi_of f c sg lb (4 * n) na_across i)) := by
  obtain ⟨a, a1, a2⟩ := hS.2.2.1 i hi
  rw [pi_f M.2.2.2 hS (fun a ha => na_across_lt ha) hi, ← a2]
  exact mNx M S a1
theorem fos {f : Nat → Int} {c i : Nat} (M : mr n sg lb) (hS : ed_S f c lb (4 * n)) (hi : i < c) : os sg lb (4 * n) (f i) < 4 * n ∧ lb (os sg lb (4 * n) (f i)) = f i ∧ na_out sg (os sg lb (4 * n) (f i)) := by
  obtain ⟨a, a1, a2⟩ := hS.2.2.1 i hi
  rw [← a2]; exact dg_os M.2.2.2 a1
theorem fis {f : Nat → Int} {c i : Nat} (M : mr n sg lb) (hS : ed_S f c lb (4 * n)) (hi : i < c) : is sg lb (4 * n) (f i) < 4 * n ∧ lb (is sg lb (4 * n) (f i)) = f i ∧ ¬ na_out sg (is sg lb (4 * n) (f i)) := by
  obtain ⟨a, a1, a2⟩ := hS.2.2.1 i hi
  rw [← a2]; exact dg_is M.2.2.2 a1
theorem piP {f : Nat → Int} {c : Nat} (M : mr n sg lb) (hS : ed_S f c lb (4 * n)) : pm_P c (pi_of f c sg lb (4 * n) na_across) := pi_P M.2.2.2 hS (fun a ha => na_across_lt ha) (fun a _ q => (na_across_out _ a).mpr q) (fun a b _ _ q => by rw [← na_across_2 a, q, na_across_2])
theorem ed_c {f : Nat → Int} {c : Nat} (M : mr n sg lb) (hS : ed_S f c lb (4 * n)) : c = 2 * n := by
  have := ed_twice hS (fun i hi => by
    obtain ⟨a, a1, a2⟩ := hS.2.2.1 i hi
    rw [← a2]; exact dg_occ M.2.2.2 a1)
  omega
/-- a place has the label of the list's place i -/
theorem er_iff {f : Nat → Int} {c a i : Nat} (hS : ed_S f c lb (4 * n)) (ha : a < 4 * n) (hi : i < c) : er f (lb a) c = i ↔ lb a = f i := by
  constructor
  · intro q; rw [← q, (er_lb hS ha).2]
  · intro q; rw [q, er_f hS hi]
theorem os_or_is {f : Nat → Int} {c a i : Nat} (M : mr n sg lb) (hS : ed_S f c lb (4 * n)) (ha : a < 4 * n) (hi : i < c) (e : lb a = f i) : a = os sg lb (4 * n) (f i) ∨ a = is sg lb (4 * n) (f i) := by
  by_cases z : na_out sg a
  · left; have := dg_os_o M.2.2.2 ha z; rw [e] at this; exact this.symm
  · right; have := dg_is_i M.2.2.2 ha z; rw [e] at this; exact this.symm
/-- components found -/
def md_cm (T : gt_T) (n c : Nat) (sg lb : Nat → Int) : Prop := T.1 13 = (c : Int) ∧ ed_S (T.2 14) c lb (4 * n) ∧ T.1 19 = (pm_z c (pi_of (T.2 14) c sg lb (4 * n) na_across) : Int) ∧ ∀ a j, a < 4 * n → pm_R (pi_of (T.2 14) c sg lb (4 * n) na_across) (er (T.2 14) (lb a) c) j → pm_L (pm_R (pi_of (T.2 14) c sg lb (4 * n) na_across)) j → T.2 21 a = (pm_c (pm_L (pm_R (pi_of (T.2 14) c sg lb (4 * n) na_across))) j : Int)
theorem sX6_components (M : mr n sg lb) (S : mst t n sg lb) : wp_Q (fun T' => md_F [13, 19] [14, 21] t T' ∧ ∃ c, md_cm T' n c sg lb) (fX6_components t) := by
  have hn := M.1
  unfold fX6_components
  refine wp_loop (fun x => ∃ m : Nat, m ≤ 80 ∧ x.2 = (m : Int) ∧ md_F [13, 19] [14, 21] t x.1 ∧ ∀ a, a < m → x.1.2 21 a = -1) (fun x => 200 - x.2.toNat) ?_ ⟨0, Nat.zero_le _, rfl, md_F.rf, fun a q => absurd q (Nat.not_lt_zero a)⟩ (by rw [gt_fuel_eq]; omega)
  intro k0 ⟨t0, x0⟩ ⟨m, hm, e1, hF0, g0⟩ ih0
  simp only at e1 hF0 g0
  subst e1
  unfold fX6_components_2
  simp only
  refine wp_if (fun c1 => ?_) (fun c1 => ?_)
  · have S1 := S.F (hF0.i (k := 19) (by decide) 0) (by decide) (by decide) (by decide)
    refine wp_bind (sX6_sort (M.ok S1)) (fun t1 ⟨hF1, c, g13, hS⟩ => ?_)
    have hF1' : md_F [13, 19] [14, 21] t t1 := (hF0.i (k := 19) (by decide) 0).tr (hF1.up (by decide) (by decide))
    rw [S1.2.2] at hS
    have hc := ed_c M hS
    have hπ := piP M hS
    have E := pm_RE hπ
    have h21 : t1.2 21 = t0.2 21 := hF1.2 21 (by decide)
    have h19 : t1.1 19 = 0 := by rw [hF1.1 19 (by decide)]; simp [va_up]
    -- the labels one by one
    refine wp_loop (fun x => ∃ i : Nat, i ≤ c ∧ x.2 = (i : Int) ∧ md_F [19] [21] t1 x.1 ∧ x.1.1 19 = (pm_c (pm_L (pm_R (pi_of (t1.2 14) c sg lb (4 * n) na_across))) i : Int) ∧ ∀ a j, a < 4 * n → pm_R (pi_of (t1.2 14) c sg lb (4 * n) na_across) (er (t1.2 14) (lb a) c) j → pm_L (pm_R (pi_of (t1.2 14) c sg lb (4 * n) na_across)) j → x.1.2 21 a = if j < i then (pm_c (pm_L (pm_R (pi_of (t1.2 14) c sg lb (4 * n) na_across))) j : Int) else -1) (fun x => 200 - x.2.toNat) ?_ ⟨0, Nat.zero_le _, rfl, md_F.rf, h19, fun a j ha _ _ => by rw [if_neg (Nat.not_lt_zero j)]; simp only; rw [h21]; exact g0 a (by omega)⟩ (by rw [gt_fuel_eq]; omega)
    intro k ⟨t2, x2⟩ ⟨i, hi, f1, hF2, g19, g21⟩ ih
    simp only at f1 hF2 g19 g21
    subst f1
    have S2 : mst t2 n sg lb := (S.F hF1' (by decide) (by decide) (by decide)).F hF2 (by decide) (by decide) (by decide)
    have e13 : t2.1 13 = (c : Int) := by rw [hF2.1 13 (by decide)]; exact g13
    have e14 : t2.2 14 = t1.2 14 := hF2.2 14 (by decide)
    unfold fX6_components_32
    simp only
    rw [e13]
    refine wp_if (fun c2 => wp_some ?_) (fun c2 => ?_)
    · have : i = c := by omega
      subst this
      refine ⟨hF1'.tr (hF2.up (by decide) (by decide)), i, e13, by rw [e14]; exact hS, by rw [e14]; exact g19, fun a j ha hr hl => ?_⟩
      rw [e14] at hr hl ⊢
      rw [g21 a j ha hr hl, if_pos (hr.lt hπ (er_lb hS ha).1)]
    · have hic : i < c := by omega
      obtain ⟨o1, o2, o3⟩ := fos M hS hic
      refine wp_ifp (by omega) ?_
      rw [Int.toNat_natCast, e14]
      refine wp_eq (fP1 M S2 hS hic) ?_
      refine wp_ifp (by omega) ?_
      rw [Int.toNat_natCast]
      have eo : er (t1.2 14) (lb (os sg lb (4 * n) (t1.2 14 i))) c = i := (er_iff hS o1 hic).mpr o2
      obtain ⟨j0, hj0, hr0, hl0⟩ := pm_least E hic
      have ev := g21 _ j0 o1 (by rw [eo]; exact hr0) hl0
      refine wp_if (fun c3 => ?_) (fun c3 => ?_)
      · -- marked already
        have hlt : j0 < i := by
          rcases Nat.lt_or_ge j0 i with q | q
          · exact q
          · rw [if_neg (by omega)] at ev; omega
        have hnL : ¬ pm_L (pm_R (pi_of (t1.2 14) c sg lb (4 * n) na_across)) i := fun hL => hL j0 hlt hr0
        have hcl := pm_c_le (pm_L (pm_R (pi_of (t1.2 14) c sg lb (4 * n) na_across))) i
        unfold fX6_components_66
        refine wp_loop (fun x => x = (t2, (i : Int), t1.2 14 i, (0 : Int))) (fun _ => 0) ?_ rfl (by rw [gt_fuel_eq]; omega)
        intro k2 x hx _
        subst hx
        unfold fX6_components_67 fX6_components_124 fX6_components_138
        simp only
        refine wp_ifp trivial ?_
        refine wp_ifp trivial ?_
        rw [g19]
        refine wp_ifp (by omega) ?_
        refine ih _ ⟨i + 1, by omega, by simp only; omega, hF2.i (by decide) _, ?_, fun a j ha hr hl => ?_⟩ (by simp only; omega)
        · simp only [va_up, ↓reduceIte]; rw [pm_c_n hnL]; omega
        · have hne : j ≠ i := fun e => hnL (e ▸ hl)
          rw [g21 a j ha hr hl]
          by_cases q : j < i
          · rw [if_pos q, if_pos (by omega)]
          · rw [if_neg q, if_neg (by omega)]
      · -- a new component: its edges are walked
        have hji : j0 = i := by
          rcases Nat.lt_or_ge j0 i with q | q
          · rw [if_pos q] at ev; omega
          · omega
        subst hji
        obtain ⟨p, hp1, hpN, hpm, hmin⟩ := pm_per hπ hic
        have hcl := pm_c_le (pm_L (pm_R (pi_of (t1.2 14) c sg lb (4 * n) na_across))) j0
        unfold fX6_components_66
        refine wp_loop (fun x => ∃ s : Nat, s ≤ p ∧ x.2.1 = (j0 : Int) ∧ x.2.2.1 = t1.2 14 (pm_it (pi_of (t1.2 14) c sg lb (4 * n) na_across) s j0) ∧ x.2.2.2 = 1 ∧ md_F [19] [21] t1 x.1 ∧ x.1.1 19 = (pm_c (pm_L (pm_R (pi_of (t1.2 14) c sg lb (4 * n) na_across))) j0 : Int) ∧ (∀ a, a < 4 * n → (∃ s', s' < s ∧ pm_it (pi_of (t1.2 14) c sg lb (4 * n) na_across) s' j0 = er (t1.2 14) (lb a) c) → x.1.2 21 a = (pm_c (pm_L (pm_R (pi_of (t1.2 14) c sg lb (4 * n) na_across))) j0 : Int)) ∧ ∀ a, a < 4 * n → ¬ (∃ s', s' < s ∧ pm_it (pi_of (t1.2 14) c sg lb (4 * n) na_across) s' j0 = er (t1.2 14) (lb a) c) → x.1.2 21 a = t2.2 21 a) (fun x => if 0 ≤ x.1.2 21 (os sg lb (4 * n) x.2.2.1) then 0 else 200 - pm_c (fun a => 0 ≤ x.1.2 21 a) 80) ?_ ⟨0, Nat.zero_le p, rfl, rfl, rfl, hF2, g19, fun a _ ⟨s', q, _⟩ => absurd q (Nat.not_lt_zero s'), fun a _ _ => rfl⟩ (by rw [gt_fuel_eq]; split <;> omega)
        intro k2 ⟨t3, x3, l3, is3⟩ ⟨s, hs, p1, p2, p3, hF3, q19, qy, qn⟩ ih2
        simp only at p1 p2 p3 hF3 q19 qy qn
        subst p1; subst p2; subst p3
        have hit := pm_it_lt hπ hic s
        have S3 : mst t3 n sg lb := (S.F hF1' (by decide) (by decide) (by decide)).F hF3 (by decide) (by decide) (by decide)
        obtain ⟨u1, u2, u3⟩ := fos M hS hit
        obtain ⟨v1, v2, v3⟩ := fis M hS hit
        have eu : er (t1.2 14) (lb (os sg lb (4 * n) (t1.2 14 (pm_it (pi_of (t1.2 14) c sg lb (4 * n) na_across) s j0)))) c = pm_it (pi_of (t1.2 14) c sg lb (4 * n) na_across) s j0 := (er_iff hS u1 hit).mpr u2
        unfold fX6_components_67
        simp only
        refine wp_ifn (by decide) ?_
        refine wp_eq (fP1 M S3 hS hit) ?_
        refine wp_ifp (by omega) ?_
        rw [Int.toNat_natCast]
        rcases Nat.lt_or_ge s p with hsp | hsp
        · -- one more edge
          have hnm : ¬ ∃ s', s' < s ∧ pm_it (pi_of (t1.2 14) c sg lb (4 * n) na_across) s' j0 = er (t1.2 14) (lb (os sg lb (4 * n) (t1.2 14 (pm_it (pi_of (t1.2 14) c sg lb (4 * n) na_across) s j0)))) c := fun ⟨s', z1, z2⟩ => by
            rw [eu] at z2
            have := pm_apart hπ hic hmin (by omega) hsp z2
            omega
          have hneg : t3.2 21 (os sg lb (4 * n) (t1.2 14 (pm_it (pi_of (t1.2 14) c sg lb (4 * n) na_across) s j0))) = -1 := by
            rw [qn _ u1 hnm, g21 _ j0 u1 (by rw [eu]; exact pm_R.sy hπ hic ⟨s, rfl⟩) hl0, if_neg (Nat.lt_irrefl _)]
          refine wp_ifn (by rw [hneg]; decide) ?_
          refine wp_eq (fP1 M S3 hS hit) ?_
          refine wp_ifp (by omega) ?_
          rw [Int.toNat_natCast]
          have S4 : mst (t3.1, va_up t3.2 21 (va_up (t3.2 21) (os sg lb (4 * n) (t1.2 14 (pm_it (pi_of (t1.2 14) c sg lb (4 * n) na_across) s j0))) (t3.1 19))) n sg lb := S3.F (md_F.rf.a (is := []) (js := [21]) (by decide) _) (by decide) (by decide) (by decide)
          refine wp_eq (fP0 M S4 hS hit) ?_
          refine wp_ifp (by omega) ?_
          rw [Int.toNat_natCast]
          have S5 := S4.F (md_F.rf.a (is := []) (js := [21]) (k := 21) (by decide) (va_up ((va_up t3.2 21 (va_up (t3.2 21) (os sg lb (4 * n) (t1.2 14 (pm_it (pi_of (t1.2 14) c sg lb (4 * n) na_across) s j0))) (t3.1 19))) 21) (is sg lb (4 * n) (t1.2 14 (pm_it (pi_of (t1.2 14) c sg lb (4 * n) na_across) s j0))) (t3.1 19))) (by decide) (by decide) (by decide)
          refine wp_eq (fNx M S5 hS hit) ?_
          have new21 : ∀ a, (va_up (va_up t3.2 21 (va_up (t3.2 21) (os sg lb (4 * n) (t1.2 14 (pm_it (pi_of (t1.2 14) c sg lb (4 * n) na_across) s j0))) (t3.1 19))) 21 (va_up ((va_up t3.2 21 (va_up (t3.2 21) (os sg lb (4 * n) (t1.2 14 (pm_it (pi_of (t1.2 14) c sg lb (4 * n) na_across) s j0))) (t3.1 19))) 21) (is sg lb (4 * n) (t1.2 14 (pm_it (pi_of (t1.2 14) c sg lb (4 * n) na_across) s j0))) (t3.1 19))) 21 a = if a = is sg lb (4 * n) (t1.2 14 (pm_it (pi_of (t1.2 14) c sg lb (4 * n) na_across) s j0)) then (t3.1 19) else if a = os sg lb (4 * n) (t1.2 14 (pm_it (pi_of (t1.2 14) c sg lb (4 * n) na_across) s j0)) then (t3.1 19) else t3.2 21 a := by
            intro a
            simp only [va_up, ↓reduceIte]
          have hcnt := pm_c_le (fun a => 0 ≤ t3.2 21 a) 80
          refine ih2 _ ⟨s + 1, hsp, rfl, rfl, rfl, (hF3.a (by decide) _).a (by decide) _, q19, fun a ha ⟨s', z1, z2⟩ => ?_, fun a ha hna => ?_⟩ ?_
          · simp only
            rw [new21 a]
            by_cases w1 : a = is sg lb (4 * n) (t1.2 14 (pm_it (pi_of (t1.2 14) c sg lb (4 * n) na_across) s j0))
            · rw [if_pos w1, q19]
            · rw [if_neg w1]
              by_cases w2 : a = os sg lb (4 * n) (t1.2 14 (pm_it (pi_of (t1.2 14) c sg lb (4 * n) na_across) s j0))
              · rw [if_pos w2, q19]
              · rw [if_neg w2]
                refine qy a ha ⟨s', ?_, z2⟩
                rcases Nat.lt_or_ge s' s with w | w
                · exact w
                · exfalso
                  rw [show s' = s by omega] at z2
                  rcases os_or_is M hS ha hit ((er_iff hS ha hit).mp z2.symm) with y | y
                  · exact w2 y
                  · exact w1 y
          · simp only
            rw [new21 a]
            have w1 : a ≠ is sg lb (4 * n) (t1.2 14 (pm_it (pi_of (t1.2 14) c sg lb (4 * n) na_across) s j0)) := fun e => hna ⟨s, by omega, ((er_iff hS ha hit).mpr (by rw [e]; exact v2)).symm⟩
            have w2 : a ≠ os sg lb (4 * n) (t1.2 14 (pm_it (pi_of (t1.2 14) c sg lb (4 * n) na_across) s j0)) := fun e => hna ⟨s, by omega, ((er_iff hS ha hit).mpr (by rw [e]; exact u2)).symm⟩
            rw [if_neg w1, if_neg w2]
            exact qn a ha (fun ⟨s', z1, z2⟩ => hna ⟨s', by omega, z2⟩)
          · -- more places are marked
            simp only
            have hcur : (if 0 ≤ t3.2 21 (os sg lb (4 * n) (t1.2 14 (pm_it (pi_of (t1.2 14) c sg lb (4 * n) na_across) s j0))) then 0 else 200 - pm_c (fun a => 0 ≤ t3.2 21 a) 80) = 200 - pm_c (fun a => 0 ≤ t3.2 21 a) 80 := if_neg (by rw [hneg]; decide)
            rw [hcur]
            have grow : pm_c (fun a => 0 ≤ t3.2 21 a) 80 < pm_c (fun a => 0 ≤ (va_up (va_up t3.2 21 (va_up (t3.2 21) (os sg lb (4 * n) (t1.2 14 (pm_it (pi_of (t1.2 14) c sg lb (4 * n) na_across) s j0))) (t3.1 19))) 21 (va_up ((va_up t3.2 21 (va_up (t3.2 21) (os sg lb (4 * n) (t1.2 14 (pm_it (pi_of (t1.2 14) c sg lb (4 * n) na_across) s j0))) (t3.1 19))) 21) (is sg lb (4 * n) (t1.2 14 (pm_it (pi_of (t1.2 14) c sg lb (4 * n) na_across) s j0))) (t3.1 19))) 21 a) 80 := by
              have h1 : pm_c (fun a => 0 ≤ t3.2 21 a ∨ a = os sg lb (4 * n) (t1.2 14 (pm_it (pi_of (t1.2 14) c sg lb (4 * n) na_across) s j0))) 80 = pm_c (fun a => 0 ≤ t3.2 21 a) 80 + 1 := pm_c_one (a := os sg lb (4 * n) (t1.2 14 (pm_it (pi_of (t1.2 14) c sg lb (4 * n) na_across) s j0))) (by omega) (fun a _ hne => ⟨fun q => q.resolve_right hne, Or.inl⟩) (Or.inr rfl) (by rw [hneg]; decide)
              have h2 : pm_c (fun a => 0 ≤ t3.2 21 a ∨ a = os sg lb (4 * n) (t1.2 14 (pm_it (pi_of (t1.2 14) c sg lb (4 * n) na_across) s j0))) 80 ≤ pm_c (fun a => 0 ≤ (va_up (va_up t3.2 21 (va_up (t3.2 21) (os sg lb (4 * n) (t1.2 14 (pm_it (pi_of (t1.2 14) c sg lb (4 * n) na_across) s j0))) (t3.1 19))) 21 (va_up ((va_up t3.2 21 (va_up (t3.2 21) (os sg lb (4 * n) (t1.2 14 (pm_it (pi_of (t1.2 14) c sg lb (4 * n) na_across) s j0))) (t3.1 19))) 21) (is sg lb (4 * n) (t1.2 14 (pm_it (pi_of (t1.2 14) c sg lb (4 * n) na_across) s j0))) (t3.1 19))) 21 a) 80 := by
                refine pm_c_sub (fun a _ q => ?_)
                show 0 ≤ _
                rw [new21 a]
                split
                · omega
                · split
                  · omega
                  · rcases q with q | q
                    · exact q
                    · next w => exact absurd q w
              omega
            have hle := pm_c_le (fun a => 0 ≤ (va_up (va_up t3.2 21 (va_up (t3.2 21) (os sg lb (4 * n) (t1.2 14 (pm_it (pi_of (t1.2 14) c sg lb (4 * n) na_across) s j0))) (t3.1 19))) 21 (va_up ((va_up t3.2 21 (va_up (t3.2 21) (os sg lb (4 * n) (t1.2 14 (pm_it (pi_of (t1.2 14) c sg lb (4 * n) na_across) s j0))) (t3.1 19))) 21) (is sg lb (4 * n) (t1.2 14 (pm_it (pi_of (t1.2 14) c sg lb (4 * n) na_across) s j0))) (t3.1 19))) 21 a) 80
            split <;> omega
        · -- the round is closed
          have hsp2 : s = p := by omega
          have hpos : 0 ≤ t3.2 21 (os sg lb (4 * n) (t1.2 14 (pm_it (pi_of (t1.2 14) c sg lb (4 * n) na_across) s j0))) := by
            rw [qy _ u1 ⟨0, by omega, by rw [eu, hsp2, hpm]; rfl⟩]
            omega
          refine wp_ifp hpos ?_
          unfold fX6_components_124 fX6_components_138
          refine wp_ifn (by decide) ?_
          rw [q19]
          refine wp_ifp (by omega) ?_
          refine ih _ ⟨j0 + 1, by omega, by simp only; omega, hF3.i (by decide) _, ?_, fun a j ha hr hl => ?_⟩ (by simp only; omega)
          · simp only [va_up, ↓reduceIte]; rw [pm_c_y hl0]; rfl
          · have hea := (er_lb hS ha).1
            have horb : (∃ s', s' < s ∧ pm_it (pi_of (t1.2 14) c sg lb (4 * n) na_across) s' j0 = er (t1.2 14) (lb a) c) ↔ j = j0 := by
              constructor
              · rintro ⟨s', _, z⟩
                exact pm_least_eq E hea (hr.lt hπ hea) hic hr (pm_R.sy hπ hic ⟨s', z⟩) hl hl0
              · rintro rfl
                obtain ⟨s', es⟩ := pm_R.sy hπ hea hr
                exact ⟨s' % p, by rw [hsp2]; exact Nat.mod_lt _ hp1, by rw [← pm_it_mod hpm]; exact es⟩
            by_cases q : j = j0
            · rw [qy a ha (horb.mpr q), if_pos (by omega), q]
            · rw [qn a ha (fun z => q (horb.mp z)), g21 a j ha hr hl]
              by_cases q2 : j < j0
              · rw [if_pos q2, if_pos (by omega)]
              · rw [if_neg q2, if_neg (by omega)]
  · refine wp_ifp (by omega) ?_
    rw [Int.toNat_natCast]
    refine ih0 _ ⟨m + 1, by omega, by simp only; omega, hF0.a (by decide) _, fun a ha => ?_⟩ (by simp only; omega)
    simp only [va_up, ↓reduceIte]
    by_cases q : a = m
    · rw [if_pos q]
    · rw [if_neg q]; exact g0 a (by omega)
end MR
