/-! The reference: arcs, Seifert's circles, the darts of a face. -/
theorem wp_loopN {α β : Type} {b : (α → Option β) → α → Option β} {P : β → Prop} (I : Nat → α → Prop) (step : ∀ k m a, I m a → (∀ m' a', I m' a' → m' < m → wp_Q P (k a')) → wp_Q P (b k a)) {n m : Nat} {a : α} (h : I m a) (hn : m < n) : wp_Q P (gt_loop b n a) := by
  induction n generalizing a m with
  | zero => omega
  | succ n ih => exact step (gt_loop b n) m a h (fun m' a' h1 h2 => ih h1 (by omega))
section MA
variable {n c : Nat} {sg lb f : Nat → Int} {t : gt_T}
def ar_u (n : Nat) (f sg lb : Nat → Int) (e : Nat) : Prop := is sg lb (4 * n) (f e) % 2 = 1
theorem ar_bk (M : mr n sg lb) (hS : ed_S f c lb (4 * n)) {j : Nat} (hj : j < c) : ∃ j', j' < c ∧ lb (na_across (os sg lb (4 * n) (f j))) = f j' ∧ pi_c f c n sg lb j' = j ∧ (ar_u n f sg lb j' ↔ os sg lb (4 * n) (f j) % 2 = 1) := by
  obtain ⟨o1, o2, o3⟩ := fos M hS hj
  have h1 := na_across_lt o1
  obtain ⟨e1, e2⟩ := er_lb hS h1
  have hno : ¬ na_out sg (na_across (os sg lb (4 * n) (f j))) := fun q => (na_across_out sg _).mp q o3
  have hi := dg_is_i M.2.2.2 h1 hno
  refine ⟨_, e1, e2.symm, ?_, ?_⟩
  · unfold pi_c pi_of
    rw [e2, hi, na_across_2, o2, er_f hS hj]
  · unfold ar_u
    rw [e2, hi]
    unfold na_across
    omega
theorem ar_st {e : Nat} (he : e < c) (hu : ar_u n f sg lb e) : ar_r f c n sg lb e (pi_c f c n sg lb e) := by
  intro P hP
  have := hP e he
  unfold ar_B at this
  rw [if_neg (by unfold ar_u at hu; omega)] at this
  exact this
theorem ar_cl {P : Nat → Prop} (hP : ∀ e, e < c → ar_u n f sg lb e → (P e ↔ P (pi_c f c n sg lb e))) {i j : Nat} (h : ar_r f c n sg lb i j) : P i ↔ P j := by
  refine h P (fun e he => ?_)
  unfold ar_B
  by_cases z : is sg lb (4 * n) (f e) % 2 = 0
  · rw [if_pos z]
  · rw [if_neg z]; exact hP e he (by unfold ar_u; omega)
theorem ar_fin (M : mr n sg lb) (hS : ed_S f c lb (4 * n)) {i0 j0 s q v : Nat} (hj0 : j0 < c) (h1 : pm_it (pi_c f c n sg lb) s j0 = i0) (h2 : ∀ x, x < s → ar_u n f sg lb (pm_it (pi_c f c n sg lb) x j0)) (h3 : os sg lb (4 * n) (f j0) % 2 = 0 ∨ (j0 = i0 ∧ 1 ≤ s)) (h4 : ∀ x, x < q → ar_u n f sg lb (pm_it (pi_c f c n sg lb) x j0)) (h5 : ¬ ar_u n f sg lb (pm_it (pi_c f c n sg lb) q j0) ∨ pm_it (pi_c f c n sg lb) (q + 1) j0 = j0) (h6 : ∃ x, x ≤ q ∧ v = pm_it (pi_c f c n sg lb) x j0) (h7 : ∀ x, x ≤ q → v ≤ pm_it (pi_c f c n sg lb) x j0) : pm_m (ar_r f c n sg lb) i0 = v := by
  have hP := pcP M hS
  have E : pm_E c (ar_r f c n sg lb) := cl_E c c _ _
  have hlt := fun x => pm_it_lt hP hj0 x
  have way : ∀ x, (∀ y, y < x → ar_u n f sg lb (pm_it (pi_c f c n sg lb) y j0)) → ar_r f c n sg lb j0 (pm_it (pi_c f c n sg lb) x j0) := by
    intro x
    induction x with
    | zero => intro _; exact E.1 j0 hj0
    | succ x ih =>
      intro hx
      exact E.2.2 _ _ _ hj0 (hlt x) (hlt (x + 1)) (ih (fun y hy => hx y (by omega))) (ar_st (hlt x) (hx x (by omega)))
  have hV : ∀ e, e < c → ar_u n f sg lb e → ((∃ x, x ≤ q ∧ e = pm_it (pi_c f c n sg lb) x j0) ↔ ∃ x, x ≤ q ∧ pi_c f c n sg lb e = pm_it (pi_c f c n sg lb) x j0) := by
    intro e he hu
    constructor
    · rintro ⟨x, x1, x2⟩
      by_cases z : x = q
      · subst z
        rcases h5 with h5 | h5
        · rw [x2] at hu; exact absurd hu h5
        · exact ⟨0, Nat.zero_le _, by rw [x2]; exact h5⟩
      · exact ⟨x + 1, by omega, by rw [x2]; rfl⟩
    · rintro ⟨x, x1, x2⟩
      cases x with
      | succ x => exact ⟨x, by omega, hP.2 _ _ he (hlt x) x2⟩
      | zero =>
        have x2' : pi_c f c n sg lb e = j0 := x2
        obtain ⟨j', b1, _, b3, b4⟩ := ar_bk M hS hj0
        have ee : e = j' := hP.2 _ _ he b1 (by rw [x2', b3])
        rcases h3 with h3 | ⟨h3, h3'⟩
        · rw [ee, b4] at hu; omega
        · have all : ∀ x, ar_u n f sg lb (pm_it (pi_c f c n sg lb) x j0) := fun x => by
            rw [pm_it_mod (by rw [h1, h3]) x]
            exact h2 _ (Nat.mod_lt _ (by omega))
          rcases h5 with h5 | h5
          · exact absurd (all q) h5
          · exact ⟨q, Nat.le_refl q, hP.2 _ _ he (hlt q) (by rw [x2']; exact h5.symm)⟩
  obtain ⟨x, x1, x2⟩ := h6
  have rv : ar_r f c n sg lb j0 v := by rw [x2]; exact way x (fun y hy => h4 y (by omega))
  have ri : ar_r f c n sg lb j0 i0 := by rw [← h1]; exact way s h2
  have hv : v < c := by rw [x2]; exact hlt x
  have hi0 : i0 < c := by rw [← h1]; exact hlt s
  refine pm_m_eq E hi0 hv (E.2.2 _ _ _ hi0 hj0 hv (E.2.1 _ _ hj0 hi0 ri) rv) (fun j hj hr => ?_)
  obtain ⟨y, y1, y2⟩ := (ar_cl (P := fun e => ∃ x, x ≤ q ∧ e = pm_it (pi_c f c n sg lb) x j0) hV hr).mp ⟨x, x1, x2⟩
  have := h7 y y1
  omega
theorem f_lt (hS : ed_S f c lb (4 * n)) {i j : Nat} (hi : i < c) (hj : j < c) : f i < f j ↔ i < j := by
  constructor
  · intro h
    rcases Nat.lt_trichotomy i j with z | z | z
    · exact z
    · rw [z] at h; omega
    · have := hS.2.1 j i z hi; omega
  · intro h; exact hS.2.1 i j h hj
theorem mArcOf (M : mr n sg lb) (hS : ed_S f c lb (4 * n)) (S : mst t n sg lb) {i0 : Nat} (hi : i0 < c) : fX6_arcOf t (f i0) = some (f (pm_m (ar_r f c n sg lb) i0)) := by
  have hn := M.1
  have hc := ed_c M hS
  have hP := pcP M hS
  unfold fX6_arcOf
  refine wp_get ?_
  refine wp_eq (fP1 M S hS hi) ?_
  refine wp_eq (sX6_isUpper _) ?_
  refine wp_loopN (fun m x => x.1 = f i0 ∧ ∃ s j : Nat, j < c ∧ x.2.1 = f j ∧ pm_it (pi_c f c n sg lb) s j = i0 ∧ (∀ y, y < s → ar_u n f sg lb (pm_it (pi_c f c n sg lb) y j)) ∧ ((x.2.2 = 1 ∧ os sg lb (4 * n) (f j) % 2 = 1 ∧ (∀ y, y < s → pm_it (pi_c f c n sg lb) y j ≠ i0) ∧ s + m = c + 1) ∨ (x.2.2 = 0 ∧ (os sg lb (4 * n) (f j) % 2 = 0 ∨ (j = i0 ∧ 1 ≤ s))))) ?_ (m := c + 1) ⟨rfl, 0, i0, hi, rfl, rfl, fun y hy => absurd hy (Nat.not_lt_zero y), ?_⟩ (by rw [gt_fuel_eq]; omega)
  · intro kk m ⟨x1, x2, x3⟩ ⟨e1, s, j, hj, e2, h1, h2, h3⟩ ih
    simp only at e1 e2 h3
    subst e1; subst e2
    unfold fX6_arcOf_12 fX6_arcOf_52 fX6_arcOf_53
    simp only
    refine wp_if (fun c1 => ?_) (fun c1 => ?_)
    · have h3' : os sg lb (4 * n) (f j) % 2 = 0 ∨ (j = i0 ∧ 1 ≤ s) := by
        rcases h3 with ⟨z, _⟩ | ⟨_, z⟩
        · omega
        · exact z
      obtain ⟨p, hpc, p1, p2, p3⟩ := pm_it_lo hP hj
      refine wp_loopN (fun m x => ∃ q v : Nat, x.1 = f j ∧ x.2.2 = f (pm_it (pi_c f c n sg lb) q j) ∧ x.2.1 = f v ∧ v < c ∧ (∀ y, y < q → ar_u n f sg lb (pm_it (pi_c f c n sg lb) y j)) ∧ (∀ y, 1 ≤ y → y ≤ q → pm_it (pi_c f c n sg lb) y j ≠ j) ∧ (∃ y, y ≤ q ∧ v = pm_it (pi_c f c n sg lb) y j) ∧ (∀ y, y ≤ q → v ≤ pm_it (pi_c f c n sg lb) y j) ∧ q + m = c) ?_ (m := c) ⟨0, j, rfl, rfl, rfl, hj, fun y hy => absurd hy (Nat.not_lt_zero y), fun y a b => by omega, ⟨0, Nat.le_refl 0, rfl⟩, fun y hy => by rw [show y = 0 by omega]; exact Nat.le_refl _, by omega⟩ (by rw [gt_fuel_eq]; omega)
      intro k2 m2 ⟨y1, y2, y3⟩ ⟨q, v, g1, g2, g3, hv, g4, g5, g6, g7, g8⟩ ih2
      simp only at g1 g2 g3
      subst g1; subst g2; subst g3
      have hlt := pm_it_lt hP hj q
      have hqp : q < p := by
        rcases Nat.lt_or_ge q p with z | z
        · exact z
        · exact absurd p2 (g5 p p1 z)
      unfold fX6_arcOf_63 fX6_arcOf_113 fX6_arcOf_108
      simp only
      refine wp_eq (fP0 M S hS hlt) ?_
      refine wp_eq (sX6_isUpper _) ?_
      refine wp_if (fun c2 => wp_some ?_) (fun c2 => ?_)
      · rw [ar_fin M hS hj h1 h2 h3' g4 (Or.inl (fun z => ?_)) g6 g7]
        unfold ar_u at z
        split at c2 <;> omega
      · have hu : ar_u n f sg lb (pm_it (pi_c f c n sg lb) q j) := by
          unfold ar_u
          split at c2 <;> omega
        have hl1 := pm_it_lt hP hj (q + 1)
        refine wp_eq (fNx M S hS hlt) ?_
        refine wp_if (fun c3 => wp_some ?_) (fun c3 => ?_)
        · rw [ar_fin M hS hj h1 h2 h3' g4 (Or.inr (hS.inj hl1 hj c3)) g6 g7]
        · refine wp_eq (fNx M S hS hlt) ?_
          have g4' : ∀ y, y < q + 1 → ar_u n f sg lb (pm_it (pi_c f c n sg lb) y j) := fun y hy => by
            by_cases z : y = q
            · rw [z]; exact hu
            · exact g4 y (by omega)
          have g5' : ∀ y, 1 ≤ y → y ≤ q + 1 → pm_it (pi_c f c n sg lb) y j ≠ j := fun y a b => by
            by_cases z : y = q + 1
            · rw [z]; exact fun w => c3 (by show f (pm_it (pi_c f c n sg lb) (q + 1) j) = f j; rw [w])
            · exact g5 y a (by omega)
          have eN : pi_of f c sg lb (4 * n) na_across (pm_it (pi_c f c n sg lb) q j) = pm_it (pi_c f c n sg lb) (q + 1) j := rfl
          rw [eN]
          refine wp_if (fun c4 => ?_) (fun c4 => ?_)
          · have hvle : v ≤ pm_it (pi_c f c n sg lb) (q + 1) j := by
              have := (f_lt hS hl1 hv); omega
            refine ih2 (m2 - 1) _ ⟨q + 1, v, rfl, rfl, rfl, hv, g4', g5', ?_, ?_, by omega⟩ (by omega)
            · obtain ⟨y, a, b⟩ := g6; exact ⟨y, by omega, b⟩
            · intro y hy
              by_cases z : y = q + 1
              · rw [z]; exact hvle
              · exact g7 y (by omega)
          · have hvlt : pm_it (pi_c f c n sg lb) (q + 1) j < v := (f_lt hS hl1 hv).mp (by omega)
            refine ih2 (m2 - 1) _ ⟨q + 1, _, rfl, rfl, rfl, hl1, g4', g5', ⟨q + 1, Nat.le_refl _, rfl⟩, ?_, by omega⟩ (by omega)
            intro y hy
            by_cases z : y = q + 1
            · rw [z]; exact Nat.le_refl _
            · have := g7 y (by omega); omega
    · obtain ⟨hx3, hod, hne, hm⟩ : x3 = 1 ∧ os sg lb (4 * n) (f j) % 2 = 1 ∧ (∀ y, y < s → pm_it (pi_c f c n sg lb) y j ≠ i0) ∧ s + m = c + 1 := by
        rcases h3 with z | ⟨z, _⟩
        · exact z
        · omega
      obtain ⟨p, hpc, p1, p2, p3⟩ := pm_it_lo hP hj
      have hsp : s < p := by
        rcases Nat.lt_or_ge s p with z | z
        · exact z
        · have : s % p < p := Nat.mod_lt _ (by omega)
          exact absurd (by rw [← pm_it_mod p2]; exact h1) (hne (s % p) (by omega))
      obtain ⟨j', b1, b2, b3, b4⟩ := ar_bk M hS hj
      have o1 := (fos M hS hj).1
      have h1' : pm_it (pi_c f c n sg lb) (s + 1) j' = i0 := by rw [pm_it_f, b3]; exact h1
      have h2' : ∀ y, y < s + 1 → ar_u n f sg lb (pm_it (pi_c f c n sg lb) y j') := fun y hy => by
        cases y with
        | zero => exact b4.mpr hod
        | succ y => rw [pm_it_f, b3]; exact h2 y (by omega)
      have o2 := na_across_lt o1
      refine wp_eq (fP1 M S hS hj) ?_
      refine wp_eq (sX6_across (by omega)) ?_
      refine wp_ifp (by omega) ?_
      rw [Int.toNat_natCast, S.2.2, b2]
      refine wp_if (fun c2 => ?_) (fun c2 => ?_)
      · exact ih 0 _ ⟨rfl, s + 1, j', b1, rfl, h1', h2', Or.inr ⟨rfl, Or.inr ⟨hS.inj b1 hi c2, by omega⟩⟩⟩ (by omega)
      · refine wp_eq (fP1 M S hS b1) ?_
        refine wp_eq (sX6_isUpper _) ?_
        refine wp_if (fun c3 => ?_) (fun c3 => ?_)
        · exact ih 0 _ ⟨rfl, s + 1, j', b1, rfl, h1', h2', Or.inr ⟨rfl, Or.inl (by split at c3 <;> omega)⟩⟩ (by omega)
        · refine ih (m - 1) _ ⟨rfl, s + 1, j', b1, rfl, h1', h2', Or.inl ⟨rfl, by split at c3 <;> omega, fun y hy => ?_, by omega⟩⟩ (by omega)
          cases y with
          | zero => exact fun z => c2 (by show f j' = f i0; rw [← z]; rfl)
          | succ y => rw [pm_it_f, b3]; exact hne y (by omega)
  · by_cases z : os sg lb (4 * n) (f i0) % 2 = 0
    · exact Or.inr ⟨by simp only [z, ↓reduceIte], Or.inl z⟩
    · exact Or.inl ⟨by simp only [z, ↓reduceIte], by omega, fun y hy => absurd hy (Nat.not_lt_zero y), by omega⟩
theorem mSort (hS : ed_S f c lb (4 * n)) (h : rm_ok t n) (e : t.2 10 = lb) : wp_Q (fun T' => md_F [13] [14] t T' ∧ T'.1 13 = (c : Int) ∧ ∀ i, i < c → T'.2 14 i = f i) (fX6_sort t) := by
  refine wp_mono (sX6_sort h) (fun T' ⟨hF, c', g13, hS'⟩ => ?_)
  rw [e] at hS'
  obtain ⟨a, b⟩ := hS'.uniq hS
  subst a
  exact ⟨hF, g13, b⟩
theorem mArcs (M : mr n sg lb) (hS : ed_S f c lb (4 * n)) (S : mst t n sg lb) (h6 : 0 ≤ t.1 6 ∧ t.1 6 ≤ 100) : wp_Q (fun q => md_F [13] [14] t q.1 ∧ q.2 = t.1 6 + (pm_n c (ar_r f c n sg lb) : Int)) (fX6_arcs t) := by
  have hn := M.1
  have hc := ed_c M hS
  have E : pm_E c (ar_r f c n sg lb) := cl_E c c _ _
  unfold fX6_arcs
  refine wp_bind (mSort hS (M.ok S) S.2.2) (fun t1 ⟨hF, g13, g14⟩ => ?_)
  have S1 := S.F hF (by decide) (by decide) (by decide)
  refine wp_loop (fun x => ∃ i : Nat, i ≤ c ∧ x.1 = t1 ∧ x.2.2 = (i : Int) ∧ x.2.1 = t.1 6 + (pm_c (pm_L (ar_r f c n sg lb)) i : Int)) (fun x => 200 - x.2.2.toNat) ?_ ⟨0, Nat.zero_le _, rfl, rfl, by show t.1 6 = t.1 6 + ((0 : Nat) : Int); omega⟩ (by rw [gt_fuel_eq]; omega)
  intro kk ⟨x1, x3, x4⟩ ⟨i, hi, e1, e3, e4⟩ ih
  simp only at e1 e3 e4
  subst e1; subst e3; subst e4
  have hci := pm_c_le (pm_L (ar_r f c n sg lb)) i
  unfold fX6_arcs_11 fX6_arcs_44
  simp only
  rw [g13]
  refine wp_if (fun c1 => wp_some ⟨hF, ?_⟩) (fun c1 => ?_)
  · unfold pm_n; rw [show i = c by omega]
  · have hic : i < c := by omega
    refine wp_ifp (by omega) ?_
    rw [Int.toNat_natCast, g14 i hic]
    refine wp_eq (mArcOf M hS S1 hic) ?_
    refine wp_ifp (by omega) ?_
    have hs := pm_m_self E hic
    have hml := (pm_m_spec E hic).1
    refine wp_if (fun c2 => ?_) (fun c2 => ?_)
    · have hl := hs.mp (hS.inj (by omega) hic c2)
      refine wp_ifp (by omega) ?_
      exact ih _ ⟨i + 1, by omega, rfl, by simp only; omega, by simp only; rw [pm_c_y hl]; omega⟩ (by simp only; omega)
    · have hl : ¬ pm_L (ar_r f c n sg lb) i := fun q => c2 (by rw [hs.mpr q])
      refine wp_ifp (by omega) ?_
      exact ih _ ⟨i + 1, by omega, rfl, by simp only; omega, by simp only; rw [pm_c_n hl]; omega⟩ (by simp only; omega)
theorem mSeifNext (M : mr n sg lb) (hS : ed_S f c lb (4 * n)) (S : mst t n sg lb) {i : Nat} (hi : i < c) : fX6_seifertNext t (f i) = some (f (pi_s f c n sg lb i)) := by
  have hn := M.1
  have e := pi_f M.2.2.2 hS (g := na_seif sg) (fun _ h => na_seif_lt h) hi
  have hP := (psP M hS).1 i hi
  obtain ⟨i1, i2, i3⟩ := fis M hS hi
  unfold fX6_seifertNext
  show _ = some (f (pi_of f c sg lb (4 * n) (na_seif sg) i))
  rw [e]
  refine wp_get ?_
  refine wp_eq (fP0 M S hS hi) ?_
  generalize is sg lb (4 * n) (f i) = a at i1 i2 i3 ⊢
  have hs := na_seif_lt (sg := sg) i1
  rw [show Int.tdiv ((a : Nat) : Int) (4 : Int) = ((a / 4 : Nat) : Int) from na_td a 4]
  refine wp_ifp (by omega) ?_
  refine wp_eq (sX6_isUpper a) ?_
  unfold fX6_seifertNext_38
  refine wp_if (fun c1 => ?_) (fun c1 => ?_)
  · refine wp_eq (sX6_upperIn (M.ok S) (show a / 4 < n by omega)) ?_
    rw [S.2.1]
    have hu := na_ui_lt sg (a / 4)
    have hz : a % 2 = 0 := by split at c1 <;> omega
    have ev : (4 : Int) * ((a / 4 : Nat) : Int) + (((na_ui sg (a / 4) : Nat) : Int) + 2) % 4 = (na_seif sg a : Int) := by
      unfold na_seif na_uo na_ui; rw [if_pos hz]; split <;> omega
    refine wp_ifp (by omega) ?_
    rw [ev, Int.toNat_natCast, S.2.2]
    refine wp_ifp (by omega) (wp_some rfl)
  · have hz : ¬ a % 2 = 0 := by split at c1 <;> omega
    have ev : (4 : Int) * ((a / 4 : Nat) : Int) + 2 = (na_seif sg a : Int) := by
      unfold na_seif; rw [if_neg hz]; omega
    rw [ev, Int.toNat_natCast, S.2.2]
    refine wp_ifp (by omega) (wp_some rfl)
theorem pm_L_it {N : Nat} {π : Nat → Nat} {i p : Nat} (hp : pm_o π i p) : pm_L (pm_R π) i ↔ ∀ q, q < p → i ≤ pm_it π q i := by
  constructor
  · intro h q _
    rcases Nat.lt_or_ge (pm_it π q i) i with z | z
    · exact absurd ⟨q, rfl⟩ (h _ z)
    · exact z
  · intro h j hj ⟨k, hk⟩
    rw [pm_it_mod hp.2.1 k] at hk
    have := h (k % p) (Nat.mod_lt _ hp.1)
    omega
theorem mSeifert (M : mr n sg lb) (hS : ed_S f c lb (4 * n)) (S : mst t n sg lb) (h6 : 0 ≤ t.1 6 ∧ t.1 6 ≤ 100) : wp_Q (fun q => md_F [13] [14] t q.1 ∧ q.2 = t.1 6 + (pm_z c (pi_s f c n sg lb) : Int)) (fX6_seifert t) := by
  have hn := M.1
  have hc := ed_c M hS
  have hP := psP M hS
  unfold fX6_seifert
  refine wp_bind (mSort hS (M.ok S) S.2.2) (fun t1 ⟨hF, g13, g14⟩ => ?_)
  have S1 := S.F hF (by decide) (by decide) (by decide)
  have hNx : ∀ i, i < c → fX6_seifertNext t1 (f i) = some (f (pi_s f c n sg lb i)) := fun i hi => mSeifNext M hS S1 hi
  generalize pi_s f c n sg lb = π at hP hNx ⊢
  refine wp_loop (fun x => ∃ i : Nat, i ≤ c ∧ x.1 = t1 ∧ x.2.2 = (i : Int) ∧ x.2.1 = t.1 6 + (pm_c (pm_L (pm_R π)) i : Int)) (fun x => 200 - x.2.2.toNat) ?_ ⟨0, Nat.zero_le _, rfl, rfl, by show t.1 6 = t.1 6 + ((0 : Nat) : Int); omega⟩ (by rw [gt_fuel_eq]; omega)
  intro kk ⟨x1, x3, x4⟩ ⟨i, hi, e1, e3, e4⟩ ih
  simp only at e1 e3 e4
  subst e1; subst e3; subst e4
  have hci := pm_c_le (pm_L (pm_R π)) i
  unfold fX6_seifert_11
  simp only
  rw [g13]
  refine wp_if (fun c1 => wp_some ⟨hF, ?_⟩) (fun c1 => ?_)
  · unfold pm_z pm_n; rw [show i = c by omega]
  · have hic : i < c := by omega
    obtain ⟨p, hpc, hp⟩ := pm_it_lo hP hic
    have hL := pm_L_it (N := c) hp
    obtain ⟨p1, p2, p3⟩ := hp
    refine wp_ifp (by omega) ?_
    rw [Int.toNat_natCast, g14 i hic]
    refine wp_eq (hNx i hic) ?_
    refine wp_loopN (fun m x => ∃ q v : Nat, 1 ≤ q ∧ q ≤ p ∧ x.1 = x1 ∧ x.2.1 = t.1 6 + (pm_c (pm_L (pm_R π)) i : Int) ∧ x.2.2.1 = (i : Int) ∧ x.2.2.2.1 = f v ∧ x.2.2.2.2 = f (pm_it π q i) ∧ v < c ∧ (∃ y, y < q ∧ v = pm_it π y i) ∧ (∀ y, y < q → v ≤ pm_it π y i) ∧ q + m = c + 1) ?_ (m := c) ⟨1, i, Nat.le_refl 1, p1, rfl, rfl, rfl, rfl, rfl, hic, ⟨0, by omega, rfl⟩, fun y hy => by rw [show y = 0 by omega]; exact Nat.le_refl _, by omega⟩ (by rw [gt_fuel_eq]; omega)
    intro k2 m2 ⟨y1, y2, y3, y4, y5⟩ ⟨q, v, q1, q2, g1, g2, g3, g4, g5, hv, g6, g7, g8⟩ ih2
    simp only at g1 g2 g3 g4 g5
    subst g1; subst g2; subst g3; subst g4; subst g5
    have hlt := pm_it_lt hP hic q
    unfold fX6_seifert_38 fX6_seifert_89 fX6_seifert_61
    simp only
    rw [Int.toNat_natCast, g14 i hic]
    refine wp_ifp (by omega) ?_
    refine wp_if (fun c2 => ?_) (fun c2 => ?_)
    · have hq : pm_it π q i = i := hS.inj hlt hic c2
      have hqp : q = p := by
        rcases Nat.lt_or_ge q p with z | z
        · exact absurd hq (p3 q q1 z)
        · omega
      subst hqp
      refine wp_ifp (by omega) ?_
      refine wp_if (fun c3 => ?_) (fun c3 => ?_)
      · have hl := hL.mpr (fun y hy => by have e1 := hS.inj hv hic c3; have e2 := g7 y hy; omega)
        refine wp_ifp (by omega) ?_
        exact ih _ ⟨i + 1, by omega, rfl, by simp only; omega, by simp only; rw [pm_c_y hl]; omega⟩ (by simp only; omega)
      · have hl : ¬ pm_L (pm_R π) i := fun z => c3 (by
          obtain ⟨y, a, b⟩ := g6
          have h1 := hL.mp z y a
          have h2 := g7 0 (by omega)
          have h3 : pm_it π 0 i = i := rfl
          rw [show v = i by omega])
        refine wp_ifp (by omega) ?_
        exact ih _ ⟨i + 1, by omega, rfl, by simp only; omega, by simp only; rw [pm_c_n hl]; omega⟩ (by simp only; omega)
    · have hqp : q ≠ p := fun z => c2 (by rw [z, p2])
      have hl1 := pm_it_lt hP hic (q + 1)
      refine wp_if (fun c3 => ?_) (fun c3 => ?_)
      · have hvle : v ≤ pm_it π q i := by
          have := (f_lt hS hlt hv); omega
        refine wp_eq (hNx _ hlt) ?_
        refine ih2 (m2 - 1) _ ⟨q + 1, v, by omega, by omega, rfl, rfl, rfl, rfl, rfl, hv, ?_, ?_, by omega⟩ (by omega)
        · obtain ⟨y, a, b⟩ := g6; exact ⟨y, by omega, b⟩
        · intro y hy
          by_cases z : y = q
          · rw [z]; exact hvle
          · exact g7 y (by omega)
      · have hvlt : pm_it π q i < v := (f_lt hS hlt hv).mp (by omega)
        refine wp_eq (hNx _ hlt) ?_
        refine ih2 (m2 - 1) _ ⟨q + 1, _, by omega, by omega, rfl, rfl, rfl, rfl, rfl, hlt, ⟨q, by omega, rfl⟩, ?_, by omega⟩ (by omega)
        intro y hy
        by_cases z : y = q
        · rw [z]; exact Nat.le_refl _
        · have := g7 y (by omega); omega
end MA
