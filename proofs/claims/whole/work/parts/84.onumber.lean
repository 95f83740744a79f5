/-! The call number. -/
noncomputable def fk (π : Nat → Nat) (N k : Nat) : Nat := lsv (fun j => pm_L (pm_R π) j ∧ pm_c (pm_L (pm_R π)) j = k) N
noncomputable def sz (π : Nat → Nat) (N k : Nat) : Nat := lsv (fun p => pm_o π (fk π N k) p) (N + 1)
noncomputable def off (π : Nat → Nat) (N k : Nat) : Nat := pm_s (sz π N) k
noncomputable def Fk (π : Nat → Nat) (N k i : Nat) : Nat := pm_it π i (fk π N k)
section NU
variable {N : Nat} {π : Nat → Nat}
theorem fk_spec {k : Nat} (hk : k < pm_z N π) : fk π N k < N ∧ pm_L (pm_R π) (fk π N k) ∧ pm_c (pm_L (pm_R π)) (fk π N k) = k := by
  obtain ⟨j, j1, j2, j3⟩ := pm_c_nth hk
  exact lsv_spec (p := fun j => pm_L (pm_R π) j ∧ pm_c (pm_L (pm_R π)) j = k) j1 ⟨j2, j3⟩
theorem fk_eq {k j : Nat} (hk : k < pm_z N π) (h1 : pm_L (pm_R π) j) (h2 : pm_c (pm_L (pm_R π)) j = k) : fk π N k = j :=
  pm_c_inj (fk_spec hk).2.1 h1 (by rw [(fk_spec hk).2.2, h2])
theorem sz_spec (hP : pm_P N π) {k : Nat} (hk : k < pm_z N π) : sz π N k ≤ N ∧ pm_o π (fk π N k) (sz π N k) := by
  obtain ⟨p, h1, h2⟩ := pm_it_lo hP (fk_spec hk).1
  have h := lsv_spec (p := fun p => pm_o π (fk π N k) p) (m := N + 1) (a := p) (by omega) h2
  have e : lsv (fun p => pm_o π (fk π N k) p) (N + 1) = sz π N k := rfl
  rw [e] at h
  exact ⟨by omega, h.2⟩
theorem Fk_lt (hP : pm_P N π) {k : Nat} (hk : k < pm_z N π) (i : Nat) : Fk π N k i < N := pm_it_lt hP (fk_spec hk).1 i
theorem Fk_rn (hP : pm_P N π) {k : Nat} (hk : k < pm_z N π) (i : Nat) : rn (pm_R π) (Fk π N k i) = k := by
  have E := pm_RE hP
  obtain ⟨a, b, c⟩ := fk_spec hk
  have h1 : rn (pm_R π) (fk π N k) = k := by unfold rn; rw [(pm_m_self E a).mpr b, c]
  exact ((rn_iff E a (Fk_lt hP hk i)).mpr ⟨i, rfl⟩).symm.trans h1
theorem Fk_inj (hP : pm_P N π) {k k' i i' : Nat} (hk : k < pm_z N π) (hk' : k' < pm_z N π) (hi : i < sz π N k) (hi' : i' < sz π N k') (e : Fk π N k i = Fk π N k' i') : k = k' ∧ i = i' := by
  have ek : k = k' := by rw [← Fk_rn hP hk i, e, Fk_rn hP hk' i']
  subst ek
  exact ⟨rfl, pm_apart hP (fk_spec hk).1 (sz_spec hP hk).2.2.2 hi hi' e⟩
theorem Fk_sur (hP : pm_P N π) {e : Nat} (he : e < N) : ∃ k i, k < pm_z N π ∧ i < sz π N k ∧ Fk π N k i = e := by
  have E := pm_RE hP
  obtain ⟨a, b, c⟩ := pm_m_spec E he
  have hk : rn (pm_R π) e < pm_z N π := rn_lt E he
  have ef : fk π N (rn (pm_R π) e) = pm_m (pm_R π) e := fk_eq hk c rfl
  obtain ⟨s1, s2, s3, s4⟩ := sz_spec hP hk
  obtain ⟨q, hq⟩ := pm_R.sy hP he b
  refine ⟨rn (pm_R π) e, q % sz π N (rn (pm_R π) e), hk, Nat.mod_lt _ s2, ?_⟩
  unfold Fk
  rw [← pm_it_mod s3, ef, hq]
theorem pm_s_b {g : Nat → Nat} {B : Nat} : ∀ {m : Nat}, (∀ i, i < m → g i ≤ B) → pm_s g m ≤ B * m
  | 0, _ => Nat.zero_le _
  | m + 1, h => by
    have h1 := pm_s_b (m := m) (fun i hi => h i (by omega))
    have h2 := h m (by omega)
    unfold pm_s
    rw [Nat.mul_succ]; omega
theorem off_b (hP : pm_P N π) (hN : N ≤ 40) {k : Nat} (hk : k ≤ pm_z N π) : off π N k ≤ 1600 := by
  have h1 : off π N k ≤ 40 * k := pm_s_b (fun i hi => by have := (sz_spec hP (show i < pm_z N π by omega)).1; omega)
  have h2 := pm_z_le N π
  omega
theorem off_s (k : Nat) : off π N (k + 1) = off π N k + sz π N k := rfl
theorem off_m {k k' : Nat} (h : k < k') : off π N k + sz π N k ≤ off π N k' := by
  induction k' with
  | zero => omega
  | succ k' ih =>
    rw [off_s]
    by_cases z : k = k'
    · subst z; omega
    · have := ih (by omega); omega
theorem off_inj {k k' i i' : Nat} (hi : i < sz π N k) (hi' : i' < sz π N k') (e : off π N k + i = off π N k' + i') : k = k' ∧ i = i' := by
  rcases Nat.lt_trichotomy k k' with z | z | z
  · have := off_m (π := π) (N := N) z; omega
  · subst z; exact ⟨rfl, by omega⟩
  · have := off_m (π := π) (N := N) z; omega
/-- the new numbers of the edges -/
def nuP (π : Nat → Nat) (N : Nat) (g : Nat → Int) : Prop := ∀ k i, k < pm_z N π → i < sz π N k → g (Fk π N k i) = ((off π N k + i + 1 : Nat) : Int)
end NU
section NV
variable {n c : Nat} {sg lb f : Nat → Int} {T : gx_Ch} {t : gt_T}
theorem num_ok {lb' : Nat → Int} {g : Nat → Int} (M : mr n sg lb) (hS : ed_S f c lb (4 * n)) (hs : SPh n lb) (hg : nuP (pi_c f c n sg lb) c g) (h : ∀ x, x < 4 * n → lb' x = g (er f (lb x) c)) : mr n sg lb' ∧ SPh n lb' := by
  have hP := pcP M hS
  have hn := M.1
  have hc := ed_c M hS
  have val : ∀ x, x < 4 * n → ∃ k i, k < pm_z c (pi_c f c n sg lb) ∧ i < sz (pi_c f c n sg lb) c k ∧ Fk (pi_c f c n sg lb) c k i = er f (lb x) c ∧ lb' x = ((off (pi_c f c n sg lb) c k + i + 1 : Nat) : Int) := fun x hx => by
    obtain ⟨k, i, k1, k2, k3⟩ := Fk_sur hP (er_lb hS hx).1
    exact ⟨k, i, k1, k2, k3, by rw [h x hx, ← k3]; exact hg k i k1 k2⟩
  refine turn_ok (b := fun _ => 0) (T := fun _ => False) M hs M.2.1 (fun x hx => ?_) (fun x y hx hy => ?_) (fun x hx => by rw [ro_0]; simp)
  · obtain ⟨k, i, k1, k2, k3, k4⟩ := val x hx
    have h1 := off_b hP (by omega) (show k ≤ pm_z c (pi_c f c n sg lb) by omega)
    have h2 := (sz_spec hP k1).1
    rw [k4]; omega
  · rw [ro_0, ro_0]
    obtain ⟨k, i, k1, k2, k3, k4⟩ := val x hx
    obtain ⟨k', i', k1', k2', k3', k4'⟩ := val y hy
    constructor
    · intro e
      rw [k4, k4'] at e
      obtain ⟨z1, z2⟩ := off_inj (π := pi_c f c n sg lb) (N := c) k2 k2' (by omega)
      subst z1; subst z2
      rw [← (er_lb hS hx).2, ← k3, k3', (er_lb hS hy).2]
    · intro e; rw [h x hx, h y hy, e]
theorem cChoose (M : mr n sg lb) (hS : ed_S f c lb (4 * n)) (h : cv T n c f sg lb) : wp_Q (fun T' => T'.1 = T.1 ∧ T'.2.1 = T.2.1 ∧ nuP (pi_c f c n sg lb) c (T'.2.2.2.2.2.2.2.2 7)) (fX0_chooseNewLabels T) := by
  have hn := M.1
  have hc := ed_c M hS
  have hP := pcP M hS
  have r := h.2.2.2.2.2.1
  generalize pi_c f c n sg lb = π at hP r ⊢
  have hz := pm_z_le c π
  have hfs : ∀ k, k < pm_z c π → fX3_first T.2.2.2.2.1 (k : Int) = some (fk π c k : Int) ∧ fX3_size T.2.2.2.2.1 (k : Int) = some (sz π c k : Int) := fun k hk => by
    obtain ⟨j, q, j1, j2, j3, q1, q2, s1, s2, -⟩ := cMember (i := 0) T.2.2.2.2.1 hP (by omega) r hk
    have e1 := fk_eq hk j2 j3
    have e2 : sz π c k = q := pm_o_uniq (sz_spec hP hk).2 (by rw [e1]; exact q2)
    rw [e1, e2]; exact ⟨s2, s1⟩
  unfold fX0_chooseNewLabels
  refine wp_loop (fun x => ∃ k : Nat, k ≤ pm_z c π ∧ x.2.1 = ((off π c k + 1 : Nat) : Int) ∧ x.2.2 = (k : Int) ∧ x.1.1 = T.1 ∧ x.1.2.1 = T.2.1 ∧ x.1.2.2.2.2.1 = T.2.2.2.2.1 ∧ ∀ k' i, k' < k → i < sz π c k' → x.1.2.2.2.2.2.2.2.2 7 (Fk π c k' i) = ((off π c k' + i + 1 : Nat) : Int)) (fun x => 200 - x.2.2.toNat) ?_ ⟨0, Nat.zero_le _, rfl, rfl, rfl, rfl, rfl, fun k' i hk' => absurd hk' (Nat.not_lt_zero k')⟩ (by rw [gt_fuel_eq]; omega)
  intro kk ⟨x1, x2, x3⟩ ⟨k, hk, e1, e2, e3, e4, e5, e6⟩ ih
  simp only at e1 e2 e3 e4 e5 e6
  subst e1; subst e2
  unfold fX0_chooseNewLabels_4
  simp only
  refine wp_eq (r := (pm_z c π : Int)) (by rw [e5]; unfold fX3_count; rw [r.2.1]) ?_
  refine wp_if (fun c1 => wp_some ⟨e3, e4, fun k' i hk' hi => e6 k' i (by omega) hi⟩) (fun c1 => ?_)
  have hkz : k < pm_z c π := by omega
  obtain ⟨s1, s2⟩ := sz_spec hP hkz
  refine wp_eq (r := (fk π c k : Int)) (by rw [e5]; exact (hfs k hkz).1) ?_
  refine wp_loop (fun x => ∃ i : Nat, i ≤ sz π c k ∧ x.2.1 = ((off π c k + i + 1 : Nat) : Int) ∧ x.2.2.1 = (k : Int) ∧ x.2.2.2.1 = (Fk π c k i : Int) ∧ x.2.2.2.2 = (i : Int) ∧ x.1.1 = T.1 ∧ x.1.2.1 = T.2.1 ∧ x.1.2.2.2.2.1 = T.2.2.2.2.1 ∧ (∀ k' i', k' < k → i' < sz π c k' → x.1.2.2.2.2.2.2.2.2 7 (Fk π c k' i') = ((off π c k' + i' + 1 : Nat) : Int)) ∧ ∀ i', i' < i → x.1.2.2.2.2.2.2.2.2 7 (Fk π c k i') = ((off π c k + i' + 1 : Nat) : Int)) (fun x => 200 - x.2.2.2.2.toNat) ?_ ⟨0, Nat.zero_le _, rfl, rfl, rfl, rfl, e3, e4, e5, e6, fun i' hi' => absurd hi' (Nat.not_lt_zero i')⟩ (by rw [gt_fuel_eq]; omega)
  intro k2 ⟨y1, y2, y3, y4, y5⟩ ⟨i, hi, f1, f2, f3, f4, f5, f6, f7, f8, f9⟩ ih2
  simp only at f1 f2 f3 f4 f5 f6 f7 f8 f9
  subst f1; subst f2; subst f3; subst f4
  unfold fX0_chooseNewLabels_27 fX0_chooseNewLabels_57
  simp only
  refine wp_eq (r := (sz π c k : Int)) (by rw [f7]; exact (hfs k hkz).2) ?_
  have hob := off_b hP (by omega) hk
  have hFl := Fk_lt hP hkz i
  refine wp_if (fun c2 => ?_) (fun c2 => ?_)
  · have hik : i = sz π c k := by omega
    subst hik
    refine wp_ifp (by omega) (ih _ ⟨k + 1, by omega, by simp only [off_s], by simp only; omega, f5, f6, f7, fun k' i' hk' hi' => ?_⟩ (by simp only; omega))
    by_cases z : k' = k
    · subst z; exact f9 i' hi'
    · exact f8 k' i' (by omega) hi'
  · refine wp_ifn (by omega) (wp_ifn (by omega) (wp_ifp (by omega) (wp_ifp (by omega) ?_)))
    refine wp_eq (r := (Fk π c k (i + 1) : Int)) ?_ ?_
    · show fX3_next y1.2.2.2.2.1 _ = _
      rw [f7, sX3_next r.1 (by omega) hFl, (r.2.2.1 _ hFl).1]; rfl
    · refine wp_ifp (by omega) (ih2 _ ⟨i + 1, by omega, by simp only; omega, rfl, rfl, by simp only; omega, f5, f6, f7, fun k' i' hk' hi' => ?_, fun i' hi' => ?_⟩ (by simp only; omega))
      · simp only [va_up, ↓reduceIte, Int.toNat_natCast]
        rw [if_neg (fun z => by have := (Fk_inj hP (by omega) hkz hi' (show i < sz π c k by omega) z).1; omega)]
        exact f8 k' i' hk' hi'
      · simp only [va_up, ↓reduceIte, Int.toNat_natCast]
        by_cases z : i' = i
        · rw [z, if_pos rfl]
        · rw [if_neg (fun w => z (Fk_inj hP hkz hkz (by omega) (show i < sz π c k by omega) w).2)]
          exact f9 i' (by omega)
theorem cAnew (M : mr n sg lb) (hS : ed_S f c lb (4 * n)) (h : cv T n c f sg lb) : wp_Q (fun T' => ∃ g, nuP (pi_c f c n sg lb) c g ∧ T'.1.1 = T.1.1 ∧ T'.1.2 0 = T.1.2 0 ∧ ∀ x, x < 4 * n → T'.1.2 1 x = g (er f (lb x) c)) (fX0_labelAnew T) := by
  have hn := M.1
  have hc := ed_c M hS
  unfold fX0_labelAnew
  refine wp_bind (cChoose M hS h) (fun T1 ⟨a1, a2, a3⟩ => ?_)
  refine wp_loop (fun x => ∃ i : Nat, i ≤ 4 * n ∧ x.2 = (i : Int) ∧ x.1.2 = T1.2 ∧ x.1.1.1 = T.1.1 ∧ x.1.1.2 0 = T.1.2 0 ∧ ∀ y, y < i → x.1.1.2 1 y = T1.2.2.2.2.2.2.2.2 7 (er f (lb y) c)) (fun x => 200 - x.2.toNat) ?_ ⟨0, Nat.zero_le _, rfl, rfl, by show T1.1.1 = _; rw [a1], by show T1.1.2 0 = _; rw [a1], fun y hy => absurd hy (Nat.not_lt_zero y)⟩ (by rw [gt_fuel_eq]; omega)
  intro kk ⟨x1, x2⟩ ⟨i, hi, e1, e2, e3, e4, e5⟩ ih
  simp only at e1 e2 e3 e4 e5
  subst e1
  unfold fX0_labelAnew_6 fX0_labelAnew_50
  simp only
  have h2 : x1.1.1 2 = (n : Int) := by rw [e3]; exact h.1.1
  refine wp_eq (sX4_spots h2 hn) ?_
  refine wp_if (fun c1 => wp_some ⟨_, a3, e3, e4, fun x hx => e5 x (by omega)⟩) (fun c1 => ?_)
  have hin : i < 4 * n := by omega
  have hel := (er_lb hS hin).1
  refine wp_eq (r := (er f (lb i) c : Int)) (by rw [e2, a2]; exact cAt M h hin) ?_
  refine wp_ifn (by omega) (wp_ifn (by omega) (wp_ifp (by omega) ?_))
  rw [Int.toNat_natCast, show x1.2.2.2.2.2.2.2.2 7 = T1.2.2.2.2.2.2.2.2 7 by rw [e2]]
  refine wp_eq (sX4_setLabel h2 hn hin _) (wp_ifp (by omega) (ih _ ⟨i + 1, by omega, by simp only; omega, e2, e3, ?_, fun y hy => ?_⟩ (by simp only; omega)))
  · simp only [va_up, Nat.reduceEqDiff, ↓reduceIte]; exact e4
  · simp only [va_up, ↓reduceIte]
    by_cases z : y = i
    · rw [if_pos z, z]
    · rw [if_neg z]; exact e5 y (by omega)
/-- the reference's new numbers, by places -/
def nuQ (n c : Nat) (f sg lb g : Nat → Int) : Prop := nuP (pi_c f c n sg lb) c (fun e => g (os sg lb (4 * n) (f e))) ∧ nuP (pi_c f c n sg lb) c (fun e => g (is sg lb (4 * n) (f e)))
theorem nb94 {u : gt_T} (h5 : u.1 5 = (n : Int)) (hn : n ≤ 20) : wp_Q (fun t' => t'.1 = u.1 ∧ (∀ j, j ≠ 10 → t'.2 j = u.2 j) ∧ ∀ x, x < 4 * n → t'.2 10 x = u.2 15 x) (gt_loop fX6_number_94 gt_fuel (u, (0 : Int))) := by
  refine wp_loop (fun x => ∃ i : Nat, i ≤ 4 * n ∧ x.2 = (i : Int) ∧ x.1.1 = u.1 ∧ (∀ j, j ≠ 10 → x.1.2 j = u.2 j) ∧ ∀ a, a < i → x.1.2 10 a = u.2 15 a) (fun x => 200 - x.2.toNat) ?_ ⟨0, Nat.zero_le _, rfl, rfl, fun _ _ => rfl, fun a ha => absurd ha (Nat.not_lt_zero a)⟩ (by rw [gt_fuel_eq]; omega)
  intro k ⟨x1, x2⟩ ⟨i, hi, e1, e2, e3, e4⟩ ih
  simp only at e1 e2 e3 e4
  subst e1
  unfold fX6_number_94
  simp only
  rw [e2, h5]
  refine wp_ifp (by omega) (wp_if (fun c1 => wp_some ⟨e2, e3, fun a ha => e4 a (by omega)⟩) (fun c1 => wp_ifp (by omega) (ih _ ⟨i + 1, by omega, by simp only; omega, rfl, fun j hj => ?_, fun a ha => ?_⟩ (by simp only; omega))))
  · simp only [va_up, hj, ↓reduceIte]; exact e3 j hj
  · simp only [va_up, ↓reduceIte, Int.toNat_natCast]
    by_cases z : a = i
    · subst z; rw [if_pos rfl, e3 15 (by decide)]
    · rw [if_neg z]; exact e4 a (by omega)
theorem mNumber (M : mr n sg lb) (hS : ed_S f c lb (4 * n)) (S : mst t n sg lb) : wp_Q (fun t' => md_F SI [10, 11, 12, 14, 15, 16, 17, 18, 21, 22] t t' ∧ ∃ g, nuP (pi_c f c n sg lb) c g ∧ ∀ x, x < 4 * n → t'.2 10 x = g (er f (lb x) c)) (fX6_number t) := by
  have hn := M.1
  have hc := ed_c M hS
  have hP := pcP M hS
  have hz := pm_z_le c (pi_c f c n sg lb)
  unfold fX6_number
  refine wp_bind (mComponents M hS S) (fun t1 ⟨hF, g1⟩ => ?_)
  have S1 := S.F hF (by decide) (by decide) (by decide)
  rw [g1.2.2.1]
  -- where a number stands
  have osinj : ∀ e e', e < c → e' < c → os sg lb (4 * n) (f e) = os sg lb (4 * n) (f e') → e = e' := fun e e' he he' q => hS.inj he he' (by rw [← (fos M hS he).2.1, q, (fos M hS he').2.1])
  have isinj : ∀ e e', e < c → e' < c → is sg lb (4 * n) (f e) = is sg lb (4 * n) (f e') → e = e' := fun e e' he he' q => hS.inj he he' (by rw [← (fis M hS he).2.1, q, (fis M hS he').2.1])
  have osis : ∀ e e', e < c → e' < c → os sg lb (4 * n) (f e) ≠ is sg lb (4 * n) (f e') := fun e e' he he' q => (fis M hS he').2.2 (by rw [← q]; exact (fos M hS he).2.2)
  refine wp_loop (fun x => ∃ k : Nat, k ≤ pm_z c (pi_c f c n sg lb) ∧ x.2.1 = (pm_z c (pi_c f c n sg lb) : Int) ∧ x.2.2.1 = (off (pi_c f c n sg lb) c k : Int) ∧ x.2.2.2 = (k : Int) ∧ md_F SI [11, 12, 14, 15, 16, 17, 18, 21, 22] t x.1 ∧ ∀ k' i, k' < k → i < sz (pi_c f c n sg lb) c k' → x.1.2 15 (os sg lb (4 * n) (f (Fk (pi_c f c n sg lb) c k' i))) = ((off (pi_c f c n sg lb) c k' + i + 1 : Nat) : Int) ∧ x.1.2 15 (is sg lb (4 * n) (f (Fk (pi_c f c n sg lb) c k' i))) = ((off (pi_c f c n sg lb) c k' + i + 1 : Nat) : Int)) (fun x => 200 - x.2.2.2.toNat) ?_ ⟨0, Nat.zero_le _, rfl, rfl, rfl, hF.up (by decide) (by decide), fun k' i hk' => absurd hk' (Nat.not_lt_zero k')⟩ (by rw [gt_fuel_eq]; omega)
  intro kk ⟨x1, x2, x3, x4⟩ ⟨k, hk, e1, e2, e3, e4, e5⟩ ih
  simp only at e1 e2 e3 e4 e5
  subst e1; subst e2; subst e3
  have Sx : mst x1 n sg lb := S.F e4 (by decide) (by decide) (by decide)
  unfold fX6_number_13
  simp only
  refine wp_if (fun c1 => ?_) (fun c1 => ?_)
  · have hkz : k = pm_z c (pi_c f c n sg lb) := by omega
    subst hkz
    refine wp_mono (nb94 (u := x1) Sx.1 hn) (fun t' ⟨a1, a2, a3⟩ => ⟨⟨fun j hj => by rw [a1]; exact e4.1 j hj, fun j hj => ?_⟩, fun e => x1.2 15 (os sg lb (4 * n) (f e)), fun k' i hk' hi => (e5 k' i hk' hi).1, fun x hx => ?_⟩)
    · simp only [List.mem_cons, List.not_mem_nil, or_false, not_or] at hj
      rw [a2 j hj.1, e4.2 j (by simp [hj])]
    · rw [a3 x hx]
      show _ = x1.2 15 (os sg lb (4 * n) (f (er f (lb x) c)))
      have hel := (er_lb hS hx)
      obtain ⟨k', i, k1, k2, k3⟩ := Fk_sur hP hel.1
      rcases os_or_is M hS hx hel.1 hel.2.symm with z | z
      · rw [← z]
      · rw [← k3]
        rw [(e5 k' i k1 k2).1, ← (e5 k' i k1 k2).2, k3, ← z]
  · have hkz : k < pm_z c (pi_c f c n sg lb) := by omega
    obtain ⟨s1, s2⟩ := sz_spec hP hkz
    have hob := off_b hP (by omega) hk
    refine wp_bind (mBeginning M hS Sx hkz) (fun q ⟨hF2, g2, j, j1, j2, j3, j4⟩ => ?_)
    have ej : fk (pi_c f c n sg lb) c k = j := fk_eq hkz j2 j3
    have S2 := Sx.F hF2 (by decide) (by decide) (by decide)
    have hF2' : md_F SI [11, 12, 14, 15, 16, 17, 18, 21, 22] t q.1 := e4.tr (hF2.up (by decide) (by decide))
    rw [j4]
    refine wp_eq (mEdgesOf M hS S2 j1 (by rw [← ej]; exact s2) s1) ?_
    have e5' : ∀ k' i, k' < k → i < sz (pi_c f c n sg lb) c k' → q.1.2 15 (os sg lb (4 * n) (f (Fk (pi_c f c n sg lb) c k' i))) = ((off (pi_c f c n sg lb) c k' + i + 1 : Nat) : Int) ∧ q.1.2 15 (is sg lb (4 * n) (f (Fk (pi_c f c n sg lb) c k' i))) = ((off (pi_c f c n sg lb) c k' + i + 1 : Nat) : Int) := fun k' i a b => by
      rw [hF2.2 15 (by decide)]; exact e5 k' i a b
    refine wp_loop (fun x => ∃ i : Nat, i ≤ sz (pi_c f c n sg lb) c k ∧ x.2.1 = (pm_z c (pi_c f c n sg lb) : Int) ∧ x.2.2.1 = ((off (pi_c f c n sg lb) c k + i : Nat) : Int) ∧ x.2.2.2.1 = (k : Int) ∧ x.2.2.2.2.1 = f (Fk (pi_c f c n sg lb) c k i) ∧ x.2.2.2.2.2.1 = (sz (pi_c f c n sg lb) c k : Int) ∧ x.2.2.2.2.2.2 = (i : Int) ∧ md_F SI [11, 12, 14, 15, 16, 17, 18, 21, 22] t x.1 ∧ (∀ k' i', k' < k → i' < sz (pi_c f c n sg lb) c k' → x.1.2 15 (os sg lb (4 * n) (f (Fk (pi_c f c n sg lb) c k' i'))) = ((off (pi_c f c n sg lb) c k' + i' + 1 : Nat) : Int) ∧ x.1.2 15 (is sg lb (4 * n) (f (Fk (pi_c f c n sg lb) c k' i'))) = ((off (pi_c f c n sg lb) c k' + i' + 1 : Nat) : Int)) ∧ ∀ i', i' < i → x.1.2 15 (os sg lb (4 * n) (f (Fk (pi_c f c n sg lb) c k i'))) = ((off (pi_c f c n sg lb) c k + i' + 1 : Nat) : Int) ∧ x.1.2 15 (is sg lb (4 * n) (f (Fk (pi_c f c n sg lb) c k i'))) = ((off (pi_c f c n sg lb) c k + i' + 1 : Nat) : Int)) (fun x => 200 - x.2.2.2.2.2.2.toNat) ?_ ⟨0, Nat.zero_le _, rfl, rfl, rfl, by show f j = f (fk (pi_c f c n sg lb) c k); rw [ej], rfl, rfl, hF2', e5', fun i' hi' => absurd hi' (Nat.not_lt_zero i')⟩ (by rw [gt_fuel_eq]; omega)
    intro k2 ⟨y1, y2, y3, y4, y5, y6, y7⟩ ⟨i, hi, f1, f2, f3, f4, f5, f6, f7, f8, f9⟩ ih2
    simp only at f1 f2 f3 f4 f5 f6 f7 f8 f9
    subst f1; subst f2; subst f3; subst f4; subst f5; subst f6
    have Sy : mst y1 n sg lb := S.F f7 (by decide) (by decide) (by decide)
    have hFl := Fk_lt hP hkz i
    unfold fX6_number_36
    simp only
    refine wp_if (fun c2 => ?_) (fun c2 => ?_)
    · have hik : i = sz (pi_c f c n sg lb) c k := by omega
      subst hik
      refine wp_ifp (by omega) (ih _ ⟨k + 1, by omega, rfl, by simp only [off_s], by simp only; omega, f7, fun k' i' hk' hi' => ?_⟩ (by simp only; omega))
      by_cases z : k' = k
      · subst z; exact f9 i' hi'
      · exact f8 k' i' (by omega) hi'
    · have o1 := (fos M hS hFl).1
      have i1 := (fis M hS hFl).1
      refine wp_ifp (by omega) (wp_eq (fP1 M Sy hS hFl) (wp_ifp (by omega) ?_))
      have Sa : ∀ w : Nat → Int, mst (y1.1, va_up y1.2 15 w) n sg lb := fun w => ⟨Sy.1, Sy.2.1, Sy.2.2⟩
      refine wp_eq (fP0 M (Sa _) hS hFl) (wp_ifp (by omega) ?_)
      have Sb : ∀ w w' : Nat → Int, mst (y1.1, va_up (va_up y1.2 15 w) 15 w') n sg lb := fun w w' => ⟨Sy.1, Sy.2.1, Sy.2.2⟩
      refine wp_eq (fNx M (Sb _ _) hS hFl) ?_
      refine wp_ifp (by omega) (ih2 _ ⟨i + 1, by omega, rfl, by simp only; omega, rfl, rfl, rfl, by simp only; omega, ?_, fun k' i' hk' hi' => ?_, fun i' hi' => ?_⟩ (by simp only; omega))
      · exact (f7.a (by decide) _).a (by decide) _
      · have hk'z : k' < pm_z c (pi_c f c n sg lb) := by omega
        have hne : Fk (pi_c f c n sg lb) c k' i' ≠ Fk (pi_c f c n sg lb) c k i := fun z => by have := (Fk_inj hP hk'z hkz hi' (show i < sz (pi_c f c n sg lb) c k by omega) z).1; omega
        have hl' := Fk_lt hP hk'z i'
        simp only [va_up, ↓reduceIte, Int.toNat_natCast]
        rw [if_neg (osis _ _ hl' hFl), if_neg (fun z => hne (osinj _ _ hl' hFl z)), if_neg (fun z => hne (isinj _ _ hl' hFl z)), if_neg (fun z => osis _ _ hFl hl' z.symm)]
        exact f8 k' i' hk' hi'
      · have hl' := Fk_lt hP hkz i'
        simp only [va_up, ↓reduceIte, Int.toNat_natCast]
        by_cases z : i' = i
        · subst z
          rw [if_neg (osis _ _ hl' hFl), if_pos rfl, if_pos rfl]
          omega
        · have hne : Fk (pi_c f c n sg lb) c k i' ≠ Fk (pi_c f c n sg lb) c k i := fun w => z (Fk_inj hP hkz hkz (by omega) (show i < sz (pi_c f c n sg lb) c k by omega) w).2
          rw [if_neg (osis _ _ hl' hFl), if_neg (fun z => hne (osinj _ _ hl' hFl z)), if_neg (fun z => hne (isinj _ _ hl' hFl z)), if_neg (fun z => osis _ _ hFl hl' z.symm)]
          exact f9 i' (by omega)
end NV
theorem oNumber {D : gx_Dc} {m : gt_T} (h : RLc D m) : wp_Q (fun m' => ∃ D', fX5_number D = some D' ∧ RLc D' m') (fX6_number m) := by
  obtain ⟨n, p, c, ⟨hp1, hp2, hp3⟩, ⟨h5, hch, hsm⟩, hcir⟩ := h
  have Mc := ch_mr hch
  have hs := ch_SP hch
  have hrw := hch.1.1
  have hn := Mc.1
  have M := hsm.mr Mc
  have hs2 := SP_dsm hsm Mc hs
  have hS := hch.1.2.2.2.1.c hsm.2
  obtain ⟨hV, -⟩ := cv_of hch hsm M hS
  have S : mst m n (m.2 9) (m.2 10) := ⟨h5, rfl, rfl⟩
  have hP := pcP M hS
  obtain ⟨T', t1, g, t2, t3, t4, t5⟩ := cAnew M hS hV
  refine wp_mono (mNumber M hS S) (fun q ⟨q2, g', q3, q4⟩ => ?_)
  obtain ⟨M', hs'⟩ := num_ok M hS hs2 q3 q4
  have e9 : q.2 9 = m.2 9 := q2.2 9 (by decide)
  have hd : dsm n (T'.1.2 0) (T'.1.2 1) (q.2 9) (q.2 10) := by
    refine ⟨fun j hj => ?_, fun y hy => ?_⟩
    · rw [t4, e9]; exact hsm.1 j hj
    · obtain ⟨k, i, k1, k2, k3⟩ := Fk_sur hP (er_lb hS hy).1
      rw [t5 y hy, q4 y hy, ← k3, t2 k i k1 k2, q3 k i k1 k2]
  rw [← e9] at M'
  have M'' := hd.sy.mr M'
  obtain ⟨r, r1, r2⟩ := RL_new (D := D) (m' := q) (row := T'.1) (own := D.2.2) (n := n) (p := p) ⟨hp1, by rw [q2.1 1 (by decide)]; exact hp2, by rw [q2.2 3 (by decide), q2.2 4 (by decide)]; exact hp3⟩ ⟨by rw [t3]; exact hrw.1, hn, M''.2.1, M''.2.2.1⟩ (by rw [q2.1 5 (by decide)]; exact h5) hd M'' (SP_dsm hd.sy M' hs') (by rw [q2.1 6 (by decide), q2.1 2 (by decide)]; exact hcir) (ed := T'.2.1) (pc := T'.2.2.1) (ar := T'.2.2.2.1) (cm := T'.2.2.2.2.1) (sf := T'.2.2.2.2.2.1) (fc := T'.2.2.2.2.2.2.1) (ow := T'.2.2.2.2.2.2.2)
  refine ⟨(D.1, r.1, D.2.2), ?_, r2⟩
  unfold fX5_number
  exact wp_get (wp_eq t1 (wp_eq r1 (wp_some rfl)))
