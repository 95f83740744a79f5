/-! The reference: what it tells, as functions of the diagram. -/
section MT
variable {n c : Nat} {sg lb f : Nat → Int} {t : gt_T}
def mdc (T : gt_T) (n c : Nat) (f sg lb : Nat → Int) : Prop := T.1 13 = (c : Int) ∧ (∀ i, i < c → T.2 14 i = f i) ∧ T.1 19 = (pm_z c (pi_c f c n sg lb) : Int) ∧ ∀ a, a < 4 * n → T.2 21 a = (rn (pm_R (pi_c f c n sg lb)) (er f (lb a) c) : Int)
def mdf (T : gt_T) (n c : Nat) (f sg lb : Nat → Int) : Prop := T.1 13 = (c : Int) ∧ (∀ i, i < c → T.2 14 i = f i) ∧ T.1 20 = (pm_z (2 * c) (pi_q f c n sg lb) : Int) ∧ ∀ i, i < 2 * c → T.2 22 i = (rn (pm_R (pi_q f c n sg lb)) i : Int)
theorem mComponents (M : mr n sg lb) (hS : ed_S f c lb (4 * n)) (S : mst t n sg lb) : wp_Q (fun T' => md_F [13, 19] [14, 21] t T' ∧ mdc T' n c f sg lb) (fX6_components t) := by
  refine wp_mono (sX6_components M S) (fun T' ⟨hF, c', g13, hS', g19, g21⟩ => ⟨hF, ?_⟩)
  obtain ⟨ec, ef⟩ := hS'.uniq hS
  subst ec
  have hP := pcP M hS
  have e : ∀ i, i < c' → pi_of (T'.2 14) c' sg lb (4 * n) na_across i = pi_c f c' n sg lb i := fun i hi => dsm.rf.pi M.2.2.2 hS ef (fun _ _ => rfl) (fun _ q => na_across_lt q) hi
  have eL : ∀ j, j < c' → (pm_L (pm_R (pi_of (T'.2 14) c' sg lb (4 * n) na_across)) j ↔ pm_L (pm_R (pi_c f c' n sg lb)) j) := fun j hj => pm_L_congr (fun i j hi _ => pm_R_c hP e hi j) hj
  refine ⟨g13, ef, by rw [g19, pm_z_congr hP e], fun a ha => ?_⟩
  have h1 := (er_lb hS ha).1
  obtain ⟨a1, a2, a3⟩ := pm_m_spec (pm_RE hP) h1
  rw [g21 a (pm_m (pm_R (pi_c f c' n sg lb)) (er f (lb a) c')) ha (by rw [er_congr ef]; exact (pm_R_c hP e h1 _).mpr a2) ((eL _ (by omega)).mpr a3)]
  unfold rn
  rw [pm_c_congr (fun i hi => eL i (by omega))]
theorem mFaces (M : mr n sg lb) (hS : ed_S f c lb (4 * n)) (S : mst t n sg lb) : wp_Q (fun T' => md_F [13, 20] [14, 22] t T' ∧ mdf T' n c f sg lb) (fX6_findFaces t) := by
  refine wp_mono (sX6_findFaces M S) (fun T' ⟨hF, c', g13, hS', g19, g21⟩ => ⟨hF, ?_⟩)
  obtain ⟨ec, ef⟩ := hS'.uniq hS
  subst ec
  have hP := pqP M hS
  have e : ∀ i, i < 2 * c' → pi_d (T'.2 14) c' sg lb (4 * n) i = pi_q f c' n sg lb i := fun i hi => dsm.rf.pid M.2.2.2 hS ef hi
  have eL : ∀ j, j < 2 * c' → (pm_L (pm_R (pi_d (T'.2 14) c' sg lb (4 * n))) j ↔ pm_L (pm_R (pi_q f c' n sg lb)) j) := fun j hj => pm_L_congr (fun i j hi _ => pm_R_c hP e hi j) hj
  refine ⟨g13, ef, by rw [g19, pm_z_congr hP e], fun i hi => ?_⟩
  obtain ⟨a1, a2, a3⟩ := pm_m_spec (pm_RE hP) hi
  rw [g21 i (pm_m (pm_R (pi_q f c' n sg lb)) i) hi ((pm_R_c hP e hi _).mpr a2) ((eL _ (by omega)).mpr a3)]
  unfold rn
  rw [pm_c_congr (fun i hi => eL i (by omega))]
theorem er_os (M : mr n sg lb) (hS : ed_S f c lb (4 * n)) {i : Nat} (hi : i < c) : er f (lb (os sg lb (4 * n) (f i))) c = i := by
  rw [(fos M hS hi).2.1]; exact er_f hS hi
theorem mComponentOf (M : mr n sg lb) (hS : ed_S f c lb (4 * n)) (S : mst t n sg lb) {i : Nat} (hi : i < c) : wp_Q (fun q => md_F [13, 19] [14, 21] t q.1 ∧ q.2 = (rn (pm_R (pi_c f c n sg lb)) i : Int)) (fX6_componentOf t (f i)) := by
  have hn := M.1
  unfold fX6_componentOf
  refine wp_bind (mComponents M hS S) (fun t1 ⟨hF, g⟩ => ?_)
  have h1 := (fos M hS hi).1
  refine wp_eq (fP1 M (S.F hF (by decide) (by decide) (by decide)) hS hi) ?_
  refine wp_ifp (by omega) (wp_some ⟨hF, ?_⟩)
  simp only
  rw [Int.toNat_natCast, g.2.2.2 _ h1, er_os M hS hi]
theorem mBeginning (M : mr n sg lb) (hS : ed_S f c lb (4 * n)) (S : mst t n sg lb) {k : Nat} (hk : k < pm_z c (pi_c f c n sg lb)) : wp_Q (fun q => md_F [13, 19] [14, 21] t q.1 ∧ mdc q.1 n c f sg lb ∧ ∃ j : Nat, j < c ∧ pm_L (pm_R (pi_c f c n sg lb)) j ∧ pm_c (pm_L (pm_R (pi_c f c n sg lb))) j = k ∧ q.2 = f j) (fX6_beginning t (k : Int)) := by
  have hn := M.1
  have hc := ed_c M hS
  have hP := pcP M hS
  have E := pm_RE hP
  unfold fX6_beginning
  refine wp_bind (mComponents M hS S) (fun t1 ⟨hF, g⟩ => ?_)
  have S1 := S.F hF (by decide) (by decide) (by decide)
  rw [g.1]
  refine wp_ifp (by omega) ?_
  generalize hπ : pi_c f c n sg lb = π at hk hP E ⊢
  refine wp_loop (fun x => ∃ m : Nat, m ≤ c ∧ x.1 = t1 ∧ x.2.1 = (k : Int) ∧ x.2.2.2 = (m : Int) - 1 ∧ ((x.2.2.1 = 0 ∧ ∀ i, m ≤ i → i < c → rn (pm_R π) i ≠ k) ∨ ∃ j, m ≤ j ∧ j < c ∧ x.2.2.1 = f j ∧ rn (pm_R π) j = k ∧ ∀ i, m ≤ i → i < j → rn (pm_R π) i ≠ k)) (fun x => (x.2.2.2 + 1).toNat) ?_ ⟨c, Nat.le_refl c, rfl, rfl, rfl, Or.inl ⟨rfl, fun i a b => by omega⟩⟩ (by rw [gt_fuel_eq]; simp only; omega)
  intro kk ⟨x1, x2, x3, x4⟩ ⟨m, hm, e1, e2, e3, e4⟩ ih
  simp only at e1 e2 e3 e4
  subst e1; subst e2; subst e3
  unfold fX6_beginning_13 fX6_beginning_47
  simp only
  refine wp_if (fun c1 => wp_some ⟨hF, g, ?_⟩) (fun c1 => ?_)
  · have hm0 : m = 0 := by omega
    subst hm0
    obtain ⟨j0, j1, j2, j3⟩ := pm_c_nth hk
    have hr0 : rn (pm_R π) j0 = k := by unfold rn; rw [(pm_m_self E j1).mpr j2, j3]
    rcases e4 with ⟨_, q⟩ | ⟨j, _, q2, q3, q4, q5⟩
    · exact absurd hr0 (q j0 (Nat.zero_le _) j1)
    · refine ⟨j, q2, ?_, ?_, q3⟩
      · intro i hi hr
        exact q5 i (Nat.zero_le _) hi (by rw [← q4]; exact ((rn_iff E q2 (by omega)).mpr hr).symm)
      · have hL : pm_L (pm_R π) j := fun i hi hr => q5 i (Nat.zero_le _) hi (by rw [← q4]; exact ((rn_iff E q2 (by omega)).mpr hr).symm)
        rw [← q4]; unfold rn; rw [(pm_m_self E q2).mpr hL]
  · obtain ⟨i, rfl⟩ : ∃ i, m = i + 1 := ⟨m - 1, by omega⟩
    have ei : ((i + 1 : Nat) : Int) - 1 = (i : Int) := by omega
    rw [ei, Int.toNat_natCast, g.2.1 i (by omega)]
    have hi : i < c := by omega
    have h1 := (fos M hS hi).1
    refine wp_ifp (by omega) ?_
    refine wp_eq (fP1 M S1 hS hi) ?_
    refine wp_ifp (by omega) ?_
    rw [Int.toNat_natCast, g.2.2.2 _ h1, er_os M hS hi, hπ]
    refine wp_if (fun c2 => ?_) (fun c2 => ?_)
    · refine wp_ifp (by omega) ?_
      refine wp_ifp (by omega) ?_
      exact ih _ ⟨i, by omega, rfl, rfl, by simp only; omega, Or.inr ⟨i, Nat.le_refl _, hi, rfl, by omega, fun j a b => by omega⟩⟩ (by simp only; omega)
    · refine wp_ifp (by omega) ?_
      refine ih _ ⟨i, by omega, rfl, rfl, by simp only; omega, ?_⟩ (by simp only; omega)
      have hne : rn (pm_R π) i ≠ k := fun q => c2 (by rw [q])
      rcases e4 with ⟨q1, q2⟩ | ⟨j, q1, q2, q3, q4, q5⟩
      · exact Or.inl ⟨q1, fun j a b => by
          by_cases z : j = i
          · rw [z]; exact hne
          · exact q2 j (by omega) b⟩
      · exact Or.inr ⟨j, by omega, q2, q3, q4, fun j' a b => by
          by_cases z : j' = i
          · rw [z]; exact hne
          · exact q5 j' (by omega) b⟩
theorem md_pc_m {T : gt_T} (h : md_pc T n lb) {k : Nat} (hk : k < n) : T.2 18 k = (pm_m (pr_L n lb) k : Int) := by
  obtain ⟨a, b, d⟩ := pm_m_spec (pr_E n n lb) hk
  exact h k _ hk (by omega) b d
theorem mPieceOf (M : mr n sg lb) (S : mst t n sg lb) {k : Nat} (hk : k < n) : wp_Q (fun q => md_F [] [18] t q.1 ∧ q.2 = (rn (pr_L n lb) k : Int)) (fX6_pieceOf t (k : Int)) := by
  have hn := M.1
  have E := pr_E n n lb
  unfold fX6_pieceOf
  refine wp_bind (sX6_hang hn S.1 S.2.2) (fun t1 ⟨hF, g⟩ => ?_)
  have hm := (pm_m_spec E hk).1
  refine wp_loop (fun x => ∃ i : Nat, i ≤ pm_m (pr_L n lb) k ∧ x.1 = t1 ∧ x.2.1 = (k : Int) ∧ x.2.2.2 = (i : Int) ∧ x.2.2.1 = (pm_c (pm_L (pr_L n lb)) i : Int)) (fun x => 200 - x.2.2.2.toNat) ?_ ⟨0, Nat.zero_le _, rfl, rfl, rfl, rfl⟩ (by rw [gt_fuel_eq]; omega)
  intro kk ⟨x1, x2, x3, x4⟩ ⟨i, hi, e1, e2, e3, e4⟩ ih
  simp only at e1 e2 e3 e4
  subst e1; subst e2; subst e3; subst e4
  have hci := pm_c_le (pm_L (pr_L n lb)) i
  unfold fX6_pieceOf_8 fX6_pieceOf_34
  simp only
  rw [Int.toNat_natCast, Int.toNat_natCast, md_pc_m g hk]
  refine wp_ifp (by omega) ?_
  refine wp_if (fun c1 => wp_some ⟨hF, ?_⟩) (fun c1 => ?_)
  · unfold rn; rw [show i = pm_m (pr_L n lb) k by omega]
  · refine wp_ifp (by omega) ?_
    rw [md_pc_m g (show i < n by omega)]
    have hs := pm_m_self E (show i < n by omega)
    refine wp_if (fun c2 => ?_) (fun c2 => ?_)
    · have hl := hs.mp (by omega)
      refine wp_ifp (by omega) ?_
      exact ih _ ⟨i + 1, by omega, rfl, rfl, by simp only; omega, by simp only; rw [pm_c_y hl]; omega⟩ (by simp only; omega)
    · have hl : ¬ pm_L (pr_L n lb) i := fun q => c2 (by rw [hs.mpr q])
      refine wp_ifp (by omega) ?_
      exact ih _ ⟨i + 1, by omega, rfl, rfl, by simp only; omega, by simp only; rw [pm_c_n hl]; omega⟩ (by simp only; omega)
theorem mPieces (M : mr n sg lb) (S : mst t n sg lb) : wp_Q (fun q => md_F [] [18] t q.1 ∧ q.2 = (pm_n n (pr_L n lb) : Int)) (fX6_pieces t) := by
  have hn := M.1
  have E := pr_E n n lb
  unfold fX6_pieces
  refine wp_bind (sX6_hang hn S.1 S.2.2) (fun t1 ⟨hF, g⟩ => ?_)
  have h5 : t1.1 5 = (n : Int) := (S.F hF (by decide) (by decide) (by decide)).1
  refine wp_loop (fun x => ∃ i : Nat, i ≤ n ∧ x.1 = t1 ∧ x.2.2 = (i : Int) ∧ x.2.1 = (pm_c (pm_L (pr_L n lb)) i : Int)) (fun x => 200 - x.2.2.toNat) ?_ ⟨0, Nat.zero_le _, rfl, rfl, rfl⟩ (by rw [gt_fuel_eq]; omega)
  intro kk ⟨x1, x3, x4⟩ ⟨i, hi, e1, e3, e4⟩ ih
  simp only at e1 e3 e4
  subst e1; subst e3; subst e4
  have hci := pm_c_le (pm_L (pr_L n lb)) i
  unfold fX6_pieces_8 fX6_pieces_32
  simp only
  rw [Int.toNat_natCast, h5]
  refine wp_if (fun c1 => wp_some ⟨hF, ?_⟩) (fun c1 => ?_)
  · unfold pm_n; rw [show i = n by omega]
  · refine wp_ifp (by omega) ?_
    rw [md_pc_m g (show i < n by omega)]
    have hs := pm_m_self E (show i < n by omega)
    refine wp_if (fun c2 => ?_) (fun c2 => ?_)
    · have hl := hs.mp (by omega)
      refine wp_ifp (by omega) ?_
      exact ih _ ⟨i + 1, by omega, rfl, by simp only; omega, by simp only; rw [pm_c_y hl]; omega⟩ (by simp only; omega)
    · have hl : ¬ pm_L (pr_L n lb) i := fun q => c2 (by rw [hs.mpr q])
      refine wp_ifp (by omega) ?_
      exact ih _ ⟨i + 1, by omega, rfl, by simp only; omega, by simp only; rw [pm_c_n hl]; omega⟩ (by simp only; omega)
theorem mFaceAt (M : mr n sg lb) (hS : ed_S f c lb (4 * n)) (S : mst t n sg lb) {i o : Nat} (hi : i < c) (ho : o < 2) : wp_Q (fun q => md_F [13, 20] [14, 22] t q.1 ∧ q.2 = (rn (pm_R (pi_q f c n sg lb)) (2 * i + o) : Int)) (fX6_faceAt t (f i) (o : Int)) := by
  have hn := M.1
  have hc := ed_c M hS
  unfold fX6_faceAt
  refine wp_bind (mFaces M hS S) (fun t1 ⟨hF, g⟩ => ?_)
  have hS1 : ed_S (t1.2 14) c lb (4 * n) := hS.f (fun i hi => (g.2.1 i hi).symm)
  have h1 := sX6_rowOf hS1 (by omega) hi
  rw [g.2.1 i hi] at h1
  refine wp_eq h1 ?_
  refine wp_ifp (by omega) (wp_some ⟨hF, ?_⟩)
  simp only
  rw [show ((2 : Int) * (i : Int) + (o : Int)).toNat = 2 * i + o by omega, g.2.2.2 _ (by omega)]
def sm_i (g : Nat → Int) : Nat → Int
  | 0 => 0
  | m + 1 => sm_i g m + g m
theorem sm_i_b {g : Nat → Int} : ∀ {m : Nat}, (∀ i, i < m → -1 ≤ g i ∧ g i ≤ 1) → -(m : Int) ≤ sm_i g m ∧ sm_i g m ≤ (m : Int)
  | 0, _ => ⟨Int.le_refl 0, Int.le_refl 0⟩
  | m + 1, h => by
    have h1 := sm_i_b (m := m) (fun i hi => h i (by omega))
    have h2 := h m (by omega)
    unfold sm_i
    omega
theorem sm_i_congr {g g' : Nat → Int} : ∀ {m : Nat}, (∀ i, i < m → g i = g' i) → sm_i g m = sm_i g' m
  | 0, _ => rfl
  | m + 1, h => by
    unfold sm_i
    rw [sm_i_congr (fun i hi => h i (by omega)), h m (by omega)]
theorem sm_i_add {g g' : Nat → Int} : ∀ {m : Nat}, sm_i g m + sm_i g' m = sm_i (fun i => g i + g' i) m
  | 0 => rfl
  | m + 1 => by
    unfold sm_i
    rw [← sm_i_add (m := m)]; omega
theorem mr_sg (M : mr n sg lb) {k : Nat} (hk : k < n) : -1 ≤ sg k ∧ sg k ≤ 1 := by
  rcases M.2.1 k hk with h | h <;> rw [h] <;> decide
theorem mSigns (M : mr n sg lb) (S : mst t n sg lb) : fX6_signs t = some (sm_i sg n) := by
  have hn := M.1
  unfold fX6_signs
  refine wp_get ?_
  refine wp_loop (fun x => ∃ i : Nat, i ≤ n ∧ x.2 = (i : Int) ∧ x.1 = sm_i sg i) (fun x => 200 - x.2.toNat) ?_ ⟨0, Nat.zero_le _, rfl, rfl⟩ (by rw [gt_fuel_eq]; omega)
  intro kk ⟨x3, x4⟩ ⟨i, hi, e3, e4⟩ ih
  simp only at e3 e4
  subst e3; subst e4
  unfold fX6_signs_4
  simp only
  rw [Int.toNat_natCast, S.1, S.2.1]
  refine wp_if (fun c1 => wp_some ?_) (fun c1 => ?_)
  · rw [show i = n by omega]
  · have h1 := sm_i_b (g := sg) (m := i) (fun k hk => mr_sg M (show k < n by omega))
    have h2 := mr_sg M (show i < n by omega)
    refine wp_ifp (by omega) ?_
    exact ih _ ⟨i + 1, by omega, by simp only; omega, rfl⟩ (by simp only; omega)
/-- what the signs count of component k under component j -/
noncomputable def sg_u (f : Nat → Int) (c n : Nat) (sg lb : Nat → Int) (k j : Nat) (i : Nat) : Int := @ite Int (rn (pm_R (pi_c f c n sg lb)) (er f (lb (4 * i)) c) = k ∧ rn (pm_R (pi_c f c n sg lb)) (er f (lb (4 * i + 1)) c) = j) (Classical.propDecidable _) (sg i) 0
noncomputable def sg_t (f : Nat → Int) (c n : Nat) (sg lb : Nat → Int) (k j : Nat) (i : Nat) : Int := @ite Int ((rn (pm_R (pi_c f c n sg lb)) (er f (lb (4 * i)) c) = k ∧ rn (pm_R (pi_c f c n sg lb)) (er f (lb (4 * i + 1)) c) = j) ∨ (rn (pm_R (pi_c f c n sg lb)) (er f (lb (4 * i)) c) = j ∧ rn (pm_R (pi_c f c n sg lb)) (er f (lb (4 * i + 1)) c) = k)) (Classical.propDecidable _) (sg i) 0
theorem mTogether (M : mr n sg lb) (S : mst t n sg lb) (g : ∀ a, a < 4 * n → t.2 21 a = (rn (pm_R (pi_c f c n sg lb)) (er f (lb a) c) : Int)) (k j : Nat) : fX6_together t (k : Int) (j : Int) = some (sm_i (sg_t f c n sg lb k j) n) := by
  have hn := M.1
  unfold fX6_together
  have b1 : ∀ i, i < n → -1 ≤ sg_t f c n sg lb k j i ∧ sg_t f c n sg lb k j i ≤ 1 := fun i hi => by
    unfold sg_t
    split
    · exact mr_sg M hi
    · decide
  refine wp_get ?_
  refine wp_loop (fun x => ∃ i : Nat, i ≤ n ∧ x.1 = (k : Int) ∧ x.2.1 = (j : Int) ∧ x.2.2.2 = (i : Int) ∧ x.2.2.1 = sm_i (sg_t f c n sg lb k j) i) (fun x => 200 - x.2.2.2.toNat) ?_ ⟨0, Nat.zero_le _, rfl, rfl, rfl, rfl⟩ (by rw [gt_fuel_eq]; omega)
  intro kk ⟨x1, x2, x3, x4⟩ ⟨i, hi, e1, e2, e3, e4⟩ ih
  simp only at e1 e2 e3 e4
  subst e1; subst e2; subst e3; subst e4
  unfold fX6_together_5
  simp only
  rw [S.1]
  refine wp_if (fun c1 => wp_some ?_) (fun c1 => ?_)
  · rw [show i = n by omega]
  · have h1 := sm_i_b (g := sg_t f c n sg lb k j) (m := i) (fun k hk => b1 k (show k < n by omega))
    have h2 := b1 i (by omega)
    rw [show ((4 : Int) * (i : Int)).toNat = 4 * i by omega, show ((4 : Int) * (i : Int) + 1).toNat = 4 * i + 1 by omega, g (4 * i) (by omega), g (4 * i + 1) (by omega)]
    have hy : ∀ v : Int, v = sg_t f c n sg lb k j i → wp_Q (fun r => r = sm_i (sg_t f c n sg lb k j) n) (fX6_together_74 t kk (k : Int) (j : Int) (i : Int) (sm_i (sg_t f c n sg lb k j) i) v) := fun v hv => by
      subst hv
      unfold fX6_together_74
      refine wp_ifp (by omega) ?_
      exact ih _ ⟨i + 1, by omega, rfl, rfl, by simp only; omega, rfl⟩ (by simp only; omega)
    generalize hA : rn (pm_R (pi_c f c n sg lb)) (er f (lb (4 * i)) c) = A
    generalize hB : rn (pm_R (pi_c f c n sg lb)) (er f (lb (4 * i + 1)) c) = B
    have hw : sg_t f c n sg lb k j i = @ite Int ((A = k ∧ B = j) ∨ (A = j ∧ B = k)) (Classical.propDecidable _) (sg i) 0 := by
      unfold sg_t; rw [hA, hB]
    have yes : (A = k ∧ B = j) ∨ (A = j ∧ B = k) → wp_Q (fun r => r = sm_i (sg_t f c n sg lb k j) n) (fX6_together_63 t kk (k : Int) (j : Int) (i : Int) (sm_i (sg_t f c n sg lb k j) i)) := fun q => by
      unfold fX6_together_63
      refine wp_ifp (by omega) (hy _ ?_)
      rw [hw, if_pos q, Int.toNat_natCast, S.2.1]
    have no : ¬ ((A = k ∧ B = j) ∨ (A = j ∧ B = k)) → wp_Q (fun r => r = sm_i (sg_t f c n sg lb k j) n) (fX6_together_73 t kk (k : Int) (j : Int) (i : Int) (sm_i (sg_t f c n sg lb k j) i)) := fun q => by
      unfold fX6_together_73
      refine hy _ ?_
      rw [hw, if_neg q]
    unfold fX6_together_51
    refine wp_ifp (by omega) ?_
    refine wp_if (fun d1 => wp_if (fun d2 => yes (by omega)) (fun d2 => ?_)) (fun d1 => ?_)
    · exact wp_if (fun d3 => wp_if (fun d4 => yes (by omega)) (fun d4 => no (by omega))) (fun d3 => no (by omega))
    · exact wp_if (fun d3 => wp_if (fun d4 => yes (by omega)) (fun d4 => no (by omega))) (fun d3 => no (by omega))
theorem pm_it_lo {π : Nat → Nat} {N j : Nat} (hP : pm_P N π) (hj : j < N) : ∃ p, p ≤ N ∧ pm_o π j p := by
  obtain ⟨p, h1, h2, h3, h4⟩ := pm_per hP hj
  exact ⟨p, h2, h1, h3, h4⟩
theorem mEdgesOf (M : mr n sg lb) (hS : ed_S f c lb (4 * n)) (S : mst t n sg lb) {j p : Nat} (hj : j < c) (hp : pm_o (pi_c f c n sg lb) j p) (hpc : p ≤ c) : fX6_edgesOf t (f j) = some (p : Int) := by
  have hn := M.1
  have hc := ed_c M hS
  have hP := pcP M hS
  obtain ⟨p1, p2, p3⟩ := hp
  unfold fX6_edgesOf
  refine wp_get ?_
  refine wp_eq (fNx M S hS hj) ?_
  refine wp_loop (fun x => ∃ q : Nat, 1 ≤ q ∧ q ≤ p ∧ x.1 = f j ∧ x.2.1 = (q : Int) ∧ x.2.2 = f (pm_it (pi_c f c n sg lb) q j)) (fun x => 200 - x.2.1.toNat) ?_ ⟨1, Nat.le_refl 1, p1, rfl, rfl, rfl⟩ (by rw [gt_fuel_eq]; omega)
  intro kk ⟨x1, x2, x3⟩ ⟨q, q1, q2, e1, e2, e3⟩ ih
  simp only at e1 e2 e3
  subst e1; subst e2; subst e3
  have hl := pm_it_lt hP hj q
  unfold fX6_edgesOf_8
  simp only
  refine wp_if (fun c1 => wp_some ?_) (fun c1 => ?_)
  · have e := hS.inj hl hj c1
    rcases Nat.lt_or_ge q p with z | z
    · exact absurd e (p3 q q1 z)
    · rw [show q = p by omega]
  · have hqp : q ≠ p := fun z => c1 (by rw [z, p2])
    refine wp_ifp (by omega) ?_
    refine wp_eq (fNx M S hS hl) ?_
    exact ih _ ⟨q + 1, by omega, by omega, rfl, by simp only; omega, rfl⟩ (by simp only; omega)
theorem mAlt (M : mr n sg lb) (hS : ed_S f c lb (4 * n)) (S : mst t n sg lb) : wp_Q (fun v => (v = 1 ∧ ∀ i, i < c → os sg lb (4 * n) (f i) % 2 ≠ is sg lb (4 * n) (f i) % 2) ∨ (v = 0 ∧ ∃ i, i < c ∧ os sg lb (4 * n) (f i) % 2 = is sg lb (4 * n) (f i) % 2)) (fX6_isAlternating t) := by
  have hn := M.1
  have hc := ed_c M hS
  unfold fX6_isAlternating
  refine wp_loop (fun x => ∃ a : Nat, a ≤ 4 * n ∧ x.2 = (a : Int) ∧ ((x.1 = 1 ∧ ∀ b, b < a → na_out sg b → b % 2 ≠ is sg lb (4 * n) (lb b) % 2) ∨ (x.1 = 0 ∧ ∃ i, i < c ∧ os sg lb (4 * n) (f i) % 2 = is sg lb (4 * n) (f i) % 2))) (fun x => 200 - x.2.toNat) ?_ ⟨0, Nat.zero_le _, rfl, Or.inl ⟨rfl, fun b hb => absurd hb (Nat.not_lt_zero b)⟩⟩ (by rw [gt_fuel_eq]; omega)
  intro kk ⟨x1, x2⟩ ⟨a, ha, e1, e2⟩ ih
  simp only at e1 e2
  subst e1
  unfold fX6_isAlternating_4 fX6_isAlternating_51 fX6_isAlternating_47 fX6_isAlternating_52
  simp only
  rw [S.1]
  refine wp_ifp (by omega) ?_
  refine wp_if (fun c1 => ?_) (fun c1 => ?_)
  · have han : a = 4 * n := by omega
    subst han
    rcases e2 with ⟨e2, q⟩ | ⟨e2, q⟩
    · refine wp_ifp (Or.inr e2) (wp_some (Or.inl ⟨e2, fun i hi => ?_⟩))
      obtain ⟨o1, o2, o3⟩ := fos M hS hi
      have := q _ o1 o3
      rw [o2] at this; exact this
    · exact wp_ifp (Or.inl e2) (wp_some (Or.inr ⟨e2, q⟩))
  · have hal : a < 4 * n := by omega
    refine wp_if (fun c2 => ?_) (fun c2 => ?_)
    · refine wp_ifp (by omega) (ih _ ⟨a + 1, by omega, by simp only; omega, ?_⟩ (by simp only; omega))
      rcases e2 with ⟨e2, q⟩ | ⟨e2, q⟩
      · omega
      · exact Or.inr ⟨rfl, q⟩
    · have e2' : x1 = 1 ∧ ∀ b, b < a → na_out sg b → b % 2 ≠ is sg lb (4 * n) (lb b) % 2 := by
        rcases e2 with q | ⟨e2, q⟩
        · exact q
        · omega
      have stay : (na_out sg a → a % 2 ≠ is sg lb (4 * n) (lb a) % 2) → ∀ b, b < a + 1 → na_out sg b → b % 2 ≠ is sg lb (4 * n) (lb b) % 2 := fun h b hb => by
        by_cases z : b = a
        · rw [z]; exact h
        · exact e2'.2 b (by omega)
      rcases mIsOut M S hal with ⟨ho, he⟩ | ⟨ho, he⟩
      · refine wp_eq he ?_
        refine wp_ifn (by decide) ?_
        refine wp_eq (sX6_isUpper a) ?_
        refine wp_ifp (by omega) ?_
        rw [Int.toNat_natCast, S.2.2]
        refine wp_eq (mP0 M S hal) ?_
        refine wp_eq (sX6_isUpper _) ?_
        refine wp_if (fun c3 => wp_ifp (by omega) (ih _ ⟨a + 1, by omega, by simp only; omega, Or.inr ⟨rfl, ?_⟩⟩ (by simp only; omega))) (fun c3 => wp_ifp (by omega) (ih _ ⟨a + 1, by omega, by simp only; omega, Or.inl ⟨rfl, stay (fun _ => ?_)⟩⟩ (by simp only; omega)))
        · obtain ⟨i1, i2⟩ := er_lb hS hal
          refine ⟨er f (lb a) c, i1, ?_⟩
          rw [i2, dg_os_o M.2.2.2 hal ho]
          split at c3 <;> split at c3 <;> omega
        · split at c3 <;> split at c3 <;> omega
      · refine wp_eq he ?_
        refine wp_ifp rfl ?_
        exact wp_ifp (by omega) (ih _ ⟨a + 1, by omega, by simp only; omega, Or.inl ⟨rfl, stay (fun q => absurd q ho)⟩⟩ (by simp only; omega))
end MT
