/-! A chart: what a survey finds. -/
/-- what hangs together by k pairs -/
def cl_r (k : Nat) (A B : Nat → Nat) (i j : Nat) : Prop := ∀ P : Nat → Prop, (∀ e, e < k → (P (A e) ↔ P (B e))) → (P i ↔ P j)
theorem cl_E (N k : Nat) (A B : Nat → Nat) : pm_E N (cl_r k A B) := ⟨fun _ _ _ _ => Iff.rfl, fun _ _ _ _ h P h1 => (h P h1).symm, fun _ _ _ _ _ _ h h' P h1 => (h P h1).trans (h' P h1)⟩
theorem cl_0 {A B : Nat → Nat} {i j : Nat} : cl_r 0 A B i j ↔ i = j := ⟨fun h => ((h (fun x => i = x) (fun e he => absurd he (Nat.not_lt_zero e))).mp rfl), fun h P _ => by rw [h]⟩
theorem cl_s {N k : Nat} {A B : Nat → Nat} (hA : ∀ e, e ≤ k → A e < N) (hB : ∀ e, e ≤ k → B e < N) {i j : Nat} (hi : i < N) (hj : j < N) : pm_M (cl_r k A B) (A k) (B k) i j ↔ cl_r (k + 1) A B i j := by
  constructor
  · intro h P hP
    have h1 : ∀ e, e < k → (P (A e) ↔ P (B e)) := fun e he => hP e (by omega)
    have h2 := hP k (by omega)
    rcases h with q | ⟨q1, q2⟩ | ⟨q1, q2⟩
    · exact q P h1
    · exact ((q1 P h1).trans h2).trans (q2 P h1)
    · exact ((q1 P h1).trans h2.symm).trans (q2 P h1)
  · intro h
    have E := pm_ME (cl_E N k A B) (hA k (Nat.le_refl k)) (hB k (Nat.le_refl k))
    refine ((h (fun x => x < N ∧ pm_M (cl_r k A B) (A k) (B k) i x) (fun e he => ?_)).mp ⟨hi, E.1 i hi⟩).2
    have ha := hA e (by omega)
    have hb := hB e (by omega)
    have rel : pm_M (cl_r k A B) (A k) (B k) (A e) (B e) := by
      rcases Nat.lt_or_ge e k with q | q
      · exact Or.inl (fun P hP => hP e q)
      · rw [show e = k by omega]; exact Or.inr (Or.inl ⟨fun _ _ => Iff.rfl, fun _ _ => Iff.rfl⟩)
    exact ⟨fun q => ⟨hb, E.2.2 _ _ _ hi ha hb q.2 rel⟩, fun q => ⟨ha, E.2.2 _ _ _ hi hb ha q.2 (E.2.1 _ _ ha hb rel)⟩⟩
theorem gp_L.congr {t : gt_T} {N : Nat} {r s : Nat → Nat → Prop} (h : gp_L t N r) (e : ∀ i j, i < N → j < N → (r i j ↔ s i j)) : gp_L t N s :=
  ⟨h.1, fun i j hi hj hs hl => h.2 i j hi hj ((e i j hi hj).mpr hs) (fun k hk hr => hl k hk ((e j k hj (by omega)).mp hr))⟩
theorem pm_L_congr {N : Nat} {r s : Nat → Nat → Prop} (e : ∀ i j, i < N → j < N → (r i j ↔ s i j)) {j : Nat} (hj : j < N) : pm_L r j ↔ pm_L s j := ⟨fun h k hk q => h k hk ((e j k hj (by omega)).mpr q), fun h k hk q => h k hk ((e j k hj (by omega)).mp q)⟩
theorem gp_ok.congr {t : gt_T} {N : Nat} {r s : Nat → Nat → Prop} (h : gp_ok t N r) (e : ∀ i j, i < N → j < N → (r i j ↔ s i j)) : gp_ok t N s := by
  refine ⟨h.1.congr e, by rw [h.2.1, pm_n_congr e], fun i j hi hj hs hl => ?_⟩
  rw [h.2.2 i j hi hj ((e i j hi hj).mpr hs) ((pm_L_congr e hj).mpr hl)]
  congr 1
  exact pm_c_congr (fun k hk => pm_L_congr e (by omega))
theorem sX1_from {T : gt_T} {c i : Nat} (h5 : T.1 5 = (c : Int)) (hc : c ≤ 80) (hi : i < c) : fX1_from T (i : Int) = some (T.2 2 i) := by
  unfold fX1_from fX1_from_18
  rw [sX1_has, h5, if_pos (show (0 : Int) ≤ (i : Int) ∧ (i : Int) < (c : Int) by omega)]
  simp only [Option.bind_some]
  rw [if_neg (show ¬ (1 : Int) = 0 by decide), if_pos (show 0 ≤ (i : Int) ∧ (i : Int) < 80 by omega), Int.toNat_natCast]
theorem sX1_to {T : gt_T} {c i : Nat} (h5 : T.1 5 = (c : Int)) (hc : c ≤ 80) (hi : i < c) : fX1_to T (i : Int) = some (T.2 3 i) := by
  unfold fX1_to fX1_to_18
  rw [sX1_has, h5, if_pos (show (0 : Int) ≤ (i : Int) ∧ (i : Int) < (c : Int) by omega)]
  simp only [Option.bind_some]
  rw [if_neg (show ¬ (1 : Int) = 0 by decide), if_pos (show 0 ≤ (i : Int) ∧ (i : Int) < 80 by omega), Int.toNat_natCast]
theorem sX1_label {T : gt_T} {c i : Nat} (h5 : T.1 5 = (c : Int)) (hc : c ≤ 80) (hi : i < c) : fX1_label T (i : Int) = some (T.2 0 i) := by
  unfold fX1_label fX1_label_18
  rw [sX1_has, h5, if_pos (show (0 : Int) ≤ (i : Int) ∧ (i : Int) < (c : Int) by omega)]
  simp only [Option.bind_some]
  rw [if_neg (show ¬ (1 : Int) = 0 by decide), if_pos (show 0 ≤ (i : Int) ∧ (i : Int) < 80 by omega), Int.toNat_natCast]
theorem sX1_at (T : gt_T) {a : Nat} (ha : a < 80) : fX1_at T (a : Int) = some (T.2 4 a) := by
  unfold fX1_at fX1_at_20
  rw [if_neg (show ¬ (a : Int) < 0 by omega), if_neg (show ¬ (80 : Int) ≤ (a : Int) by omega), if_pos (show 0 ≤ (a : Int) ∧ (a : Int) < 80 by omega), Int.toNat_natCast]
/-- row and edges of a chart are those of a diagram but for spheres -/
def ch_E (rw ed : gt_T) (n c : Nat) : Prop := rw_ok rw n ∧ dg_D n (rw.2 0) (rw.2 1) ∧ ed.1 5 = (c : Int) ∧ ed_S (ed.2 0) c (rw.2 1) (4 * n) ∧ c = 2 * n ∧ (∀ i, i < c → ed.2 2 i = (os (rw.2 0) (rw.2 1) (4 * n) (ed.2 0 i) : Int) ∧ ed.2 3 i = (is (rw.2 0) (rw.2 1) (4 * n) (ed.2 0 i) : Int)) ∧ ∀ a, a < 4 * n → ed.2 4 a = (er (ed.2 0) (rw.2 1 a) c : Int)
/-- crossings that hang together by labels -/
def pr_L (n : Nat) (lb : Nat → Int) (i j : Nat) : Prop := ∀ P : Nat → Prop, (∀ a b, a < 4 * n → b < 4 * n → lb a = lb b → (P (a / 4) ↔ P (b / 4))) → (P i ↔ P j)
theorem pr_E (N n : Nat) (lb : Nat → Int) : pm_E N (pr_L n lb) := ⟨fun _ _ _ _ => Iff.rfl, fun _ _ _ _ h P h1 => (h P h1).symm, fun _ _ _ _ _ _ h h' P h1 => (h P h1).trans (h' P h1)⟩
theorem ch_os {rw ed : gt_T} {n c i : Nat} (h : ch_E rw ed n c) (hi : i < c) : os (rw.2 0) (rw.2 1) (4 * n) (ed.2 0 i) < 4 * n ∧ rw.2 1 (os (rw.2 0) (rw.2 1) (4 * n) (ed.2 0 i)) = ed.2 0 i ∧ na_out (rw.2 0) (os (rw.2 0) (rw.2 1) (4 * n) (ed.2 0 i)) := by
  obtain ⟨a, a1, a2⟩ := h.2.2.2.1.2.2.1 i hi
  rw [← a2]
  exact dg_os h.2.1 a1
theorem ch_is {rw ed : gt_T} {n c i : Nat} (h : ch_E rw ed n c) (hi : i < c) : is (rw.2 0) (rw.2 1) (4 * n) (ed.2 0 i) < 4 * n ∧ rw.2 1 (is (rw.2 0) (rw.2 1) (4 * n) (ed.2 0 i)) = ed.2 0 i ∧ ¬ na_out (rw.2 0) (is (rw.2 0) (rw.2 1) (4 * n) (ed.2 0 i)) := by
  obtain ⟨a, a1, a2⟩ := h.2.2.2.1.2.2.1 i hi
  rw [← a2]
  exact dg_is h.2.1 a1
theorem pr_cl {rw ed : gt_T} {n c : Nat} (h : ch_E rw ed n c) (i j : Nat) : cl_r c (fun e => os (rw.2 0) (rw.2 1) (4 * n) (ed.2 0 e) / 4) (fun e => is (rw.2 0) (rw.2 1) (4 * n) (ed.2 0 e) / 4) i j ↔ pr_L n (rw.2 1) i j := by
  constructor
  · intro q P hP
    refine q P (fun e he => ?_)
    obtain ⟨o1, o2, -⟩ := ch_os h he
    obtain ⟨i1, i2, -⟩ := ch_is h he
    exact hP _ _ o1 i1 (by rw [o2, i2])
  · intro q P hP
    refine q P (fun a b ha hb e => ?_)
    obtain ⟨k, hk, ek⟩ := h.2.2.2.1.2.2.2 a ha
    have key : ∀ d, d < 4 * n → rw.2 1 d = ed.2 0 k → (P (d / 4) ↔ P (os (rw.2 0) (rw.2 1) (4 * n) (ed.2 0 k) / 4)) := by
      intro d hd ed'
      by_cases z : na_out (rw.2 0) d
      · have := dg_os_o h.2.1 hd z
        rw [ed'] at this
        rw [this]
      · have := dg_is_i h.2.1 hd z
        rw [ed'] at this
        have hp := hP k hk
        simp only [this] at hp
        exact hp.symm
    exact (key a ha ek.symm).trans (key b hb (by rw [← e, ek])).symm
theorem sX0_groupPieces {rw ed pc ar cm sf fc ow : gt_T} {n c : Nat} (h : ch_E rw ed n c) : wp_Q (fun q => ∃ pc', q = (rw, ed, pc', ar, cm, sf, fc, ow) ∧ gp_ok pc' n (pr_L n (rw.2 1))) (fX0_groupPieces (rw, ed, pc, ar, cm, sf, fc, ow)) := by
  have hn := h.1.2.1
  have hc := h.2.2.2.2.1
  unfold fX0_groupPieces
  refine wp_eq (sX4_crossings rw) ?_
  rw [h.1.1]
  refine wp_bind (sX2_begin (by omega)) (fun t0 h0 => ?_)
  refine wp_loop (fun a => ∃ (k : Nat) (t : gt_T), k ≤ c ∧ a = ((rw, ed, t, ar, cm, sf, fc, ow), (k : Int)) ∧ gp_L t n (cl_r k (fun e => os (rw.2 0) (rw.2 1) (4 * n) (ed.2 0 e) / 4) (fun e => is (rw.2 0) (rw.2 1) (4 * n) (ed.2 0 e) / 4))) (fun a => 200 - a.2.toNat) ?_ ⟨0, t0, Nat.zero_le c, rfl, h0.congr (fun i j _ _ => cl_0.symm)⟩ (by rw [gt_fuel_eq]; omega)
  intro k a ⟨m, t, hm, e1, g⟩ ih
  subst e1
  unfold fX0_groupPieces_16
  simp only
  refine wp_eq (show fX1_count ed = some (ed.1 5) from rfl) ?_
  rw [h.2.2.1]
  refine wp_if (fun c1 => ?_) (fun c1 => ?_)
  · have : m = c := by omega
    subst this
    refine wp_bind (sX2_numberGroups (cl_E n m _ _) (by omega) g) (fun t' h' => wp_some ⟨t', rfl, h'.congr (fun i j _ _ => pr_cl h i j)⟩)
  · have hmc : m < c := by omega
    refine wp_eq (sX1_from h.2.2.1 (by omega) hmc) ?_
    refine wp_eq (sX1_to h.2.2.1 (by omega) hmc) ?_
    have o1 := (ch_os h hmc).1
    have i1 := (ch_is h hmc).1
    rw [(h.2.2.2.2.2.1 m hmc).1, (h.2.2.2.2.2.1 m hmc).2, show Int.tdiv ((os (rw.2 0) (rw.2 1) (4 * n) (ed.2 0 m) : Nat) : Int) (4 : Int) = ((os (rw.2 0) (rw.2 1) (4 * n) (ed.2 0 m) / 4 : Nat) : Int) from na_td _ 4, show Int.tdiv ((is (rw.2 0) (rw.2 1) (4 * n) (ed.2 0 m) : Nat) : Int) (4 : Int) = ((is (rw.2 0) (rw.2 1) (4 * n) (ed.2 0 m) / 4 : Nat) : Int) from na_td _ 4]
    refine wp_bind (sX2_join (cl_E n m _ _) (by omega) g (by omega) (by omega)) (fun t' h' => ?_)
    refine wp_ifp (by omega) ?_
    refine ih _ ⟨m + 1, t', by omega, by rw [show (m : Int) + 1 = ((m + 1 : Nat) : Int) from rfl], h'.congr (fun i j hi hj => cl_s (N := n) (k := m) (A := fun e => os (rw.2 0) (rw.2 1) (4 * n) (ed.2 0 e) / 4) (B := fun e => is (rw.2 0) (rw.2 1) (4 * n) (ed.2 0 e) / 4) (fun e he => ?_) (fun e he => ?_) hi hj)⟩ (by simp only; omega)
    · have := (ch_os h (show e < c by omega)).1
      omega
    · have := (ch_is h (show e < c by omega)).1
      omega
theorem sX1_dartFrom {rw ed : gt_T} {n c a : Nat} (h : ch_E rw ed n c) (ha : a < 4 * n) : fX1_dartFrom ed (a : Int) = some (da_of (ed.2 0) c (rw.2 0) (rw.2 1) a : Int) := by
  have hn := h.1.2.1
  have hc := h.2.2.2.2.1
  obtain ⟨r1, r2⟩ := er_lb h.2.2.2.1 ha
  unfold fX1_dartFrom fX1_dartFrom_26 da_of
  rw [sX1_at ed (by omega)]
  simp only [Option.bind_some]
  rw [h.2.2.2.2.2.2 a ha, sX1_from h.2.2.1 (by omega) r1]
  simp only [Option.bind_some]
  rw [(h.2.2.2.2.2.1 _ r1).1, r2]
  by_cases z : na_out (rw.2 0) a
  · rw [if_pos z, if_pos (by rw [dg_os_o h.2.1 ha z]), if_pos (by omega)]
    rfl
  · rw [if_neg z, if_neg (fun q => ?_), if_pos (by omega)]
    · rfl
    · obtain ⟨o1, o2, o3⟩ := dg_os h.2.1 ha
      have : os (rw.2 0) (rw.2 1) (4 * n) (rw.2 1 a) = a := by omega
      rw [this] at o3
      exact z o3
theorem sX0_traceFaces {rw ed pc ar cm sf fc ow : gt_T} {n c : Nat} (h : ch_E rw ed n c) : wp_Q (fun q => ∃ fc', q = (rw, ed, pc, ar, cm, sf, fc', ow) ∧ rd_ok fc' (2 * c) (pi_d (ed.2 0) c (rw.2 0) (rw.2 1) (4 * n))) (fX0_traceFaces (rw, ed, pc, ar, cm, sf, fc, ow)) := by
  have hn := h.1.2.1
  have hc := h.2.2.2.2.1
  unfold fX0_traceFaces
  refine wp_eq (show fX1_count ed = some (ed.1 5) from rfl) ?_
  rw [h.2.2.1]
  refine wp_ifp (by omega) ?_
  refine wp_eq (show fX3_begin fc ((2 : Int) * (c : Int)) = some _ from rfl) ?_
  refine wp_loop (fun a => ∃ (k : Nat) (t : gt_T), k ≤ c ∧ a = ((rw, ed, pc, ar, cm, sf, t, ow), (k : Int)) ∧ t.1 4 = ((2 * c : Nat) : Int) ∧ t.1 5 = 0 ∧ ∀ i, i < 2 * k → t.2 0 i = (pi_d (ed.2 0) c (rw.2 0) (rw.2 1) (4 * n) i : Int)) (fun a => 200 - a.2.toNat) ?_ ⟨0, _, Nat.zero_le c, rfl, by simp only [va_up, Nat.reduceEqDiff, ↓reduceIte]; omega, by simp only [va_up, ↓reduceIte], fun i hi => absurd hi (by omega)⟩ (by rw [gt_fuel_eq]; omega)
  intro k a ⟨m, t, hm, e1, g4, g5, g0⟩ ih
  subst e1
  unfold fX0_traceFaces_18
  simp only
  refine wp_eq (show fX1_count ed = some (ed.1 5) from rfl) ?_
  rw [h.2.2.1]
  refine wp_if (fun c1 => ?_) (fun c1 => ?_)
  · have : m = c := by omega
    subst this
    exact wp_bind (sX3_trace (pi_d_P h.2.1 h.2.2.2.1) (by omega) g4 g5 g0) (fun t' h' => wp_some ⟨t', rfl, h'⟩)
  · have hmc : m < c := by omega
    obtain ⟨i1, i2, i3⟩ := ch_is h hmc
    obtain ⟨o1, o2, o3⟩ := ch_os h hmc
    refine wp_ifp (by omega) ?_
    refine wp_eq (sX1_to h.2.2.1 (by omega) hmc) ?_
    rw [(h.2.2.2.2.2.1 m hmc).2]
    refine wp_eq (sX4_beside (by omega)) ?_
    refine wp_eq (sX1_dartFrom h (na_beside_lt i1)) ?_
    rw [show (2 : Int) * (m : Int) = ((2 * m : Nat) : Int) from rfl]
    refine wp_eq (sX3_link g4 (by omega) (by omega) _) ?_
    refine wp_ifp (by omega) ?_
    refine wp_eq (sX1_from h.2.2.1 (by omega) hmc) ?_
    rw [(h.2.2.2.2.2.1 m hmc).1]
    refine wp_eq (sX4_beside (by omega)) ?_
    refine wp_eq (sX1_dartFrom h (na_beside_lt o1)) ?_
    rw [show ((2 * m : Nat) : Int) + 1 = ((2 * m + 1 : Nat) : Int) from rfl]
    refine wp_eq (sX3_link (T := (t.1, va_up t.2 0 _)) (N := 2 * c) (m := 2 * m + 1) g4 (by omega) (by omega) _) ?_
    refine wp_ifp (by omega) ?_
    refine ih _ ⟨m + 1, _, by omega, rfl, g4, g5, fun i hi => ?_⟩ (by simp only; omega)
    simp only [va_up, ↓reduceIte]
    by_cases q1 : i = 2 * m + 1
    · rw [if_pos q1, q1]
      unfold pi_d da_ar
      rw [if_neg (by omega), show (2 * m + 1) / 2 = m by omega]
    · rw [if_neg q1]
      by_cases q2 : i = 2 * m
      · rw [if_pos q2, q2]
        unfold pi_d da_ar
        rw [if_pos (by omega), show 2 * m / 2 = m by omega]
      · rw [if_neg q2]
        exact g0 i (by omega)
theorem sX0_traceStrands {rw ed pc ar cm sf fc ow : gt_T} {n c : Nat} (h : ch_E rw ed n c) : wp_Q (fun q => ∃ cm' sf', q = (rw, ed, pc, ar, cm', sf', fc, ow) ∧ rd_ok cm' c (pi_of (ed.2 0) c (rw.2 0) (rw.2 1) (4 * n) na_across) ∧ rd_ok sf' c (pi_of (ed.2 0) c (rw.2 0) (rw.2 1) (4 * n) (na_seif (rw.2 0)))) (fX0_traceStrands (rw, ed, pc, ar, cm, sf, fc, ow)) := by
  have hn := h.1.2.1
  have hc := h.2.2.2.2.1
  have P1 : pm_P c (pi_of (ed.2 0) c (rw.2 0) (rw.2 1) (4 * n) na_across) := pi_P h.2.1 h.2.2.2.1 (fun a ha => na_across_lt ha) (fun a _ q => (na_across_out _ a).mpr q) (fun a b _ _ q => by rw [← na_across_2 a, q, na_across_2])
  have P2 : pm_P c (pi_of (ed.2 0) c (rw.2 0) (rw.2 1) (4 * n) (na_seif (rw.2 0))) := pi_P h.2.1 h.2.2.2.1 (fun a ha => na_seif_lt ha) (fun a _ _ => na_seif_out _ a) (fun a b q1 q2 q => na_seif_inj q1 q2 q)
  unfold fX0_traceStrands
  refine wp_eq (show fX1_count ed = some (ed.1 5) from rfl) ?_
  rw [h.2.2.1]
  refine wp_eq (show fX3_begin cm (c : Int) = some _ from rfl) ?_
  refine wp_eq (show fX1_count ed = some (ed.1 5) from rfl) ?_
  rw [h.2.2.1]
  refine wp_eq (show fX3_begin sf (c : Int) = some _ from rfl) ?_
  refine wp_loop (fun a => ∃ (k : Nat) (t u : gt_T), k ≤ c ∧ a = ((rw, ed, pc, ar, t, u, fc, ow), (k : Int)) ∧ t.1 4 = (c : Int) ∧ t.1 5 = 0 ∧ u.1 4 = (c : Int) ∧ u.1 5 = 0 ∧ ∀ i, i < k → t.2 0 i = (pi_of (ed.2 0) c (rw.2 0) (rw.2 1) (4 * n) na_across i : Int) ∧ u.2 0 i = (pi_of (ed.2 0) c (rw.2 0) (rw.2 1) (4 * n) (na_seif (rw.2 0)) i : Int)) (fun a => 200 - a.2.toNat) ?_ ⟨0, _, _, Nat.zero_le c, rfl, by simp only [va_up, Nat.reduceEqDiff, ↓reduceIte]; omega, by simp only [va_up, ↓reduceIte], by simp only [va_up, Nat.reduceEqDiff, ↓reduceIte]; omega, by simp only [va_up, ↓reduceIte], fun i hi => absurd hi (by omega)⟩ (by rw [gt_fuel_eq]; omega)
  intro k a ⟨m, t, u, hm, e1, g4, g5, k4, k5, g0⟩ ih
  subst e1
  unfold fX0_traceStrands_30
  simp only
  refine wp_eq (show fX1_count ed = some (ed.1 5) from rfl) ?_
  rw [h.2.2.1]
  refine wp_if (fun c1 => ?_) (fun c1 => ?_)
  · have : m = c := by omega
    subst this
    refine wp_bind (sX3_trace P1 (by omega) g4 g5 (fun i hi => (g0 i hi).1)) (fun t' h1 => ?_)
    exact wp_bind (sX3_trace P2 (by omega) k4 k5 (fun i hi => (g0 i hi).2)) (fun u' h2 => wp_some ⟨t', u', rfl, h1, h2⟩)
  · have hmc : m < c := by omega
    obtain ⟨i1, i2, i3⟩ := ch_is h hmc
    have l1 := na_across_lt i1
    have l2 := na_seif_lt (sg := rw.2 0) i1
    refine wp_eq (sX1_to h.2.2.1 (by omega) hmc) ?_
    rw [(h.2.2.2.2.2.1 m hmc).2]
    refine wp_eq (sX4_across (by omega)) ?_
    refine wp_eq (sX1_at ed (by omega)) ?_
    rw [h.2.2.2.2.2.2 _ l1]
    refine wp_eq (sX3_link g4 (by omega) hmc _) ?_
    refine wp_eq (sX1_to h.2.2.1 (by omega) hmc) ?_
    rw [(h.2.2.2.2.2.1 m hmc).2]
    refine wp_eq (sX4_seifertOut h.1 i1) ?_
    refine wp_eq (sX1_at ed (by omega)) ?_
    rw [h.2.2.2.2.2.2 _ l2]
    refine wp_eq (sX3_link k4 (by omega) hmc _) ?_
    refine wp_ifp (by omega) ?_
    refine ih _ ⟨m + 1, _, _, by omega, rfl, g4, g5, k4, k5, fun i hi => ?_⟩ (by simp only; omega)
    simp only [va_up, ↓reduceIte]
    by_cases q1 : i = m
    · rw [if_pos q1, if_pos q1, q1]
      exact ⟨rfl, rfl⟩
    · rw [if_neg q1, if_neg q1]
      exact g0 i (by omega)
/-- edges that follow one another over upper places -/
noncomputable def ar_B (f : Nat → Int) (c : Nat) (sg lb : Nat → Int) (N e : Nat) : Nat := if is sg lb N (f e) % 2 = 0 then e else pi_of f c sg lb N na_across e
theorem sX3_next {T : gt_T} {N i : Nat} (h : T.1 4 = (N : Int)) (hN : N ≤ 80) (hi : i < N) : fX3_next T (i : Int) = some (T.2 0 i) := by
  unfold fX3_next fX3_next_18
  rw [sX3_hasMember, h, if_pos (show (0 : Int) ≤ (i : Int) ∧ (i : Int) < (N : Int) by omega)]
  simp only [Option.bind_some]
  rw [if_neg (show ¬ (1 : Int) = 0 by decide), if_pos (show 0 ≤ (i : Int) ∧ (i : Int) < 80 by omega), Int.toNat_natCast]
theorem sX3_roundOf {T : gt_T} {N i : Nat} (h : T.1 4 = (N : Int)) (hN : N ≤ 80) (hi : i < N) : fX3_roundOf T (i : Int) = some (T.2 1 i) := by
  unfold fX3_roundOf fX3_roundOf_18
  rw [sX3_hasMember, h, if_pos (show (0 : Int) ≤ (i : Int) ∧ (i : Int) < (N : Int) by omega)]
  simp only [Option.bind_some]
  rw [if_neg (show ¬ (1 : Int) = 0 by decide), if_pos (show 0 ≤ (i : Int) ∧ (i : Int) < 80 by omega), Int.toNat_natCast]
theorem sX3_first {T : gt_T} {N i : Nat} (h : T.1 5 = (N : Int)) (hN : N ≤ 80) (hi : i < N) : fX3_first T (i : Int) = some (T.2 2 i) := by
  unfold fX3_first fX3_first_18
  rw [sX3_hasRound, h, if_pos (show (0 : Int) ≤ (i : Int) ∧ (i : Int) < (N : Int) by omega)]
  simp only [Option.bind_some]
  rw [if_neg (show ¬ (1 : Int) = 0 by decide), if_pos (show 0 ≤ (i : Int) ∧ (i : Int) < 80 by omega), Int.toNat_natCast]
theorem sX3_size {T : gt_T} {N i : Nat} (h : T.1 5 = (N : Int)) (hN : N ≤ 80) (hi : i < N) : fX3_size T (i : Int) = some (T.2 3 i) := by
  unfold fX3_size fX3_size_18
  rw [sX3_hasRound, h, if_pos (show (0 : Int) ≤ (i : Int) ∧ (i : Int) < (N : Int) by omega)]
  simp only [Option.bind_some]
  rw [if_neg (show ¬ (1 : Int) = 0 by decide), if_pos (show 0 ≤ (i : Int) ∧ (i : Int) < 80 by omega), Int.toNat_natCast]
theorem sX0_groupArcs {rw ed pc ar cm sf fc ow : gt_T} {n c : Nat} (h : ch_E rw ed n c) (hcm : rd_ok cm c (pi_of (ed.2 0) c (rw.2 0) (rw.2 1) (4 * n) na_across)) : wp_Q (fun q => ∃ ar', q = (rw, ed, pc, ar', cm, sf, fc, ow) ∧ gp_ok ar' c (cl_r c (fun e => e) (ar_B (ed.2 0) c (rw.2 0) (rw.2 1) (4 * n)))) (fX0_groupArcs (rw, ed, pc, ar, cm, sf, fc, ow)) := by
  have hn := h.1.2.1
  have hc := h.2.2.2.2.1
  have P1 : pm_P c (pi_of (ed.2 0) c (rw.2 0) (rw.2 1) (4 * n) na_across) := pi_P h.2.1 h.2.2.2.1 (fun a ha => na_across_lt ha) (fun a _ q => (na_across_out _ a).mpr q) (fun a b _ _ q => by rw [← na_across_2 a, q, na_across_2])
  have hB : ∀ e, e < c → ar_B (ed.2 0) c (rw.2 0) (rw.2 1) (4 * n) e < c := by
    intro e he
    unfold ar_B
    split
    · exact he
    · exact P1.1 e he
  unfold fX0_groupArcs
  refine wp_eq (show fX1_count ed = some (ed.1 5) from rfl) ?_
  rw [h.2.2.1]
  refine wp_bind (sX2_begin (by omega)) (fun t0 h0 => ?_)
  refine wp_loop (fun a => ∃ (k : Nat) (t : gt_T), k ≤ c ∧ a = ((rw, ed, pc, t, cm, sf, fc, ow), (k : Int)) ∧ gp_L t c (cl_r k (fun e => e) (ar_B (ed.2 0) c (rw.2 0) (rw.2 1) (4 * n)))) (fun a => 200 - a.2.toNat) ?_ ⟨0, t0, Nat.zero_le c, rfl, h0.congr (fun i j _ _ => cl_0.symm)⟩ (by rw [gt_fuel_eq]; omega)
  intro k a ⟨m, t, hm, e1, g⟩ ih
  subst e1
  unfold fX0_groupArcs_16
  simp only
  refine wp_eq (show fX1_count ed = some (ed.1 5) from rfl) ?_
  rw [h.2.2.1]
  refine wp_if (fun c1 => ?_) (fun c1 => ?_)
  · have : m = c := by omega
    subst this
    exact wp_bind (sX2_numberGroups (cl_E m m _ _) (by omega) g) (fun t' h' => wp_some ⟨t', rfl, h'⟩)
  · have hmc : m < c := by omega
    obtain ⟨i1, i2, i3⟩ := ch_is h hmc
    refine wp_eq (sX1_to h.2.2.1 (by omega) hmc) ?_
    rw [(h.2.2.2.2.2.1 m hmc).2]
    refine wp_eq (sX4_isUpper _) ?_
    have last : ∀ t', gp_L t' c (pm_M (cl_r m (fun e => e) (ar_B (ed.2 0) c (rw.2 0) (rw.2 1) (4 * n))) m (ar_B (ed.2 0) c (rw.2 0) (rw.2 1) (4 * n) m)) → wp_Q (fun q => ∃ ar', q = (rw, ed, pc, ar', cm, sf, fc, ow) ∧ gp_ok ar' c (cl_r c (fun e => e) (ar_B (ed.2 0) c (rw.2 0) (rw.2 1) (4 * n)))) (fX0_groupArcs_57 k (rw, ed, pc, t', cm, sf, fc, ow) (m : Int)) := by
      intro t' h'
      unfold fX0_groupArcs_57
      refine wp_ifp (by omega) ?_
      exact ih _ ⟨m + 1, t', by omega, rfl, h'.congr (fun i j hi hj => cl_s (N := c) (k := m) (A := fun e => e) (B := ar_B (ed.2 0) c (rw.2 0) (rw.2 1) (4 * n)) (fun e he => by omega) (fun e he => hB e (by omega)) hi hj)⟩ (by simp only; omega)
    by_cases z : is (rw.2 0) (rw.2 1) (4 * n) (ed.2 0 m) % 2 = 0
    · rw [if_pos z]
      refine wp_ifp rfl (last t ?_)
      have eB : ar_B (ed.2 0) c (rw.2 0) (rw.2 1) (4 * n) m = m := by unfold ar_B; rw [if_pos z]
      rw [eB]
      refine g.congr (fun i j hi hj => ⟨Or.inl, fun q => ?_⟩)
      have E := cl_E c m (fun e => e) (ar_B (ed.2 0) c (rw.2 0) (rw.2 1) (4 * n))
      rcases q with q | ⟨q1, q2⟩ | ⟨q1, q2⟩
      · exact q
      · exact E.2.2 _ _ _ hi hmc hj q1 q2
      · exact E.2.2 _ _ _ hi hmc hj q1 q2
    · rw [if_neg z]
      refine wp_ifn (by decide) ?_
      refine wp_eq (sX3_next hcm.1 (by omega) hmc) ?_
      rw [hcm.2.1 m hmc]
      have eB : ar_B (ed.2 0) c (rw.2 0) (rw.2 1) (4 * n) m = pi_of (ed.2 0) c (rw.2 0) (rw.2 1) (4 * n) na_across m := by unfold ar_B; rw [if_neg z]
      rw [eB] at last
      exact wp_bind (sX2_join (cl_E c m _ _) (by omega) g hmc (P1.1 m hmc)) (fun t' h' => last t' h')
