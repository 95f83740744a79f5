/-! Rows that are alike as far as they go are alike in all that is told of them. -/
def dsm (n : Nat) (sg lb sg' lb' : Nat → Int) : Prop := (∀ k, k < n → sg k = sg' k) ∧ ∀ a, a < 4 * n → lb a = lb' a
theorem dsm.sy {n : Nat} {sg lb sg' lb' : Nat → Int} (h : dsm n sg lb sg' lb') : dsm n sg' lb' sg lb := ⟨fun k q => (h.1 k q).symm, fun a q => (h.2 a q).symm⟩
theorem lsv_congr {p q : Nat → Prop} : ∀ {m : Nat}, (∀ a, a < m → (p a ↔ q a)) → lsv p m = lsv q m
  | 0, _ => rfl
  | m + 1, h => by
    have ih := lsv_congr (m := m) (fun a ha => h a (by omega))
    unfold lsv
    rw [ih, propext (h m (by omega))]
theorem na_out_c {sg sg' : Nat → Int} {a : Nat} (e : sg (a / 4) = sg' (a / 4)) : na_out sg a ↔ na_out sg' a := by
  unfold na_out na_uo; rw [e]
theorem ed_S.c {f : Nat → Int} {c m : Nat} {lb lb' : Nat → Int} (h : ed_S f c lb m) (e : ∀ a, a < m → lb a = lb' a) : ed_S f c lb' m := by
  refine ⟨h.1, h.2.1, fun i hi => ?_, fun a ha => ?_⟩
  · obtain ⟨a, a1, a2⟩ := h.2.2.1 i hi
    exact ⟨a, a1, by rw [← e a a1, a2]⟩
  · obtain ⟨i, i1, i2⟩ := h.2.2.2 a ha
    exact ⟨i, i1, by rw [i2, e a ha]⟩
theorem ed_S.f {f g : Nat → Int} {c m : Nat} {lb : Nat → Int} (h : ed_S f c lb m) (e : ∀ i, i < c → f i = g i) : ed_S g c lb m := by
  refine ⟨h.1, fun i j a b => ?_, fun i hi => ?_, fun a ha => ?_⟩
  · rw [← e i (by omega), ← e j b]; exact h.2.1 i j a b
  · rw [← e i hi]; exact h.2.2.1 i hi
  · obtain ⟨i, i1, i2⟩ := h.2.2.2 a ha
    exact ⟨i, i1, by rw [← e i i1, i2]⟩
theorem pm_R_c {N : Nat} {f g : Nat → Nat} (hf : pm_P N f) (h : ∀ i, i < N → g i = f i) {i : Nat} (hi : i < N) (j : Nat) : pm_R g i j ↔ pm_R f i j := by
  constructor
  · rintro ⟨k, e⟩; exact ⟨k, by rw [← pm_it_congr hf h hi k]; exact e⟩
  · rintro ⟨k, e⟩; exact ⟨k, by rw [pm_it_congr hf h hi k]; exact e⟩
theorem rd_ok.c {t : gt_T} {N : Nat} {π π' : Nat → Nat} (h : rd_ok t N π) (hp : pm_P N π') (e : ∀ i, i < N → π i = π' i) : rd_ok t N π' := by
  have eL : ∀ j, j < N → (pm_L (pm_R π) j ↔ pm_L (pm_R π') j) := fun j hj => pm_L_congr (fun i j hi _ => pm_R_c hp e hi j) hj
  have eC : ∀ j, j ≤ N → pm_c (pm_L (pm_R π)) j = pm_c (pm_L (pm_R π')) j := fun j hj => pm_c_congr (fun i hi => eL i (by omega))
  refine ⟨h.1, fun i hi => by rw [h.2.1 i hi, e i hi], by rw [h.2.2.1]; unfold pm_z; rw [pm_n_congr (fun i j hi _ => pm_R_c hp e hi j)], fun i j hi hr hl => ?_, fun j hj hl => ?_⟩
  · have hj := pm_R.lt hp hi hr
    rw [h.2.2.2.1 i j hi ((pm_R_c hp e hi j).mpr hr) ((eL j hj).mpr hl), eC j (by omega)]
  · obtain ⟨p1, p, p2, p3, p4, p5, p6⟩ := h.2.2.2.2 j hj ((eL j hj).mpr hl)
    rw [eC j (by omega)] at p1 p2
    refine ⟨p1, p, p2, p3, p4, ?_, fun q a b => ?_⟩
    · rw [← pm_it_congr hp e hj]; exact p5
    · rw [← pm_it_congr hp e hj]; exact p6 q a b
section SM
variable {n : Nat} {sg lb sg' lb' : Nat → Int}
theorem dsm.out (h : dsm n sg lb sg' lb') {a : Nat} (ha : a < 4 * n) : na_out sg a ↔ na_out sg' a := na_out_c (h.1 _ (by omega))
theorem dsm.os (h : dsm n sg lb sg' lb') (x : Int) : os sg lb (4 * n) x = os sg' lb' (4 * n) x := lsv_congr (fun a ha => by rw [h.2 a ha, h.out ha])
theorem dsm.is (h : dsm n sg lb sg' lb') (x : Int) : is sg lb (4 * n) x = is sg' lb' (4 * n) x := lsv_congr (fun a ha => by rw [h.2 a ha, h.out ha])
theorem dsm.D (h : dsm n sg lb sg' lb') (hD : dg_D n sg lb) : dg_D n sg' lb' := by
  intro a ha
  obtain ⟨b, b1, b2, b3, b4, b5⟩ := hD a ha
  refine ⟨b, b1, b2, by rw [← h.2 a ha, ← h.2 b b1, b3], by rw [← h.out ha, ← h.out b1]; exact b4, fun d hd e => b5 d hd (by rw [h.2 a ha, h.2 d hd, e])⟩
theorem dsm.seif (h : dsm n sg lb sg' lb') {a : Nat} (ha : a < 4 * n) : na_seif sg a = na_seif sg' a := by
  unfold na_seif na_uo; rw [h.1 (a / 4) (by omega)]
theorem dsm.pr (h : dsm n sg lb sg' lb') (i j : Nat) : pr_L n lb i j ↔ pr_L n lb' i j := by
  constructor
  · intro q P hP; exact q P (fun a b ha hb e => hP a b ha hb (by rw [← h.2 a ha, ← h.2 b hb, e]))
  · intro q P hP; exact q P (fun a b ha hb e => hP a b ha hb (by rw [h.2 a ha, h.2 b hb, e]))
theorem dg_isf {f : Nat → Int} {c i : Nat} (hD : dg_D n sg lb) (hS : ed_S f c lb (4 * n)) (hi : i < c) : is sg lb (4 * n) (f i) < 4 * n := by
  obtain ⟨a, a1, a2⟩ := hS.2.2.1 i hi
  rw [← a2]; exact (dg_is hD a1).1
theorem dg_osf {f : Nat → Int} {c i : Nat} (hD : dg_D n sg lb) (hS : ed_S f c lb (4 * n)) (hi : i < c) : os sg lb (4 * n) (f i) < 4 * n := by
  obtain ⟨a, a1, a2⟩ := hS.2.2.1 i hi
  rw [← a2]; exact (dg_os hD a1).1
theorem dsm.pi (h : dsm n sg lb sg' lb') (hD : dg_D n sg' lb') {f f' : Nat → Int} {c i : Nat} {g g' : Nat → Nat} (hS : ed_S f' c lb' (4 * n)) (hf : ∀ i, i < c → f i = f' i) (hg : ∀ a, a < 4 * n → g a = g' a) (hg' : ∀ a, a < 4 * n → g' a < 4 * n) (hi : i < c) : pi_of f c sg lb (4 * n) g i = pi_of f' c sg' lb' (4 * n) g' i := by
  unfold pi_of
  have h1 := dg_isf hD hS hi
  rw [hf i hi, h.is, hg _ h1, h.2 _ (hg' _ h1), er_congr hf]
theorem dsm.pid (h : dsm n sg lb sg' lb') (hD : dg_D n sg' lb') {f f' : Nat → Int} {c j : Nat} (hS : ed_S f' c lb' (4 * n)) (hf : ∀ i, i < c → f i = f' i) (hj : j < 2 * c) : pi_d f c sg lb (4 * n) j = pi_d f' c sg' lb' (4 * n) j := by
  unfold pi_d
  have e : da_ar f sg lb (4 * n) j = da_ar f' sg' lb' (4 * n) j := by
    unfold da_ar
    rw [hf (j / 2) (by omega), h.is, h.os]
  have h1 := na_beside_lt (da_ar_lt hD hS hj).1
  rw [e]
  unfold da_of
  rw [h.2 _ h1, er_congr hf, propext (h.out h1)]
theorem dsm.FC (h : dsm n sg lb sg' lb') (hD : dg_D n sg' lb') {f f' : Nat → Int} {c : Nat} (hS : ed_S f' c lb' (4 * n)) (hf : ∀ i, i < c → f i = f' i) (k : Nat) : FC f c n sg lb k = FC f' c n sg' lb' k := by
  refine pm_c_congr (fun j hj => ?_)
  rw [hf (j / 2) (by omega), h.is, propext (h.pr _ k), propext (pm_L_congr (fun i j hi _ => pm_R_c (pi_d_P hD hS) (fun i hi => h.pid hD hS hf hi) hi j) hj)]
theorem dsm.NC (h : dsm n sg lb sg' lb') (k : Nat) : NC n lb k = NC n lb' k := pm_c_congr (fun x _ => h.pr x k)
theorem dsm.ok3 (h : dsm n sg lb sg' lb') (hD : dg_D n sg' lb') {f f' : Nat → Int} {c : Nat} (hS : ed_S f' c lb' (4 * n)) (hf : ∀ i, i < c → f i = f' i) {k : Nat} (hk : k < n) : ok3 f c n sg lb k ↔ ok3 f' c n sg' lb' k := by
  have e : pm_L (pr_L n lb) k ↔ pm_L (pr_L n lb') k := pm_L_congr (N := n) (fun i j _ _ => h.pr i j) hk
  constructor
  · intro q z; rw [← h.FC hD hS hf, ← h.NC]; exact q (e.mpr z)
  · intro q z; rw [h.FC hD hS hf, h.NC]; exact q (e.mp z)
theorem dsm.sv (h : dsm n sg lb sg' lb') {v w : Int} (q : sv_ans n sg lb v w) : sv_ans n sg' lb' v w := by
  have o1 : ∀ x, ok1 n lb x ↔ ok1 n lb' x := fun x => by
    unfold ok1 lb_occ; rw [pm_c_congr (fun a ha => by rw [h.2 a ha])]
  have o2 : ∀ x, ok2 n sg lb x ↔ ok2 n sg' lb' x := fun x => by
    unfold ok2
    constructor
    · rintro ⟨⟨a, a1, a2, a3⟩, b, b1, b2, b3⟩
      exact ⟨⟨a, a1, by rw [← h.2 a a1, a2], (h.out a1).mp a3⟩, b, b1, by rw [← h.2 b b1, b2], fun z => b3 ((h.out b1).mpr z)⟩
    · rintro ⟨⟨a, a1, a2, a3⟩, b, b1, b2, b3⟩
      exact ⟨⟨a, a1, by rw [h.2 a a1, a2], (h.out a1).mpr a3⟩, b, b1, by rw [h.2 b b1, b2], fun z => b3 ((h.out b1).mp z)⟩
  have bd : ∀ {p p' : Int → Prop}, (∀ x, p x ↔ p' x) → bad_l n lb p w → bad_l n lb' p' w := by
    rintro p p' e ⟨⟨a, a1, a2⟩, q2, q3⟩
    exact ⟨⟨a, a1, by rw [← h.2 a a1, a2]⟩, fun z => q2 ((e w).mpr z), fun b hb hl => (e _).mp (by rw [← h.2 b hb] at hl ⊢; exact q3 b hb hl)⟩
  rcases q with ⟨q1, q2⟩ | ⟨q1, q2, q3⟩ | ⟨q1, q2, f, c, q3, q4, k, q5, q6, q7, q8⟩ | ⟨q1, q2, q3, f, c, q4, q5, q6⟩
  · exact Or.inl ⟨q1, bd o1 q2⟩
  · exact Or.inr (Or.inl ⟨q1, fun a ha => (o1 _).mp (by rw [← h.2 a ha]; exact q2 a ha), bd o2 q3⟩)
  · have S' := q3.c h.2
    exact Or.inr (Or.inr (Or.inl ⟨q1, h.D q2, f, c, S', q4, k, q5, q6, fun z => q7 ((h.ok3 (h.D q2) S' (fun _ _ => rfl) q5).mpr z), fun j hj => (h.ok3 (h.D q2) S' (fun _ _ => rfl) (by omega)).mp (q8 j hj)⟩))
  · have S' := q4.c h.2
    exact Or.inr (Or.inr (Or.inr ⟨q1, q2, h.D q3, f, c, S', q5, fun k hk => (h.ok3 (h.D q3) S' (fun _ _ => rfl) hk).mp (q6 k hk)⟩))
theorem dg_ok1 (h : dg_D n sg lb) : ¬ (∃ w, bad_l n lb (ok1 n lb) w) := by
  rintro ⟨w, ⟨a, a1, a2⟩, q, _⟩
  exact q (by rw [← a2]; exact dg_occ h a1)
theorem dg_ok2 (h : dg_D n sg lb) : ¬ (∃ w, bad_l n lb (ok2 n sg lb) w) := by
  rintro ⟨w, ⟨a, a1, a2⟩, q, _⟩
  refine q ?_
  rw [← a2]
  obtain ⟨o1, o2, o3⟩ := dg_os h a1
  obtain ⟨i1, i2, i3⟩ := dg_is h a1
  exact ⟨⟨_, o1, o2, o3⟩, _, i1, i2, i3⟩
theorem dsm.rf : dsm n sg lb sg lb := ⟨fun _ _ => rfl, fun _ _ => rfl⟩
theorem sv_uniq {v w v' w' : Int} (h : sv_ans n sg lb v w) (h' : sv_ans n sg lb v' w') : v = v' ∧ w = w' := by
  have no1 : ∀ w, bad_l n lb (ok1 n lb) w → ¬ (∀ a, a < 4 * n → ok1 n lb (lb a)) := fun w q z => by
    obtain ⟨⟨a, a1, a2⟩, q2, _⟩ := q
    exact q2 (by rw [← a2]; exact z a a1)
  have u3 : ∀ {f c f' c'}, dg_D n sg lb → ed_S f c lb (4 * n) → ed_S f' c' lb (4 * n) → ∀ k, k < n → (ok3 f c n sg lb k ↔ ok3 f' c' n sg lb k) := by
    intro f c f' c' hD s s' k hk
    obtain ⟨e, e'⟩ := s.uniq s'
    subst e
    exact dsm.rf.ok3 hD s' e' hk
  rcases h with ⟨q1, q2⟩ | ⟨q1, q2, q3⟩ | ⟨q1, q2, f, c, q3, q4, k, q5, q6, q7, q8⟩ | ⟨q1, q2, q3, f, c, q4, q5, q6⟩ <;> rcases h' with ⟨p1, p2⟩ | ⟨p1, p2, p3⟩ | ⟨p1, p2, f', c', p3, p4, k', p5, p6, p7, p8⟩ | ⟨p1, p2, p3, f', c', p4, p5, p6⟩
  · exact ⟨by omega, bad_uniq q2 p2⟩
  · exact absurd p2 (no1 w q2)
  · exact absurd ⟨w, q2⟩ (dg_ok1 p2)
  · exact absurd ⟨w, q2⟩ (dg_ok1 p3)
  · exact absurd q2 (no1 w' p2)
  · exact ⟨by omega, bad_uniq q3 p3⟩
  · exact absurd ⟨w, q3⟩ (dg_ok2 p2)
  · exact absurd ⟨w, q3⟩ (dg_ok2 p3)
  · exact absurd ⟨w', p2⟩ (dg_ok1 q2)
  · exact absurd ⟨w', p3⟩ (dg_ok2 q2)
  · refine ⟨by omega, ?_⟩
    have u := u3 q2 q3 p3
    rcases Nat.lt_trichotomy k k' with z | z | z
    · exact absurd ((u k q5).mpr (p8 k z)) q7
    · omega
    · exact absurd ((u k' p5).mp (q8 k' z)) p7
  · exact absurd ((u3 q2 q3 p4 k q5).mpr (p6 k q5)) q7
  · exact absurd ⟨w', p2⟩ (dg_ok1 q3)
  · exact absurd ⟨w', p3⟩ (dg_ok2 q3)
  · exact absurd ((u3 q3 q4 p3 k' p5).mp (q6 k' p5)) p7
  · exact ⟨by omega, by omega⟩
end SM
