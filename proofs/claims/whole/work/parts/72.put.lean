/-! crossing -/
def RLc (D : gx_Dc) (m : gt_T) : Prop := ∃ n p c : Nat,
  (rw_ok D.1.1 p ∧ m.1 1 = (p : Int) ∧ dsm p (D.1.1.2 0) (D.1.1.2 1) (m.2 3) (m.2 4)) ∧
  (m.1 5 = (n : Int) ∧ ch_ok D.2.1 n c ∧ dsm n (D.2.1.1.2 0) (D.2.1.1.2 1) (m.2 9) (m.2 10)) ∧
  (D.2.2.1 2 = m.1 6 ∧ 0 ≤ m.1 6 ∧ m.1 6 + 2 * (n : Int) ≤ 60 ∧ D.2.2.1 3 = m.1 2)
theorem dsm.mr {n : Nat} {sg lb sg' lb' : Nat → Int} (e : dsm n sg lb sg' lb') (M : mr n sg lb) : mr n sg' lb' :=
  ⟨M.1, fun k hk => by rw [← e.1 k hk]; exact M.2.1 k hk, fun a ha => by rw [← e.2 a ha]; exact M.2.2.1 a ha, e.D M.2.2.2⟩
theorem ch_mr {T : gx_Ch} {n c : Nat} (h : ch_ok T n c) : mr n (T.1.2 0) (T.1.2 1) := ⟨h.1.1.2.1, h.1.1.2.2.1, h.1.1.2.2.2, h.1.2.1⟩
theorem RLc.n {D : gx_Dc} {m : gt_T} (h : RLc D m) : RLn D m := by
  obtain ⟨n, p, c, h1, ⟨h2, h3, h4⟩, h5⟩ := h
  have M := h4.mr (ch_mr h3)
  have hS := h3.1.2.2.2.1.c h4.2
  obtain ⟨a, b⟩ := cv_of h3 h4 M hS
  exact ⟨n, p, c, _, h1, ⟨M, h2, hS, a, b⟩, h5⟩
theorem RLc.F {D : gx_Dc} {m m' : gt_T} (h : RLc D m) (f : md_F SI SA m m') : RLc D m' := by
  obtain ⟨n, p, c, h1, h2, h3⟩ := h
  refine ⟨n, p, c, ?_, ?_, ?_⟩
  · rw [f.1 1 (by decide), f.2 3 (by decide), f.2 4 (by decide)]; exact h1
  · rw [f.1 5 (by decide), f.2 9 (by decide), f.2 10 (by decide)]; exact h2
  · rw [f.1 6 (by decide), f.1 2 (by decide)]; exact h3
def put5 (g : Nat → Int) (p : Nat) (a b c d : Int) (x : Nat) : Int := if x = 4 * p + 3 then d else if x = 4 * p + 2 then c else if x = 4 * p + 1 then b else if x = 4 * p then a else g x
theorem sX4_append {T : gt_T} {p : Nat} (h : T.1 2 = (p : Int)) (hp : p < 20) (s a b c d : Int) : ∃ T', fX4_append T s a b c d = some (T', 1) ∧ T'.1 2 = ((p + 1 : Nat) : Int) ∧ (∀ k, T'.2 0 k = if k = p then s else T.2 0 k) ∧ ∀ x, T'.2 1 x = put5 (T.2 1) p a b c d x := by
  have e0 : ((4 : Int) * (p : Int)).toNat = 4 * p := by omega
  have e1 : ((4 : Int) * (p : Int) + 1).toNat = 4 * p + 1 := by omega
  have e2 : ((4 : Int) * (p : Int) + 2).toNat = 4 * p + 2 := by omega
  have e3 : ((4 : Int) * (p : Int) + 3).toNat = 4 * p + 3 := by omega
  unfold fX4_append
  rw [h]
  refine ⟨_, by rw [if_pos (by omega), if_pos (by omega)], ?_, fun k => ?_, fun x => ?_⟩
  · simp only [va_up, ↓reduceIte]; omega
  · simp only [va_up, Nat.reduceEqDiff, ↓reduceIte, Int.toNat_natCast]
  · simp only [va_up, Nat.reduceEqDiff, ↓reduceIte, e0, e1, e2, e3]; rfl
theorem sX6_put {T : gt_T} {p : Nat} (h : T.1 1 = (p : Int)) (hp : p < 20) (s a b c d : Int) : ∃ T', fX6_crossing_65 T s a b c d 1 = some (T', ((p + 1 : Nat) : Int)) ∧ T'.1 1 = ((p + 1 : Nat) : Int) ∧ (∀ k, T'.2 3 k = if k = p then s else T.2 3 k) ∧ (∀ x, T'.2 4 x = put5 (T.2 4) p a b c d x) ∧ md_F [1] [3, 4] T T' := by
  have e0 : ((4 : Int) * (p : Int)).toNat = 4 * p := by omega
  have e1 : ((4 : Int) * (p : Int) + 1).toNat = 4 * p + 1 := by omega
  have e2 : ((4 : Int) * (p : Int) + 2).toNat = 4 * p + 2 := by omega
  have e3 : ((4 : Int) * (p : Int) + 3).toNat = 4 * p + 3 := by omega
  unfold fX6_crossing_65
  rw [h]
  refine ⟨_, by rw [if_neg (by decide), if_neg (by omega), if_pos (by omega)]; simp only [va_up, ↓reduceIte]; rfl, ?_, fun k => ?_, fun x => ?_, fun j hj => ?_, fun j hj => ?_⟩
  · simp only [va_up, ↓reduceIte]; omega
  · simp only [va_up, Nat.reduceEqDiff, ↓reduceIte, Int.toNat_natCast]
  · simp only [va_up, Nat.reduceEqDiff, ↓reduceIte, e0, e1, e2, e3]; rfl
  · simp only [List.mem_singleton] at hj
    simp only [va_up, hj, ↓reduceIte]
  · simp only [List.mem_cons, List.not_mem_nil, or_false, not_or] at hj
    simp only [va_up, hj.1, hj.2, ↓reduceIte]
theorem sX5_isLabel (l : Int) : fX5_isLabel l = some (if 1 ≤ l ∧ l ≤ 9999 then 1 else 0) := by
  unfold fX5_isLabel fX5_isLabel_16 fX5_isLabel_17
  refine wp_get (wp_if (fun d => ?_) (fun d => wp_if (fun d1 => ?_) (fun d1 => ?_)))
  · rw [if_neg (by omega)]; exact wp_ifp (by decide) (wp_some rfl)
  · rw [if_neg (by omega)]; exact wp_ifp (by decide) (wp_some rfl)
  · rw [if_pos (by omega)]; exact wp_ifp (by decide) (wp_some rfl)
def lab4 (a b c d : Int) : Prop := (1 ≤ a ∧ a ≤ 9999) ∧ (1 ≤ b ∧ b ≤ 9999) ∧ (1 ≤ c ∧ c ≤ 9999) ∧ 1 ≤ d ∧ d ≤ 9999
theorem oCrossing {D : gx_Dc} {m : gt_T} (h : RLc D m) (s a b c d : Int) : wp_Q (fun q => ∃ D', fX5_crossing D s a b c d = some (D', q.2) ∧ RLc D' q.1) (fX6_crossing m s a b c d) := by
  have h0 := h
  obtain ⟨n, p, cc, ⟨hp1, hp2, hp3⟩, h2, h3⟩ := h
  have hp20 := hp1.2.1
  have no : fX5_crossing D s a b c d = some (D, -1) → wp_Q (fun q => ∃ D', fX5_crossing D s a b c d = some (D', q.2) ∧ RLc D' q.1) (fX6_crossing_79 m) := fun z => wp_some ⟨D, z, h0⟩
  have cls : (s = 1 ∨ s = -1) → fX5_crossing D s a b c d = fX5_crossing_12 D s a b c d := fun z => by
    unfold fX5_crossing
    rcases z with z | z
    · rw [if_pos z]
    · rw [if_neg (by omega), if_pos z]
  have cls0 : ¬ (s = 1 ∨ s = -1) → fX5_crossing D s a b c d = some (D, -1) := fun z => by
    unfold fX5_crossing
    rw [if_neg (by omega), if_neg (by omega)]
  have lno : ¬ lab4 a b c d → fX5_crossing_12 D s a b c d = some (D, -1) := fun z => by
    unfold lab4 at z
    unfold fX5_crossing_12 fX5_crossing_42
    refine wp_get (wp_eq (sX5_isLabel a) ?_)
    refine wp_if (fun _ => wp_some rfl) (fun z1 => wp_eq (sX5_isLabel b) (wp_if (fun _ => wp_some rfl) (fun z2 => wp_eq (sX5_isLabel c) (wp_if (fun _ => wp_some rfl) (fun z3 => wp_eq (sX5_isLabel d) (wp_if (fun _ => wp_some rfl) (fun z4 => ?_)))))))
    exfalso
    split at z1 <;> split at z2 <;> split at z3 <;> split at z4 <;> omega
  have lyes : lab4 a b c d → fX5_crossing_12 D s a b c d = (fX4_append D.1.1 s a b c d).bind (fun (q58 : gt_T × Int) => (if q58.2 = 0 then some (((q58.1, D.1.2), D.2), -1) else (fX4_crossings q58.1).bind (fun (q71 : Int) => some (((q58.1, D.1.2), D.2), q71)))) := fun z => by
    unfold lab4 at z
    unfold fX5_crossing_12 fX5_crossing_42 fX5_crossing_78
    rw [sX5_isLabel, sX5_isLabel, sX5_isLabel, sX5_isLabel, if_pos z.1, if_pos z.2.1, if_pos z.2.2.1, if_pos z.2.2.2]
    simp only [Option.bind_some, show ¬ ((1 : Int) = 0) by decide, ↓reduceIte]
  have main : ∀ s0 : Int, (s0 = 1 ∧ lab4 a b c d) ∨ (s0 = 0 ∧ ¬ lab4 a b c d) → wp_Q (fun q => ∃ D', fX5_crossing D s a b c d = some (D', q.2) ∧ RLc D' q.1) (fX6_crossing_53 m s a b c d s0) := by
    intro s0 hs0
    have fin : (s = 1 ∨ s = -1) → wp_Q (fun q => ∃ D', fX5_crossing D s a b c d = some (D', q.2) ∧ RLc D' q.1) (fX6_crossing_65 m s a b c d s0) := fun hs => by
      rcases hs0 with ⟨z1, z2⟩ | ⟨z1, z2⟩
      · subst z1
        by_cases hpp : p = 20
        · unfold fX6_crossing_65
          refine wp_ifn (by decide) (wp_ifp (by omega) (no ?_))
          rw [cls hs, lyes z2]
          unfold fX4_append
          rw [hp1.1]
          refine wp_get (wp_eq (r := (D.1.1, 0)) (by rw [if_neg (by omega), if_pos (by decide)]) (wp_ifp rfl (wp_some rfl)))
        · obtain ⟨T', t1, t2, t3, t4⟩ := sX4_append hp1.1 (show p < 20 by omega) s a b c d
          obtain ⟨m', m1, m2, m3, m4, mF⟩ := sX6_put hp2 (show p < 20 by omega) s a b c d
          refine ⟨_, m1, ((T', D.1.2), D.2), ?_, n, p + 1, cc, ⟨⟨t2, by omega, fun k hk => ?_, fun x hx => ?_⟩, m2, fun k hk => ?_, fun x hx => ?_⟩, ?_, ?_⟩
          · rw [cls hs, lyes z2]
            exact wp_get (wp_eq t1 (wp_ifn (show ¬ (1 : Int) = 0 by decide) (wp_eq (sX4_crossings _) (wp_some (by simp only; rw [t2])))))
          · show T'.2 0 k = 1 ∨ T'.2 0 k = -1
            rw [t3 k]
            split
            · exact hs
            · exact hp1.2.2.1 k (by omega)
          · show 1 ≤ T'.2 1 x ∧ T'.2 1 x ≤ 9999
            rw [t4 x]; unfold put5; unfold lab4 at z2
            split
            · exact z2.2.2.2
            · split
              · exact z2.2.2.1
              · split
                · exact z2.2.1
                · split
                  · exact z2.1
                  · exact hp1.2.2.2 x (by omega)
          · show T'.2 0 k = m'.2 3 k
            rw [t3 k, m3 k]
            split
            · rfl
            · exact hp3.1 k (by omega)
          · show T'.2 1 x = m'.2 4 x
            rw [t4 x, m4 x]; unfold put5
            split
            · rfl
            · split
              · rfl
              · split
                · rfl
                · split
                  · rfl
                  · exact hp3.2 x (by omega)
          · rw [mF.1 5 (by decide), mF.2 9 (by decide), mF.2 10 (by decide)]; exact h2
          · rw [mF.1 6 (by decide), mF.1 2 (by decide)]; exact h3
      · unfold fX6_crossing_65
        refine wp_ifp z1 (no ?_)
        rw [cls hs]; exact lno z2
    unfold fX6_crossing_53
    refine wp_if (fun z => fin (Or.inl z)) (fun z => wp_if (fun z' => fin (Or.inr z')) (fun z' => no (cls0 (by omega))))
  unfold fX6_crossing fX6_crossing_52
  have bad : ¬ lab4 a b c d → wp_Q (fun q => ∃ D', fX5_crossing D s a b c d = some (D', q.2) ∧ RLc D' q.1) (fX6_crossing_53 m s a b c d 0) := fun z => main 0 (Or.inr ⟨rfl, z⟩)
  unfold lab4 at bad
  refine wp_if (fun z => bad (by omega)) (fun z1 => wp_if (fun z => bad (by omega)) (fun z2 => wp_if (fun z => bad (by omega)) (fun z3 => wp_if (fun z => bad (by omega)) (fun z4 => wp_if (fun z => bad (by omega)) (fun z5 => wp_if (fun z => bad (by omega)) (fun z6 => wp_if (fun z => bad (by omega)) (fun z7 => wp_if (fun z => bad (by omega)) (fun z8 => main 1 (Or.inl ⟨rfl, by unfold lab4; omega⟩)))))))))
