-- ===== holds =====
theorem ag_holds (a0 : Int32) : Ag RT f_X10_holds f_X11_holds [.int a0] := by
  intro j g m o hj hR
  rcases in_cases a0 3 (by decide) with ⟨k, hk, rfl⟩ | h0
  · have hyk : (nI 0 ≤ nI k ∧ nI k ≤ nI 3) = True := eq_true (in_yes hk (by omega))
    obtain ⟨B, hB⟩ := chs (α := Bool) (k := 6) (P := fun c b => ∃ X o' : Nat, (∀ (g0 : GG) (m o : Nat), KEEP g g0 → ∃ g1 g2 : GG, f_X0_askByRule [.ref 164, .ref (17 + 10 * c), .int (nI k)] (hp g0 m o) = some (none, hp g1 X o') ∧ f_X0_isEverBad [.ref 164] (hp g1 X o') = some (some (.int (bW (!b))), hp g2 X o') ∧ KEEP g g2 ∧ g2 188 = g0 188) ∧ (∀ (g0 : GG) (m o : Nat), g0 189 = g 189 → g0 188 33 = -1 → g0 188 34 = nI k → g0 188 35 = nI 0 → ∃ g1 g2 : GG, f_X11_laysOut [.ref 188, .int (nI c)] (hp g0 m o) = some (none, hp g1 m o) ∧ f_X11_goesThrough [.ref 188, .int (nI c), .int (nI 1)] (hp g1 m o) = some (some (.int (bW b)), hp g2 m o) ∧ (∀ a, a ≠ 188 → (a < 194 ∨ 207 < a) → g2 a = g0 a) ∧ ∀ i, (i < 37 ∨ 45 < i) → i ≠ 20 → g2 188 i = g0 188 i)) (fun c hc => by
      obtain ⟨X, o', b, h1, h2⟩ := hR.verdict hc (nI k) (Or.inr ⟨k, by omega, rfl⟩)
      exact ⟨b, X, o', h1, h2⟩)
    -- the class
    have hcls : ∃ (g1 : GG) (m1 o1 : Nat), kl_X10_holds_14 [.ref 0, .int (nI k), .int (nI 0), .int (nI 0)] [] (hp g m o) = some (some (.int (nI (setN B 6))), hp g1 m1 o1) ∧ KEEP g g1 ∧ g1 188 = g 188 := by
      unfold kl_X10_holds_14
      refine kFor 6 (by unfold FU; omega) (fun i ls h => ∃ (g' : GG) (m' o' : Nat), ls = [.ref 0, .int (nI k), .int (nI (setN B i)), .int (nI i)] ∧ h = hp g' m' o' ∧ KEEP g g' ∧ g' 188 = g 188) (fun r => ∃ (g1 : GG) (m1 o1 : Nat), r = some (some (.int (nI (setN B 6))), hp g1 m1 o1) ∧ KEEP g g1 ∧ g1 188 = g 188) ?_ ?_ 0 _ _ (by omega) ⟨g, m, o, rfl, rfl, KEEP.rfl', rfl⟩
      · rintro s0 ls h ⟨g', m', o', rfl, rfl, h1, h2⟩
        have hin : (6 ≤ 6) = True := eq_true (by omega)
        simp (disch := first | assumption | omega) only [KL, KB, KC, KI, KJ, KZ, bI_0, bI_n, nI00, nI10, ne_eq, Classical.not_not, not_true_eq_false, not_false_eq_true, if_true, if_false, ite_not, ite_self, Bool.false_eq_true, nIne1, kMask, mask, nIle, hin]
        exact ⟨g', m', o', rfl, h1, h2⟩
      · rintro s0 i hi ih ls h ⟨g', m', o', rfl, rfl, h1, h2⟩
        have hin : (6 ≤ i) = False := eq_false (by omega)
        obtain ⟨X, oo, hA, -⟩ := hB i hi
        obtain ⟨g1, g2, e1, e2, k2, z2⟩ := hA g' m' o' h1
        cases hb : B i with
        | true =>
          rw [hb] at e2
          have hS : setN B (i + 1) = setN B i ||| 1 <<< i := by show _ ||| _ = _; rw [if_pos hb]
          have hz : bW (!true) = nI 0 := rfl
          simp (disch := first | assumption | omega) only [kb_X10_holds_53, KL, KB, KC, KI, KJ, KZ, bI_0, bI_n, nI00, nI10, ne_eq, Classical.not_not, not_true_eq_false, not_false_eq_true, if_true, if_false, ite_not, ite_self, Bool.false_eq_true, nIne1, kMask, mask, nIle, hin, O_fp, O_w, O_co, aalX, e1, e2, hz, nI_shl, nI_or, nI_add]
          exact ih _ _ ⟨g2, X, oo, by rw [hS], rfl, k2, z2.trans h2⟩
        | false =>
          rw [hb] at e2
          have hS : setN B (i + 1) = setN B i := by show _ ||| _ = _; rw [if_neg (by rw [hb]; decide), Nat.or_zero]
          have hz : bW (!false) = nI 1 := rfl
          simp (disch := first | assumption | omega) only [kb_X10_holds_53, KL, KB, KC, KI, KJ, KZ, bI_0, bI_n, nI00, nI10, ne_eq, Classical.not_not, not_true_eq_false, not_false_eq_true, if_true, if_false, ite_not, ite_self, Bool.false_eq_true, nIne1, kMask, mask, nIle, hin, O_fp, O_w, O_co, aalX, e1, e2, hz, nI_add]
          exact ih _ _ ⟨g2, X, oo, by rw [hS], rfl, k2, z2.trans h2⟩
    obtain ⟨g1, m1, o1, e1, k1, z1⟩ := hcls
    have z18 : g1 189 = g 189 := k1.2.2.2.1
    -- the model
    have hmod : ∃ g2 : GG, kl_X11_holds_20 [.ref 188, .int (nI k), .int (nI 0), .int (nI 0)] [] (hp (upd2 g1 188 34 (nI k)) m1 o1) = some (some (.int (nI (setN B 6))), hp g2 m1 o1) ∧ (∀ a, a ≠ 188 → (a < 194 ∨ 207 < a) → g2 a = g1 a) ∧ (∀ i, (i < 37 ∨ 45 < i) → i ≠ 20 → i ≠ 34 → g2 188 i = g1 188 i) ∧ g2 188 34 = -1 := by
      unfold kl_X11_holds_20
      refine kFor 6 (by unfold FU; omega) (fun i ls h => ∃ (g' : GG) (v : Value), ls = [.ref 188, v, .int (nI (setN B i)), .int (nI i)] ∧ h = hp g' m1 o1 ∧ (∀ a, a ≠ 188 → (a < 194 ∨ 207 < a) → g' a = g1 a) ∧ (∀ i, (i < 37 ∨ 45 < i) → i ≠ 20 → i ≠ 34 → g' 188 i = g1 188 i) ∧ g' 188 34 = nI k) (fun r => ∃ g2 : GG, r = some (some (.int (nI (setN B 6))), hp g2 m1 o1) ∧ (∀ a, a ≠ 188 → (a < 194 ∨ 207 < a) → g2 a = g1 a) ∧ (∀ i, (i < 37 ∨ 45 < i) → i ≠ 20 → i ≠ 34 → g2 188 i = g1 188 i) ∧ g2 188 34 = -1) ?_ ?_ 0 _ _ (by omega) ⟨_, _, rfl, rfl, fun a a1 _ => uN a1, fun i _ _ a => uO (Or.inr a), uS⟩
      · rintro s0 ls h ⟨g', v, rfl, rfl, h1, h2, h3⟩
        have hin : (6 ≤ 6) = True := eq_true (by omega)
        simp (disch := first | assumption | omega) only [KL, KB, KC, KI, KJ, KZ, bI_0, bI_n, nI00, nI10, ne_eq, Classical.not_not, not_true_eq_false, not_false_eq_true, if_true, if_false, ite_not, ite_self, Bool.false_eq_true, nIne1, kMask, mask, nIle, hin, O_mo]
        exact ⟨_, rfl, fun a a1 a2 => by rw [uN a1]; exact h1 a a1 a2, fun i a b c => by rw [uO (Or.inr c)]; exact h2 i a b c, uS⟩
      · rintro s0 i hi ih ls h ⟨g', v, rfl, rfl, h1, h2, h3⟩
        have hin : (6 ≤ i) = False := eq_false (by omega)
        obtain ⟨X, oo, -, hA⟩ := hB i hi
        obtain ⟨g3, g4, e3, e4, w1, w2⟩ := hA g' m1 o1 (by rw [h1 189 (by omega) (by omega)]; exact z18) (by rw [h2 33 (by omega) (by omega) (by omega), z1]; exact hR.2.2.2.2.2.2.1) h3 (by rw [h2 35 (by omega) (by omega) (by omega), z1]; exact hR.2.2.2.2.2.2.2.2)
        have hnew : (∀ a, a ≠ 188 → (a < 194 ∨ 207 < a) → g4 a = g1 a) ∧ (∀ i, (i < 37 ∨ 45 < i) → i ≠ 20 → i ≠ 34 → g4 188 i = g1 188 i) ∧ g4 188 34 = nI k := ⟨fun a a1 a2 => by rw [w1 a a1 a2]; exact h1 a a1 a2, fun i a b c => by rw [w2 i a b]; exact h2 i a b c, by rw [w2 34 (by omega) (by omega)]; exact h3⟩
        cases hb : B i with
        | true =>
          rw [hb] at e4
          have hS : setN B (i + 1) = setN B i ||| 1 <<< i := by show _ ||| _ = _; rw [if_pos hb]
          have hz : bW true = nI 1 := rfl
          simp (disch := first | assumption | omega) only [kb_X11_holds_48, KL, KB, KC, KI, KJ, KZ, bI_0, bI_n, nI00, nI10, ne_eq, Classical.not_not, not_true_eq_false, not_false_eq_true, if_true, if_false, ite_not, ite_self, Bool.false_eq_true, nIne1, kMask, mask, nIle, hin, O_mo, e3, e4, hz, nI_shl, nI_or, nI_add]
          exact ih _ _ ⟨g4, _, by rw [hS], rfl, hnew⟩
        | false =>
          rw [hb] at e4
          have hS : setN B (i + 1) = setN B i := by show _ ||| _ = _; rw [if_neg (by rw [hb]; decide), Nat.or_zero]
          have hz : bW false = nI 0 := rfl
          simp (disch := first | assumption | omega) only [kb_X11_holds_48, KL, KB, KC, KI, KJ, KZ, bI_0, bI_n, nI00, nI10, ne_eq, Classical.not_not, not_true_eq_false, not_false_eq_true, if_true, if_false, ite_not, ite_self, Bool.false_eq_true, nIne1, kMask, mask, nIle, hin, O_mo, e3, e4, hz, nI_or, Nat.or_zero, nI_add]
          exact ih _ _ ⟨g4, _, by rw [hS], rfl, hnew⟩
    obtain ⟨g2, e2, q1, q2, q3⟩ := hmod
    refine ⟨nI (setN B 6), g1, m1, o1, g2, ?_, ?_, hR.keep (k1.tr (KEEP.of (fun a x y z w => q1 a (by omega) (by omega)) (fun i hi => ?_)))⟩
    · simp (disch := first | assumption | omega) only [f_X10_holds, kb_X10_holds_0, KL, KB, KC, KI, KJ, KZ, bI_0, bI_n, nI00, nI10, ne_eq, Classical.not_not, not_true_eq_false, not_false_eq_true, if_true, if_false, ite_not, ite_self, Bool.false_eq_true, nIne1, c_within, hyk, e1]
    · simp (disch := first | assumption | omega) only [f_X11_holds, kb_X11_holds_0, KL, KB, KC, KI, KJ, KZ, bI_0, bI_n, nI00, nI10, ne_eq, Classical.not_not, not_true_eq_false, not_false_eq_true, if_true, if_false, ite_not, ite_self, Bool.false_eq_true, nIne1, O_mo, m_isIn, hyk, e2]
    · by_cases h34 : i = 34
      · subst h34
        rw [q3, z1]
        exact hR.2.2.2.2.2.2.2.1.symm
      · exact q2 i (by omega) (by omega) h34
  · refine ⟨-1, g, m, o, g, ?_, ?_, RT_mono _ _ _ _ hR⟩
    · simp (disch := first | assumption | omega) only [f_X10_holds, kb_X10_holds_0, KL, KB, KC, KI, KJ, KZ, bI_0, bI_n, nI00, nI10, ne_eq, Classical.not_not, not_true_eq_false, not_false_eq_true, if_true, if_false, ite_not, ite_self, Bool.false_eq_true, nIne1, c_within, h0]
    · simp (disch := first | assumption | omega) only [f_X11_holds, kb_X11_holds_0, KL, KB, KC, KI, KJ, KZ, bI_0, bI_n, nI00, nI10, ne_eq, Classical.not_not, not_true_eq_false, not_false_eq_true, if_true, if_false, ite_not, ite_self, Bool.false_eq_true, nIne1, m_isIn, h0]
