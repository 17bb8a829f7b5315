-- ===== the model's waitsFor =====
theorem m_waitsFor (g : GG) (m o n x y k mean : Nat) (cx cy : ACart) (rl : ARule) (en : g 188 20 = nI n) (n3 : 3 ≤ n) (n6 : n ≤ 6) (hx : x < n) (hy : y < n) (h1 : cM g n x cx mean) (h2 : cM g n y cy mean) (hm : mean < 4) (em : g 188 35 = nI mean) (ew : g 188 33 = -1) (hk : k < 4) (hone : (g 188 34 = -1 ∧ ∃ v, v < 2 ∧ g 199 x = nI v ∧ g 189 (1 + v) = nI k) ∨ g 188 34 = nI k) (hM : ruleM g 189 k rl) (hw : wfR rl) : ∃ g', f_X11_waitsFor [.ref 188, .int (nI x), .int (nI y)] (hp g m o) = some (some (.int (if waitV n x y (g 196) (g 197) (g 198) cx cy mean rl = true then nI 1 else nI 0)), hp g' m o) ∧ ∀ a, a ≠ 194 → a ≠ 195 → g' a = g a := by
  obtain ⟨a1, a2, a3, a4, a5, a6, a7, a8, a9, a10⟩ := id h1
  obtain ⟨b1, b2, b3, b4, b5, b6, b7, b8, b9, b10⟩ := id h2
  have hfi := fun h => m_fights x cx.1.1 y cy.1.1 (by omega) (by have := a1.1; omega) (by omega) (by have := b1.1; omega) h
  by_cases hf : wayB x cx.1.1 y cy.1.1 = true
  · simp only [if_pos hf] at hfi
    by_cases hh : cx.2.2.1 = 0
    · rw [hh] at a9
      have z00 : (nI 0 = 0) = True := eq_true rfl
      have hres : waitV n x y (g 196) (g 197) (g 198) cx cy mean rl = firstW (fvec n x y (g 196) (g 197) (g 198) cx.1 cy.1 (firstV mean cx cy)) rl := by
        unfold waitV
        rw [hf, Bool.true_and, if_pos hh]
      obtain ⟨g1, e1, p1, p2⟩ := m_gathers g m o n x y mean cx cy en n3 n6 hx hy h1 h2 hm em
      have hM1 : ruleM g1 189 k rl := hM.congr hw hk (fun i _ _ => by rw [p1 189 (by omega)])
      obtain ⟨g2, e2, p3⟩ := m_first g1 m o k rl _ hk hM1 hw p2 (.int (nI x)) (.int (nI y))
      have hfl : f_X11_firstLine [.ref 188, .int (nI k), .int (nI x), .int (nI y)] (hp g m o) = some (some (.int (firstI (fvec n x y (g 196) (g 197) (g 198) cx.1 cy.1 (firstV mean cx cy)) rl 0)), hp g2 m o) := by
        simp (disch := first | assumption | omega) only [f_X11_firstLine, kb_X11_firstLine_0, KL, KB, KC, KI, KJ, KZ, bI_0, bI_n, nI00, nI10, ne_eq, Classical.not_not, not_true_eq_false, not_false_eq_true, if_true, if_false, ite_not, ite_self, Bool.false_eq_true, nIne1, O_mo, e1]
        exact e2
      have kO : ∀ a, a ≠ 194 → a ≠ 195 → g2 a = g a := fun a q r => by rw [p3 a q, p1 a r]
      have tail : kb_X11_waitsFor_90 [.ref 188, .int (nI x), .int (nI y)] [.int (nI k)] (hp g m o) = some (some (.int (if firstW (fvec n x y (g 196) (g 197) (g 198) cx.1 cy.1 (firstV mean cx cy)) rl = true then nI 1 else nI 0)), hp g2 m o) := by
        rcases firstI_spec (fvec n x y (g 196) (g 197) (g 198) cx.1 cy.1 (firstV mean cx cy)) rl 0 with ⟨a, b⟩ | ⟨t, z, a, b, c⟩
        · rw [b]
          rw [a] at hfl
          simp (disch := first | assumption | omega) only [kb_X11_waitsFor_90, kb_X11_waitsFor_129, kb_X11_waitsFor_130, KL, KB, KC, KI, KJ, KZ, bI_0, bI_n, nI00, nI10, ne_eq, Classical.not_not, not_true_eq_false, not_false_eq_true, if_true, if_false, ite_not, ite_self, Bool.false_eq_true, nIne1, O_mo, hfl, eq_self]
        · have ht := (List.getElem?_eq_some_iff.mp a).1
          have hrl := hw.1
          have hz := (hM.2.1 t z a).1
          rw [← kO 189 (by omega) (by omega), Nat.add_assoc] at hz
          rw [b, Nat.zero_add] at hfl
          rw [c]
          cases hz1 : z.1 with
          | true =>
            rw [hz1, if_pos rfl] at hz
            simp (disch := first | assumption | omega) only [kb_X11_waitsFor_90, kb_X11_waitsFor_129, kb_X11_waitsFor_130, KL, KB, KC, KI, KJ, KZ, bI_0, bI_n, nI00, nI10, ne_eq, Classical.not_not, not_true_eq_false, not_false_eq_true, if_true, if_false, ite_not, ite_self, Bool.false_eq_true, nIne1, O_mo, AR, hfl, nI_mul, nI_add, Nat.add_assoc, hz, z00]
          | false =>
            rw [hz1, if_neg (by decide)] at hz
            simp (disch := first | assumption | omega) only [kb_X11_waitsFor_90, kb_X11_waitsFor_129, kb_X11_waitsFor_130, KL, KB, KC, KI, KJ, KZ, bI_0, bI_n, nI00, nI10, ne_eq, Classical.not_not, not_true_eq_false, not_false_eq_true, if_true, if_false, ite_not, ite_self, Bool.false_eq_true, nIne1, O_mo, AR, hfl, nI_mul, nI_add, Nat.add_assoc, hz]
      refine ⟨g2, ?_, kO⟩
      rw [hres, ← tail]
      rcases hone with ⟨eo, v, v1, v2, v3⟩ | eo
      · simp (disch := first | assumption | omega) only [f_X11_waitsFor, kb_X11_waitsFor_0, KL, KB, KC, KI, KJ, KZ, bI_0, bI_n, nI00, nI10, ne_eq, Classical.not_not, not_true_eq_false, not_false_eq_true, if_true, if_false, ite_not, ite_self, Bool.false_eq_true, nIne1, O_mo, AR, hfi, a5, b5, a9, z00, ew, eo, eq_self, nI_add, v2, v3]
      · have hk1 : (nI k = -1) = False := nIne1 (by omega)
        simp (disch := first | assumption | omega) only [f_X11_waitsFor, kb_X11_waitsFor_0, KL, KB, KC, KI, KJ, KZ, bI_0, bI_n, nI00, nI10, ne_eq, Classical.not_not, not_true_eq_false, not_false_eq_true, if_true, if_false, ite_not, ite_self, Bool.false_eq_true, nIne1, O_mo, AR, hfi, a5, b5, a9, z00, ew, eo, eq_self, hk1]
    · have hz : (nI cx.2.2.1 = 0) = False := by rw [nIk0 (by omega)]; exact eq_false hh
      have hres : waitV n x y (g 196) (g 197) (g 198) cx cy mean rl = decide (cx.2.2.1 = 1) := by
        unfold waitV
        rw [hf, Bool.true_and, if_neg hh]
      refine ⟨g, ?_, fun _ _ _ => rfl⟩
      rw [hres]
      simp (disch := first | assumption | omega) only [f_X11_waitsFor, kb_X11_waitsFor_0, kb_X11_waitsFor_46, KL, KB, KC, KI, KJ, KZ, bI_0, bI_n, nI00, nI10, ne_eq, Classical.not_not, not_true_eq_false, not_false_eq_true, if_true, if_false, ite_not, ite_self, Bool.false_eq_true, nIne1, O_mo, AR, hfi, a5, b5, a9, hz, nIeq, decide_eq_true_eq]
      by_cases q : cx.2.2.1 = 1
      · simp only [q, if_true, not_true_eq_false, if_false]
      · simp only [q, if_true, not_false_eq_true, if_false]
  · have hres : waitV n x y (g 196) (g 197) (g 198) cx cy mean rl = false := by
      unfold waitV
      rw [Bool.eq_false_iff.mpr hf, Bool.false_and]
    simp only [if_neg hf] at hfi
    refine ⟨g, ?_, fun _ _ _ => rfl⟩
    rw [hres]
    simp (disch := first | assumption | omega) only [f_X11_waitsFor, kb_X11_waitsFor_0, KL, KB, KC, KI, KJ, KZ, bI_0, bI_n, nI00, nI10, ne_eq, Classical.not_not, not_true_eq_false, not_false_eq_true, if_true, if_false, ite_not, ite_self, Bool.false_eq_true, nIne1, O_mo, AR, hfi, a5, b5]
