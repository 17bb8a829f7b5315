-- ===== the class's waitsFor =====
/-- a cart that stands on r in the class's cells -/
def cC (g : GG) (X n r : Nat) (c : ACart) : Prop := okGo n r c.1 ∧ c.2.1 ≤ 99 ∧ c.2.2.1 ≤ 2 ∧ c.2.2.2 < 1000000 ∧ g (X + 2) r = nI c.1.1 ∧ g (X + 2) (6 + r) = nI c.1.2.1 ∧ g (X + 2) (12 + r) = nI c.1.2.2 ∧ g (X + 2) (18 + r) = nI c.2.1 ∧ g (X + 2) (24 + r) = nI c.2.2.1 ∧ g (X + 2) (30 + r) = nI c.2.2.2
def firstV (mean : Nat) (cx cy : ACart) : Int32 := if firstB mean cx.2.1 cy.2.1 cx.2.2.2 cy.2.2.2 = true then nI 1 else nI 0
/-- does x's cart wait for y's: the ways fight, and its habit or the rule of its land says so -/
def waitV (n x y : Nat) (sz sl sg : Nat → Int32) (cx cy : ACart) (mean : Nat) (rl : ARule) : Bool :=
  wayB x cx.1.1 y cy.1.1 && (if cx.2.2.1 = 0 then firstW (fvec n x y sz sl sg cx.1 cy.1 (firstV mean cx cy)) rl else decide (cx.2.2.1 = 1))
theorem x_cartsFight (g : GG) (m o X n x y : Nat) (cx cy : ACart) (hX : isX X) (n6 : n ≤ 6) (hx : x < n) (hy : y < n) (h1 : cC g X n x cx) (h2 : cC g X n y cy) : f_X1_cartsFight [.ref X, .int (nI x), .int (nI y)] (hp g m o) = some (some (.int (if wayB x cx.1.1 y cy.1.1 = true then nI 1 else nI 0)), hp g m o) := by
  obtain ⟨a1, a2, a3, a4, a5, a6, a7, a8, a9, a10⟩ := h1
  obtain ⟨b1, b2, b3, b4, b5, b6, b7, b8, b9, b10⟩ := h2
  have hw := fun h => c_ways x cx.1.1 y cy.1.1 (by omega) (by have := a1.1; omega) (by omega) (by have := b1.1; omega) h
  simp (disch := first | assumption | omega) only [f_X1_cartsFight, kb_X1_cartsFight_0, KL, KB, KC, KI, KJ, KZ, bI_0, bI_n, nI00, nI10, ne_eq, Classical.not_not, not_true_eq_false, not_false_eq_true, if_true, if_false, ite_not, ite_self, Bool.false_eq_true, nIne1, XO, nI_add, Nat.zero_add, a5, b5, hw]
  split <;> rfl
theorem c_waitsFor (g : GG) (m o X n x y v k mean : Nat) (cx cy : ACart) (rl : ARule) (hX : isX X) (hX1 : X + 9 < 77) (hX2 : 16 < X) (en : g X 0 = nI n) (n3 : 3 ≤ n) (n6 : n ≤ 6) (hx : x < n) (hy : y < n) (hxy : x ≠ y) (h1 : cC g X n x cx) (h2 : cC g X n y cy) (hv : v < 2) (hk : k < 4) (ev : g (X + 1) (18 + x) = nI v) (ek : g 2 v = nI k) (hC : ruleC g (5 + 3 * k) rl) (hw : wfR rl) (hm : mean < 4) : ∃ g', f_X8_waitsFor [.ref 80, .ref X, .int (nI x), .int (nI y), .int (nI mean)] (hp g m o) = some (some (.int (if waitV n x y (fun r => g (X + 1) r) (fun r => g (X + 1) (6 + r)) (fun r => g (X + 1) (12 + r)) cx cy mean rl = true then nI 1 else nI 0)), hp g' m o) ∧ ∀ a, a ≠ 78 → a ≠ 79 → g' a = g a := by
  have hcf := x_cartsFight g m o X n x y cx cy hX n6 hx hy h1 h2
  obtain ⟨a1, a2, a3, a4, a5, a6, a7, a8, a9, a10⟩ := id h1
  obtain ⟨b1, b2, b3, b4, b5, b6, b7, b8, b9, b10⟩ := id h2
  by_cases hf : wayB x cx.1.1 y cy.1.1 = true
  · rw [if_pos hf] at hcf
    by_cases hh : cx.2.2.1 = 0
    · rw [hh] at a9
      have gx := x_goods g m o X x cx.1 hX (by omega) a5 a6 a7
      have gy := x_goods g m o X y cy.1 hX (by omega) b5 b6 b7
      obtain ⟨g1, e1, p1, p2⟩ := c_put g m o X n x y cx.1 cy.1 hX (by omega) en n3 n6 hx hy hxy a1.1 a1.2.2.1 a1.2.2.2 b1.1 b1.2.2.1 b1.2.2.2
      have hfi := c_isFirst g1 m o X x y cx.2.1 cy.2.1 cx.2.2.2 cy.2.2.2 mean hX (by omega) (by omega) hm a2 b2 a4 b4 (by rw [p1 _ (by omega)]; exact a8) (by rw [p1 _ (by omega)]; exact b8) (by rw [p1 _ (by omega)]; exact a10) (by rw [p1 _ (by omega)]; exact b10)
      have hfv : (if firstB mean cx.2.1 cy.2.1 cx.2.2.2 cy.2.2.2 = true then nI 1 else nI 0) = firstV mean cx cy := rfl
      rw [hfv] at hfi
      have hRk := isR_live k hk
      have kO : ∀ a, a ≠ 78 → upd2 g1 78 14 (firstV mean cx cy) a = g a := fun a ha => by rw [uN ha]; exact p1 a ha
      have hF : ∀ i, i < 16 → upd2 g1 78 14 (firstV mean cx cy) 78 i = fvec n x y (fun r => g (X + 1) r) (fun r => g (X + 1) (6 + r)) (fun r => g (X + 1) (12 + r)) cx.1 cy.1 (firstV mean cx cy) i := by
        intro i hi
        by_cases q : i = 14
        · subst q; rw [uS]; rfl
        · rw [uO (Or.inr q), p2 i hi]
          have hi' : i = 0 ∨ i = 1 ∨ i = 2 ∨ i = 3 ∨ i = 4 ∨ i = 5 ∨ i = 6 ∨ i = 7 ∨ i = 8 ∨ i = 9 ∨ i = 10 ∨ i = 11 ∨ i = 12 ∨ i = 13 ∨ i = 15 := by omega
          rcases hi' with rfl | rfl | rfl | rfl | rfl | rfl | rfl | rfl | rfl | rfl | rfl | rfl | rfl | rfl | rfl <;> rfl
      have hC2 : ruleC (upd2 g1 78 14 (firstV mean cx cy)) (5 + 3 * k) rl := hC.congr (fun a _ _ => kO a (by omega))
      obtain ⟨g3, e3, p3⟩ := c_first _ m o (5 + 3 * k) rl _ hRk (by omega) hC2 hw hF
      have hiw := c_isWait g3 m o (5 + 3 * k) rl (fvec n x y (fun r => g (X + 1) r) (fun r => g (X + 1) (6 + r)) (fun r => g (X + 1) (12 + r)) cx.1 cy.1 (firstV mean cx cy)) hRk (hC2.congr (fun a _ _ => p3 a (by omega))) hw
      have rc : ∀ (g : GG) (k2 : KK) (ls st : List Value) (v0 : Value), kRecv 7 5 1 k2 ls (v0 :: .ref (5 + 3 * k) :: st) (hp g m o) = k2 ls (v0 :: .ref (5 + 3 * k) :: st) (hp g m o) := fun g k2 ls st v0 => rc_at hRk.1 rfl
      have ev2 : upd2 g1 78 14 (firstV mean cx cy) (X + 1) (3 * 6 + x) = nI v := by rw [kO _ (by omega)]; exact ev
      have ek2 : upd2 g1 78 14 (firstV mean cx cy) 2 v = nI k := by rw [kO _ (by omega)]; exact ek
      have z00 : (nI 0 = 0) = True := eq_true rfl
      have hres : waitV n x y (fun r => g (X + 1) r) (fun r => g (X + 1) (6 + r)) (fun r => g (X + 1) (12 + r)) cx cy mean rl = firstW (fvec n x y (fun r => g (X + 1) r) (fun r => g (X + 1) (6 + r)) (fun r => g (X + 1) (12 + r)) cx.1 cy.1 (firstV mean cx cy)) rl := by
        unfold waitV
        rw [hf, Bool.true_and, if_pos hh]
      refine ⟨g3, ?_, fun a h2 h3 => by rw [p3 a h3, kO a h2]⟩
      rw [hres]
      have tail : kb_X8_waitsFor_84 [.ref 80, .ref X, .int (nI x), .int (nI y), .int (nI mean), .int (nI 0)] [.int (firstV mean cx cy), .int (nI 14), .ref 78] (hp g1 m o) = some (some (.int (if firstW (fvec n x y (fun r => g (X + 1) r) (fun r => g (X + 1) (6 + r)) (fun r => g (X + 1) (12 + r)) cx.1 cy.1 (firstV mean cx cy)) rl = true then nI 1 else nI 0)), hp g3 m o) := by
        simp (disch := first | assumption | omega) only [kb_X8_waitsFor_84, KL, KB, KC, KI, KJ, KZ, bI_0, bI_n, nI00, nI10, ne_eq, Classical.not_not, not_true_eq_false, not_false_eq_true, if_true, if_false, ite_not, ite_self, Bool.false_eq_true, nIne1, O_st, O_w, O_pr, AR, XO, x_fact, ev2, ek2, aalR, rc, e3, hiw]
        split <;> rfl
      rw [← tail]
      simp (disch := first | assumption | omega) only [f_X8_waitsFor, kb_X8_waitsFor_0, kb_X8_waitsFor_38, KL, KB, KC, KI, KJ, KZ, bI_0, bI_n, nI00, nI10, ne_eq, Classical.not_not, not_true_eq_false, not_false_eq_true, if_true, if_false, ite_not, ite_self, Bool.false_eq_true, nIne1, O_st, O_w, O_pr, AR, XO, hcf, nI_add, a9, z00, gx, gy, e1, hfi]
      unfold firstV
      split
      · simp only [nI10, if_false]
      · simp only [nI00, if_true]
    · have hz : (nI cx.2.2.1 = 0) = False := by rw [nIk0 (by omega)]; exact eq_false hh
      have hres : waitV n x y (fun r => g (X + 1) r) (fun r => g (X + 1) (6 + r)) (fun r => g (X + 1) (12 + r)) cx cy mean rl = decide (cx.2.2.1 = 1) := by
        unfold waitV
        rw [hf, Bool.true_and, if_neg hh]
      refine ⟨g, ?_, fun _ _ _ => rfl⟩
      rw [hres]
      simp (disch := first | assumption | omega) only [f_X8_waitsFor, kb_X8_waitsFor_0, kb_X8_waitsFor_38, KL, KB, KC, KI, KJ, KZ, bI_0, bI_n, nI00, nI10, ne_eq, Classical.not_not, not_true_eq_false, not_false_eq_true, if_true, if_false, ite_not, ite_self, Bool.false_eq_true, nIne1, O_st, O_w, O_pr, AR, XO, hcf, nI_add, a9, hz, nIeq, decide_eq_true_eq]
      by_cases q : cx.2.2.1 = 1
      · simp only [q, if_true, not_true_eq_false, if_false]
      · simp only [q, if_true, not_false_eq_true, if_false]
  · have hres : waitV n x y (fun r => g (X + 1) r) (fun r => g (X + 1) (6 + r)) (fun r => g (X + 1) (12 + r)) cx cy mean rl = false := by
      unfold waitV
      rw [Bool.eq_false_iff.mpr hf, Bool.false_and]
    rw [if_neg hf] at hcf
    refine ⟨g, ?_, fun _ _ _ => rfl⟩
    rw [hres]
    simp (disch := first | assumption | omega) only [f_X8_waitsFor, kb_X8_waitsFor_0, kb_X8_waitsFor_38, KL, KB, KC, KI, KJ, KZ, bI_0, bI_n, nI00, nI10, ne_eq, Classical.not_not, not_true_eq_false, not_false_eq_true, if_true, if_false, ite_not, ite_self, Bool.false_eq_true, nIne1, O_st, XO, hcf]
