-- ===== the model's gathers =====
/-- a cart that stands on r in the model's laid-out cells -/
def cM (g : GG) (n r : Nat) (c : ACart) (mean : Nat) : Prop := okGo n r c.1 ∧ c.2.1 ≤ 99 ∧ c.2.2.1 ≤ 2 ∧ c.2.2.2 < 1000000 ∧ g 200 r = nI c.1.1 ∧ g 201 r = nI c.1.2.1 ∧ g 202 r = nI c.1.2.2 ∧ g 203 r = nI c.2.1 ∧ g 204 r = nI c.2.2.1 ∧ (mean = 1 → g 205 r = nI c.2.2.2)
def gatG (g : GG) (n x y : Nat) (cx cy : ACart) (R L f : Int32) : GG :=
  upd2 (upd2 (upd2 (upd2 (upd2 (upd2 (upd2 (upd2 (upd2 (upd2 (upd2 (upd2 (upd2 (upd2 (upd2 (upd2 g 195 1 R) 195 2 L) 195 3 (g 196 x)) 195 4 (g 196 y)) 195 5 (nI (turnN n x cx.1.1))) 195 6 (nI (turnN n y cy.1.1))) 195 7 (nI cx.1.2.2)) 195 8 (nI cy.1.2.2)) 195 9 (g 197 x)) 195 10 (g 197 y)) 195 11 (nI cx.1.2.1)) 195 12 (nI cy.1.2.1)) 195 13 (g 198 x)) 195 14 (g 198 y)) 195 15 f) 195 16 (nI n)
theorem m_gathers (g : GG) (m o n x y mean : Nat) (cx cy : ACart) (en : g 188 20 = nI n) (n3 : 3 ≤ n) (n6 : n ≤ 6) (hx : x < n) (hy : y < n) (h1 : cM g n x cx mean) (h2 : cM g n y cy mean) (hm : mean < 4) (em : g 188 35 = nI mean) : ∃ g', f_X11_gathers [.ref 188, .int (nI x), .int (nI y)] (hp g m o) = some (none, hp g' m o) ∧ (∀ a, a ≠ 195 → g' a = g a) ∧ ∀ i, i < 16 → g' 195 (i + 1) = fvec n x y (g 196) (g 197) (g 198) cx.1 cy.1 (firstV mean cx cy) i := by
  obtain ⟨a1, a2, a3, a4, a5, a6, a7, a8, a9, a10⟩ := id h1
  obtain ⟨b1, b2, b3, b4, b5, b6, b7, b8, b9, b10⟩ := id h2
  have t1 := fun h => m_turn n x cx.1.1 n3 n6 hx a1.1 h
  have t2 := fun h => m_turn n y cy.1.1 n3 n6 hy b1.1 h
  have hn0 : (nI n = 0) = False := by rw [nIk0 (by omega)]; exact eq_false (by omega)
  have key : ∀ (R L : Int32), R = (if y = (x + 1) % n then nI 1 else nI 0) → L = (if x = (y + 1) % n then nI 1 else nI 0) → kb_X11_gathers_45 [.ref 188, .int (nI x), .int (nI y)] [.int L, .int (nI 2), .ref 195] (hp (upd2 g 195 1 R) m o) = some (none, hp (gatG g n x y cx cy R L (firstV mean cx cy)) m o) := by
    intro R L hR hL
    have hm' : mean = 0 ∨ mean = 1 ∨ mean = 2 ∨ mean = 3 := by omega
    rcases hm' with rfl | rfl | rfl | rfl
    · have z0 : (nI 0 = 0) = True := eq_true rfl
      simp (disch := first | assumption | omega) only [kb_X11_gathers_45, KL, KB, KC, KI, KJ, KZ, bI_0, bI_n, nI00, nI10, ne_eq, Classical.not_not, not_true_eq_false, not_false_eq_true, if_true, if_false, ite_not, ite_self, Bool.false_eq_true, nIne1, O_mo, AR, upd2_ne, en, em, t1, t2, a5, a6, a7, a8, b5, b6, b7, b8, z0, nIle]
      unfold firstV firstB
      simp only [decide_eq_true_eq]
      by_cases q : cy.2.1 < cx.2.1
      · rw [if_neg (by omega), if_pos q]
        simp (disch := first | assumption | omega) only [kb_X11_gathers_304, kb_X11_gathers_320, KL, KB, KC, KI, KJ, KZ, bI_0, bI_n, nI00, nI10, ne_eq, Classical.not_not, not_true_eq_false, not_false_eq_true, if_true, if_false, ite_not, ite_self, Bool.false_eq_true, nIne1, O_mo, AR, upd2_ne, en]
        rfl
      · rw [if_pos (by omega), if_neg q]
        simp (disch := first | assumption | omega) only [kb_X11_gathers_304, kb_X11_gathers_320, KL, KB, KC, KI, KJ, KZ, bI_0, bI_n, nI00, nI10, ne_eq, Classical.not_not, not_true_eq_false, not_false_eq_true, if_true, if_false, ite_not, ite_self, Bool.false_eq_true, nIne1, O_mo, AR, upd2_ne, en]
        rfl
    · have z0 : (nI 1 = 0) = False := eq_false (by decide)
      simp (disch := first | assumption | omega) only [kb_X11_gathers_45, KL, KB, KC, KI, KJ, KZ, bI_0, bI_n, nI00, nI10, ne_eq, Classical.not_not, not_true_eq_false, not_false_eq_true, if_true, if_false, ite_not, ite_self, Bool.false_eq_true, nIne1, O_mo, AR, upd2_ne, en, em, t1, t2, a5, a6, a7, a10 rfl, b5, b6, b7, b10 rfl, z0, nIle, eq_self]
      unfold firstV firstB
      simp only [decide_eq_true_eq]
      by_cases q : cx.2.2.2 < cy.2.2.2
      · rw [if_neg (by omega), if_pos q]
        simp (disch := first | assumption | omega) only [kb_X11_gathers_304, kb_X11_gathers_320, KL, KB, KC, KI, KJ, KZ, bI_0, bI_n, nI00, nI10, ne_eq, Classical.not_not, not_true_eq_false, not_false_eq_true, if_true, if_false, ite_not, ite_self, Bool.false_eq_true, nIne1, O_mo, AR, upd2_ne, en]
        rfl
      · rw [if_pos (by omega), if_neg q]
        simp (disch := first | assumption | omega) only [kb_X11_gathers_304, kb_X11_gathers_320, KL, KB, KC, KI, KJ, KZ, bI_0, bI_n, nI00, nI10, ne_eq, Classical.not_not, not_true_eq_false, not_false_eq_true, if_true, if_false, ite_not, ite_self, Bool.false_eq_true, nIne1, O_mo, AR, upd2_ne, en]
        rfl
    · have z0 : (nI 2 = 0) = False := eq_false (by decide)
      have z1 : (nI 2 = nI 1) = False := eq_false (by decide)
      have z3 : (nI 2 = nI 3) = False := eq_false (by decide)
      simp (disch := first | assumption | omega) only [kb_X11_gathers_45, kb_X11_gathers_303, kb_X11_gathers_304, kb_X11_gathers_320, KL, KB, KC, KI, KJ, KZ, bI_0, bI_n, nI00, nI10, ne_eq, Classical.not_not, not_true_eq_false, not_false_eq_true, if_true, if_false, ite_not, ite_self, Bool.false_eq_true, nIne1, O_mo, AR, upd2_ne, en, em, t1, t2, a5, a6, a7, b5, b6, b7, z0, z1, z3]
      rfl
    · have z0 : (nI 3 = 0) = False := eq_false (by decide)
      have z1 : (nI 3 = nI 1) = False := eq_false (by decide)
      simp (disch := first | assumption | omega) only [kb_X11_gathers_45, KL, KB, KC, KI, KJ, KZ, bI_0, bI_n, nI00, nI10, ne_eq, Classical.not_not, not_true_eq_false, not_false_eq_true, if_true, if_false, ite_not, ite_self, Bool.false_eq_true, nIne1, O_mo, AR, upd2_ne, en, em, t1, t2, a5, a6, a7, a8, b5, b6, b7, b8, z0, z1, eq_self, nIlt]
      unfold firstV firstB
      simp only [decide_eq_true_eq]
      by_cases q : cy.2.1 ≤ cx.2.1
      · rw [if_neg (by omega), if_pos q]
        simp (disch := first | assumption | omega) only [kb_X11_gathers_304, kb_X11_gathers_320, KL, KB, KC, KI, KJ, KZ, bI_0, bI_n, nI00, nI10, ne_eq, Classical.not_not, not_true_eq_false, not_false_eq_true, if_true, if_false, ite_not, ite_self, Bool.false_eq_true, nIne1, O_mo, AR, upd2_ne, en]
        rfl
      · rw [if_pos (by omega), if_neg q]
        simp (disch := first | assumption | omega) only [kb_X11_gathers_303, kb_X11_gathers_304, kb_X11_gathers_320, KL, KB, KC, KI, KJ, KZ, bI_0, bI_n, nI00, nI10, ne_eq, Classical.not_not, not_true_eq_false, not_false_eq_true, if_true, if_false, ite_not, ite_self, Bool.false_eq_true, nIne1, O_mo, AR, upd2_ne, en]
        rfl
  refine ⟨gatG g n x y cx cy (if y = (x + 1) % n then nI 1 else nI 0) (if x = (y + 1) % n then nI 1 else nI 0) (firstV mean cx cy), ?_, fun a ha => ?_, fun i hi => ?_⟩
  · have hmx : (x + 1) - (x + 1) / n * n = (x + 1) % n := by have := Nat.div_add_mod (x + 1) n; rw [Nat.mul_comm] at this; omega
    have hmy : (y + 1) - (y + 1) / n * n = (y + 1) % n := by have := Nat.div_add_mod (y + 1) n; rw [Nat.mul_comm] at this; omega
    have lx : (x + 1) % n < 2147483648 := by have := Nat.mod_lt (x + 1) (show 0 < n by omega); omega
    have ly : (y + 1) % n < 2147483648 := by have := Nat.mod_lt (y + 1) (show 0 < n by omega); omega
    simp (disch := first | assumption | omega) only [f_X11_gathers, kb_X11_gathers_0, KL, KB, KC, KI, KJ, KZ, bI_0, bI_n, nI00, nI10, ne_eq, Classical.not_not, not_true_eq_false, not_false_eq_true, if_true, if_false, ite_not, ite_self, Bool.false_eq_true, nIne1, O_mo, AR, en, hn0, nI_add, nI_div, nI_rem2, nIeq]
    rw [← key _ _ rfl rfl]
    by_cases q1 : y = (x + 1) % n
    all_goals by_cases q2 : x = (y + 1) % n
    · simp only [if_pos q1, if_pos q2]
      simp (disch := first | assumption | omega) only [kb_X11_gathers_22, KL, KB, KC, KI, KJ, KZ, bI_0, bI_n, nI00, nI10, ne_eq, Classical.not_not, not_true_eq_false, not_false_eq_true, if_true, if_false, ite_not, ite_self, Bool.false_eq_true, nIne1, O_mo, AR, upd2_ne, en, hn0, nI_add, nI_div, nI_rem2, nIeq]
      simp only [if_pos q2]
    · simp only [if_pos q1, if_neg q2]
      simp (disch := first | assumption | omega) only [kb_X11_gathers_22, KL, KB, KC, KI, KJ, KZ, bI_0, bI_n, nI00, nI10, ne_eq, Classical.not_not, not_true_eq_false, not_false_eq_true, if_true, if_false, ite_not, ite_self, Bool.false_eq_true, nIne1, O_mo, AR, upd2_ne, en, hn0, nI_add, nI_div, nI_rem2, nIeq]
      simp only [if_neg q2]
    · simp only [if_neg q1, if_pos q2]
      simp (disch := first | assumption | omega) only [kb_X11_gathers_22, KL, KB, KC, KI, KJ, KZ, bI_0, bI_n, nI00, nI10, ne_eq, Classical.not_not, not_true_eq_false, not_false_eq_true, if_true, if_false, ite_not, ite_self, Bool.false_eq_true, nIne1, O_mo, AR, upd2_ne, en, hn0, nI_add, nI_div, nI_rem2, nIeq]
      simp only [if_pos q2]
    · simp only [if_neg q1, if_neg q2]
      simp (disch := first | assumption | omega) only [kb_X11_gathers_22, KL, KB, KC, KI, KJ, KZ, bI_0, bI_n, nI00, nI10, ne_eq, Classical.not_not, not_true_eq_false, not_false_eq_true, if_true, if_false, ite_not, ite_self, Bool.false_eq_true, nIne1, O_mo, AR, upd2_ne, en, hn0, nI_add, nI_div, nI_rem2, nIeq]
      simp only [if_neg q2]
  · unfold gatG
    simp only [upd2_ne _ _ ha]
  · unfold gatG
    have hi' : i = 0 ∨ i = 1 ∨ i = 2 ∨ i = 3 ∨ i = 4 ∨ i = 5 ∨ i = 6 ∨ i = 7 ∨ i = 8 ∨ i = 9 ∨ i = 10 ∨ i = 11 ∨ i = 12 ∨ i = 13 ∨ i = 14 ∨ i = 15 := by omega
    rcases hi' with rfl | rfl | rfl | rfl | rfl | rfl | rfl | rfl | rfl | rfl | rfl | rfl | rfl | rfl | rfl | rfl
    all_goals simp (disch := omega) only [Nat.reduceAdd, Nat.zero_add, upd2_other, upd2_same]
    all_goals rfl
