-- ===== who may go, on both sides, from who waits for whom =====
def SC (g g' : GG) : Prop := ∀ a, a ≠ 78 → a ≠ 79 → g' a = g a
def SM (g g' : GG) : Prop := ∀ a, a ≠ 194 → a ≠ 195 → g' a = g a
theorem SC.rfl' {g : GG} : SC g g := fun _ _ _ => rfl
theorem SM.rfl' {g : GG} : SM g g := fun _ _ _ => rfl
theorem SC.tr {g g' g2 : GG} (h : SC g g') (h2 : SC g' g2) : SC g g2 := fun a p q => (h2 a p q).trans (h a p q)
theorem SM.tr {g g' g2 : GG} (h : SM g g') (h2 : SM g' g2) : SM g g2 := fun a p q => (h2 a p q).trans (h a p q)
/-- the class's waitsFor tells W of those in s -/
def CW (X n s : Nat) (W : Nat → Nat → Bool) (mean : Nat) (g : GG) (m o : Nat) : Prop := ∀ g', SC g g' → ∀ x y, x < n → y < n → x ≠ y → s.testBit x = true → s.testBit y = true → ∃ g2, f_X8_waitsFor [.ref 80, .ref X, .int (nI x), .int (nI y), .int (nI mean)] (hp g' m o) = some (some (.int (bW (W x y))), hp g2 m o) ∧ SC g' g2
/-- the model's waitsFor tells W of those in s -/
def MW (n s : Nat) (W : Nat → Nat → Bool) (g : GG) (m o : Nat) : Prop := ∀ g', SM g g' → ∀ x y, x < n → y < n → x ≠ y → s.testBit x = true → s.testBit y = true → ∃ g2, f_X11_waitsFor [.ref 188, .int (nI x), .int (nI y)] (hp g' m o) = some (some (.int (bW (W x y))), hp g2 m o) ∧ SM g' g2
/-- for whom x waits, of those in s -/
def awP (s : Nat) (W : Nat → Nat → Bool) (x y : Nat) : Bool := decide (y ≠ x) && s.testBit y && W x y
def mayP (n s : Nat) (W : Nat → Nat → Bool) (x : Nat) : Bool := s.testBit x && decide (firstJ (awP s W x) n 0 = -1)
def goS (n s : Nat) (W : Nat → Nat → Bool) : Nat := setN (mayP n s W) n
theorem mayP_iff {n s : Nat} {W : Nat → Nat → Bool} {x : Nat} (hn : n < 100) : mayP n s W x = true ↔ s.testBit x = true ∧ ∀ y, y < n → y ≠ x → s.testBit y = true → W x y = false := by
  unfold mayP
  rw [Bool.and_eq_true, decide_eq_true_eq, firstJ_none (by omega)]
  refine and_congr_right (fun _ => forall_congr' (fun y => ?_))
  unfold awP
  constructor
  · intro h h1 h2 h3
    have := h h1
    rw [decide_eq_true h2, h3, Bool.true_and, Bool.true_and] at this
    exact this
  · intro h h1
    by_cases q : y = x
    · rw [decide_eq_false (fun e => e q), Bool.false_and, Bool.false_and]
    · by_cases r : s.testBit y = true
      · rw [h h1 q r, Bool.and_false]
      · rw [Bool.eq_false_iff.mpr r, Bool.and_false, Bool.false_and]
theorem c_least {X n s mean : Nat} {W : Nat → Nat → Bool} {g : GG} {m o : Nat} (hX : isX X) (en : ∀ g', SC g g' → g' X 0 = nI n) (n6 : n ≤ 6) (hs : s < 64) (hW : CW X n s W mean g m o) (x : Nat) (hx : x < n) (hxs : s.testBit x = true) (g' : GG) (hg : SC g g') : ∃ g2, f_X8_leastAwaited [.ref 80, .ref X, .int (nI s), .int (nI x), .int (nI mean)] (hp g' m o) = some (some (.int (firstJ (awP s W x) n 0)), hp g2 m o) ∧ SC g g2 := by
  simp (disch := first | assumption | omega) only [f_X8_leastAwaited, kb_X8_leastAwaited_43, kb_X8_leastAwaited_0, KL, KB, KC, KI, KJ, KZ, bI_0, bI_n, nI00, nI10, ne_eq, Classical.not_not, not_true_eq_false, not_false_eq_true, if_true, if_false, ite_not, ite_self, Bool.false_eq_true, nIne1]
  unfold kl_X8_leastAwaited_3
  refine kFor n (by unfold FU; omega) (fun i ls h => ∃ g3, ls = [.ref 80, .ref X, .int (nI s), .int (nI x), .int (nI mean), .int (nI i)] ∧ h = hp g3 m o ∧ SC g g3 ∧ firstJ (awP s W x) n 0 = firstJ (awP s W x) (n - i) i) (fun r => ∃ g2, r = some (some (.int (firstJ (awP s W x) n 0)), hp g2 m o) ∧ SC g g2) ?_ ?_ 0 _ _ (by omega) ⟨g', rfl, rfl, hg, rfl⟩
  · rintro s0 ls h ⟨g3, rfl, rfl, h1, h2⟩
    have e := en g3 h1
    have hin : (n ≤ n) = True := eq_true (by omega)
    simp (disch := first | assumption | omega) only [KL, KB, KC, KI, KJ, KZ, bI_0, bI_n, nI00, nI10, ne_eq, Classical.not_not, not_true_eq_false, not_false_eq_true, if_true, if_false, ite_not, ite_self, Bool.false_eq_true, nIne1, kMask, mask, XO, e, nIle, hin]
    refine ⟨g3, ?_, h1⟩
    rw [h2, Nat.sub_self]; rfl
  · rintro s0 i hi ih ls h ⟨g3, rfl, rfl, h1, h2⟩
    have e := en g3 h1
    have hin : (n ≤ i) = False := eq_false (by omega)
    rw [show n - i = (n - (i + 1)) + 1 by omega] at h2
    by_cases q : i = x
    · have hp0 : awP s W x i = false := by unfold awP; rw [decide_eq_false (fun e => e q), Bool.false_and, Bool.false_and]
      have h3 : firstJ (awP s W x) n 0 = firstJ (awP s W x) (n - (i + 1)) (i + 1) := by rw [h2]; exact if_neg (by rw [hp0]; decide)
      have hq : (i = x) = True := eq_true q
      simp (disch := first | assumption | omega) only [f_X8_leastAwaited, kb_X8_leastAwaited_43, kb_X8_leastAwaited_0, KL, KB, KC, KI, KJ, KZ, bI_0, bI_n, nI00, nI10, ne_eq, Classical.not_not, not_true_eq_false, not_false_eq_true, if_true, if_false, ite_not, ite_self, Bool.false_eq_true, nIne1, kMask, mask, XO, e, nIle, hin, nIeq, hq, nI_add]
      exact ih _ _ ⟨g3, rfl, rfl, h1, h3⟩
    · have hq : (i = x) = False := eq_false q
      by_cases t : s.testBit i = true
      · obtain ⟨g4, e4, p4⟩ := hW g3 h1 x i hx hi (Ne.symm q) hxs t
        have hp0 : awP s W x i = W x i := by unfold awP; rw [decide_eq_true q, t, Bool.true_and, Bool.true_and]
        have hb : ((s >>> i).testBit 0 = false) = False := by rw [Nat.testBit_shiftRight, Nat.add_zero, t]; simp
        cases w : W x i with
        | true =>
          have h3 : firstJ (awP s W x) n 0 = nI i := by rw [h2]; exact if_pos (by rw [hp0]; exact w)
          rw [w] at e4
          simp (disch := first | assumption | omega) only [f_X8_leastAwaited, kb_X8_leastAwaited_43, kb_X8_leastAwaited_0, KL, KB, KC, KI, KJ, KZ, bI_0, bI_n, nI00, nI10, ne_eq, Classical.not_not, not_true_eq_false, not_false_eq_true, if_true, if_false, ite_not, ite_self, Bool.false_eq_true, nIne1, kMask, mask, XO, O_st, e, nIle, hin, nIeq, hq, nI_shr, nI_and, bit0, hb, e4, bW_t]
          exact ⟨g4, by rw [h3], h1.tr p4⟩
        | false =>
          have h3 : firstJ (awP s W x) n 0 = firstJ (awP s W x) (n - (i + 1)) (i + 1) := by rw [h2]; exact if_neg (by rw [hp0, w]; decide)
          rw [w] at e4
          simp (disch := first | assumption | omega) only [f_X8_leastAwaited, kb_X8_leastAwaited_43, kb_X8_leastAwaited_0, KL, KB, KC, KI, KJ, KZ, bI_0, bI_n, nI00, nI10, ne_eq, Classical.not_not, not_true_eq_false, not_false_eq_true, if_true, if_false, ite_not, ite_self, Bool.false_eq_true, nIne1, kMask, mask, XO, O_st, e, nIle, hin, nIeq, hq, nI_shr, nI_and, bit0, hb, e4, bW_f, nI_add]
          exact ih _ _ ⟨g4, rfl, rfl, h1.tr p4, h3⟩
      · have hp0 : awP s W x i = false := by unfold awP; rw [Bool.eq_false_iff.mpr t, Bool.and_false, Bool.false_and]
        have h3 : firstJ (awP s W x) n 0 = firstJ (awP s W x) (n - (i + 1)) (i + 1) := by rw [h2]; exact if_neg (by rw [hp0]; decide)
        have hb : ((s >>> i).testBit 0 = false) = True := by rw [Nat.testBit_shiftRight, Nat.add_zero, Bool.eq_false_iff.mpr t]; simp
        simp (disch := first | assumption | omega) only [f_X8_leastAwaited, kb_X8_leastAwaited_43, kb_X8_leastAwaited_0, KL, KB, KC, KI, KJ, KZ, bI_0, bI_n, nI00, nI10, ne_eq, Classical.not_not, not_true_eq_false, not_false_eq_true, if_true, if_false, ite_not, ite_self, Bool.false_eq_true, nIne1, kMask, mask, XO, e, nIle, hin, nIeq, hq, nI_shr, nI_and, bit0, hb, nI_add]
        exact ih _ _ ⟨g3, rfl, rfl, h1, h3⟩
theorem c_goers {X n s mean : Nat} {W : Nat → Nat → Bool} {g : GG} {m o : Nat} (hX : isX X) (en : ∀ g', SC g g' → g' X 0 = nI n) (n6 : n ≤ 6) (hs : s < 64) (hW : CW X n s W mean g m o) (g' : GG) (hg : SC g g') : ∃ g2, f_X8_goers [.ref 80, .ref X, .int (nI s), .int (nI mean)] (hp g' m o) = some (some (.int (nI (goS n s W))), hp g2 m o) ∧ SC g g2 := by
  simp (disch := first | assumption | omega) only [f_X8_goers, kb_X8_goers_46, kb_X8_goers_0, KL, KB, KC, KI, KJ, KZ, bI_0, bI_n, nI00, nI10, ne_eq, Classical.not_not, not_true_eq_false, not_false_eq_true, if_true, if_false, ite_not, ite_self, Bool.false_eq_true, nIne1]
  unfold kl_X8_goers_6
  refine kFor n (by unfold FU; omega) (fun i ls h => ∃ g3, ls = [.ref 80, .ref X, .int (nI s), .int (nI mean), .int (nI (setN (mayP n s W) i)), .int (nI i)] ∧ h = hp g3 m o ∧ SC g g3) (fun r => ∃ g2, r = some (some (.int (nI (goS n s W))), hp g2 m o) ∧ SC g g2) ?_ ?_ 0 _ _ (by omega) ⟨g', rfl, rfl, hg⟩
  · rintro s0 ls h ⟨g3, rfl, rfl, h1⟩
    have e := en g3 h1
    have hin : (n ≤ n) = True := eq_true (by omega)
    simp (disch := first | assumption | omega) only [KL, KB, KC, KI, KJ, KZ, bI_0, bI_n, nI00, nI10, ne_eq, Classical.not_not, not_true_eq_false, not_false_eq_true, if_true, if_false, ite_not, ite_self, Bool.false_eq_true, nIne1, kMask, mask, XO, e, nIle, hin]
    exact ⟨g3, rfl, h1⟩
  · rintro s0 i hi ih ls h ⟨g3, rfl, rfl, h1⟩
    have e := en g3 h1
    have hin : (n ≤ i) = False := eq_false (by omega)
    by_cases t : s.testBit i = true
    · obtain ⟨g4, e4, p4⟩ := c_least hX en n6 hs hW i hi t g3 h1
      have hb : ((s >>> i).testBit 0 = false) = False := by rw [Nat.testBit_shiftRight, Nat.add_zero, t]; simp
      by_cases q : firstJ (awP s W i) n 0 = -1
      · have hm : mayP n s W i = true := by unfold mayP; rw [t, decide_eq_true q]; rfl
        have hS : setN (mayP n s W) (i + 1) = setN (mayP n s W) i ||| 1 <<< i := by show _ ||| _ = _; rw [if_pos hm]
        simp (disch := first | assumption | omega) only [f_X8_goers, kb_X8_goers_46, kb_X8_goers_0, KL, KB, KC, KI, KJ, KZ, bI_0, bI_n, nI00, nI10, ne_eq, Classical.not_not, not_true_eq_false, not_false_eq_true, if_true, if_false, ite_not, ite_self, Bool.false_eq_true, nIne1, kMask, mask, XO, O_st, e, nIle, hin, nI_shr, nI_and, bit0, hb, e4, q, nI_shl, nI_or, nI_add]
        exact ih _ _ ⟨g4, by rw [hS], rfl, p4⟩
      · have hm : mayP n s W i = false := by unfold mayP; rw [decide_eq_false q, Bool.and_false]
        have hS : setN (mayP n s W) (i + 1) = setN (mayP n s W) i := by show _ ||| _ = _; rw [if_neg (by rw [hm]; decide), Nat.or_zero]
        simp (disch := first | assumption | omega) only [f_X8_goers, kb_X8_goers_46, kb_X8_goers_0, KL, KB, KC, KI, KJ, KZ, bI_0, bI_n, nI00, nI10, ne_eq, Classical.not_not, not_true_eq_false, not_false_eq_true, if_true, if_false, ite_not, ite_self, Bool.false_eq_true, nIne1, kMask, mask, XO, O_st, e, nIle, hin, nI_shr, nI_and, bit0, hb, e4, q, nI_add]
        exact ih _ _ ⟨g4, by rw [hS], rfl, p4⟩
    · have hm : mayP n s W i = false := by unfold mayP; rw [Bool.eq_false_iff.mpr t, Bool.false_and]
      have hS : setN (mayP n s W) (i + 1) = setN (mayP n s W) i := by show _ ||| _ = _; rw [if_neg (by rw [hm]; decide), Nat.or_zero]
      have hb : ((s >>> i).testBit 0 = false) = True := by rw [Nat.testBit_shiftRight, Nat.add_zero, Bool.eq_false_iff.mpr t]; simp
      simp (disch := first | assumption | omega) only [f_X8_goers, kb_X8_goers_46, kb_X8_goers_0, KL, KB, KC, KI, KJ, KZ, bI_0, bI_n, nI00, nI10, ne_eq, Classical.not_not, not_true_eq_false, not_false_eq_true, if_true, if_false, ite_not, ite_self, Bool.false_eq_true, nIne1, kMask, mask, XO, e, nIle, hin, nI_shr, nI_and, bit0, hb, nI_add]
      exact ih _ _ ⟨g3, by rw [hS], rfl, h1⟩
/-- the model's laid-out roads: n, and a cart on those in s -/
def ML (n s : Nat) (g : GG) : Prop := g 188 20 = nI n ∧ ∀ r, r < n → g 207 r = bW (s.testBit r)
theorem ML.sm {n s : Nat} {g g' : GG} (h : ML n s g) (hg : SM g g') : ML n s g' := ⟨by rw [hg 188 (by omega) (by omega)]; exact h.1, fun r hr => by rw [hg 207 (by omega) (by omega)]; exact h.2 r hr⟩
theorem m_mayGo {n s : Nat} {W : Nat → Nat → Bool} {g : GG} {m o : Nat} (hL : ML n s g) (n6 : n ≤ 6) (hW : MW n s W g m o) (x : Nat) (hx : x < n) (g' : GG) (hg : SM g g') : ∃ g2, f_X11_mayGo [.ref 188, .int (nI x)] (hp g' m o) = some (some (.int (bW (mayP n s W x))), hp g2 m o) ∧ SM g g2 := by
  by_cases hxs : s.testBit x = true
  · have hx0 := (hL.sm hg).2 x hx
    rw [hxs, bW_t] at hx0
    have hmay : ∀ b : Bool, decide (firstJ (awP s W x) n 0 = -1) = b → mayP n s W x = b := fun b hb => by unfold mayP; rw [hxs, hb]; rfl
    simp (disch := first | assumption | omega) only [f_X11_mayGo, kb_X11_mayGo_46, kb_X11_mayGo_0, KL, KB, KC, KI, KJ, KZ, bI_0, bI_n, nI00, nI10, ne_eq, Classical.not_not, not_true_eq_false, not_false_eq_true, if_true, if_false, ite_not, ite_self, Bool.false_eq_true, nIne1, O_mo, AR, hx0]
    unfold kl_X11_mayGo_13
    refine kFor n (by unfold FU; omega) (fun i ls h => ∃ g3, ls = [.ref 188, .int (nI x), .int (nI i)] ∧ h = hp g3 m o ∧ SM g g3 ∧ firstJ (awP s W x) n 0 = firstJ (awP s W x) (n - i) i) (fun r => ∃ g2, r = some (some (.int (bW (mayP n s W x))), hp g2 m o) ∧ SM g g2) ?_ ?_ 0 _ _ (by omega) ⟨g', rfl, rfl, hg, rfl⟩
    · rintro s0 ls h ⟨g3, rfl, rfl, h1, h2⟩
      have e := (hL.sm h1).1
      have hin : (n ≤ n) = True := eq_true (by omega)
      simp (disch := first | assumption | omega) only [KL, KB, KC, KI, KJ, KZ, bI_0, bI_n, nI00, nI10, ne_eq, Classical.not_not, not_true_eq_false, not_false_eq_true, if_true, if_false, ite_not, ite_self, Bool.false_eq_true, nIne1, kMask, mask, O_mo, e, nIle, hin]
      rw [hmay true (by rw [h2, Nat.sub_self]; rfl)]
      exact ⟨g3, rfl, h1⟩
    · rintro s0 i hi ih ls h ⟨g3, rfl, rfl, h1, h2⟩
      have e := (hL.sm h1).1
      have ei := (hL.sm h1).2 i hi
      have hin : (n ≤ i) = False := eq_false (by omega)
      rw [show n - i = (n - (i + 1)) + 1 by omega] at h2
      by_cases q : i = x
      · have hp0 : awP s W x i = false := by unfold awP; rw [decide_eq_false (fun e => e q), Bool.false_and, Bool.false_and]
        have h3 : firstJ (awP s W x) n 0 = firstJ (awP s W x) (n - (i + 1)) (i + 1) := by rw [h2]; exact if_neg (by rw [hp0]; decide)
        have hq : (i = x) = True := eq_true q
        simp (disch := first | assumption | omega) only [f_X11_mayGo, kb_X11_mayGo_46, kb_X11_mayGo_0, KL, KB, KC, KI, KJ, KZ, bI_0, bI_n, nI00, nI10, ne_eq, Classical.not_not, not_true_eq_false, not_false_eq_true, if_true, if_false, ite_not, ite_self, Bool.false_eq_true, nIne1, kMask, mask, O_mo, e, nIle, hin, nIeq, hq, nI_add]
        exact ih _ _ ⟨g3, rfl, rfl, h1, h3⟩
      · have hq : (i = x) = False := eq_false q
        by_cases t : s.testBit i = true
        · obtain ⟨g4, e4, p4⟩ := hW g3 h1 x i hx hi (Ne.symm q) hxs t
          have hp0 : awP s W x i = W x i := by unfold awP; rw [decide_eq_true q, t, Bool.true_and, Bool.true_and]
          rw [t, bW_t] at ei
          cases w : W x i with
          | true =>
            have h3 : firstJ (awP s W x) n 0 = nI i := by rw [h2]; exact if_pos (by rw [hp0]; exact w)
            rw [w] at e4
            simp (disch := first | assumption | omega) only [f_X11_mayGo, kb_X11_mayGo_46, kb_X11_mayGo_0, KL, KB, KC, KI, KJ, KZ, bI_0, bI_n, nI00, nI10, ne_eq, Classical.not_not, not_true_eq_false, not_false_eq_true, if_true, if_false, ite_not, ite_self, Bool.false_eq_true, nIne1, kMask, mask, O_mo, AR, e, ei, nIle, hin, nIeq, hq, e4, bW_t]
            rw [hmay false (by rw [h3]; exact decide_eq_false (fun q => (nIne1 (by omega)).mp q))]
            exact ⟨g4, rfl, h1.tr p4⟩
          | false =>
            have h3 : firstJ (awP s W x) n 0 = firstJ (awP s W x) (n - (i + 1)) (i + 1) := by rw [h2]; exact if_neg (by rw [hp0, w]; decide)
            rw [w] at e4
            simp (disch := first | assumption | omega) only [f_X11_mayGo, kb_X11_mayGo_46, kb_X11_mayGo_0, KL, KB, KC, KI, KJ, KZ, bI_0, bI_n, nI00, nI10, ne_eq, Classical.not_not, not_true_eq_false, not_false_eq_true, if_true, if_false, ite_not, ite_self, Bool.false_eq_true, nIne1, kMask, mask, O_mo, AR, e, ei, nIle, hin, nIeq, hq, e4, bW_f, nI_add]
            exact ih _ _ ⟨g4, rfl, rfl, h1.tr p4, h3⟩
        · have hp0 : awP s W x i = false := by unfold awP; rw [Bool.eq_false_iff.mpr t, Bool.and_false, Bool.false_and]
          have h3 : firstJ (awP s W x) n 0 = firstJ (awP s W x) (n - (i + 1)) (i + 1) := by rw [h2]; exact if_neg (by rw [hp0]; decide)
          rw [Bool.eq_false_iff.mpr t, bW_f] at ei
          simp (disch := first | assumption | omega) only [f_X11_mayGo, kb_X11_mayGo_46, kb_X11_mayGo_0, KL, KB, KC, KI, KJ, KZ, bI_0, bI_n, nI00, nI10, ne_eq, Classical.not_not, not_true_eq_false, not_false_eq_true, if_true, if_false, ite_not, ite_self, Bool.false_eq_true, nIne1, kMask, mask, O_mo, AR, e, ei, nIle, hin, nIeq, hq, nI_add]
          exact ih _ _ ⟨g3, rfl, rfl, h1, h3⟩
  · have hx0 := (hL.sm hg).2 x hx
    rw [Bool.eq_false_iff.mpr hxs, bW_f] at hx0
    have hm : mayP n s W x = false := by unfold mayP; rw [Bool.eq_false_iff.mpr hxs, Bool.false_and]
    rw [hm]
    simp (disch := first | assumption | omega) only [f_X11_mayGo, kb_X11_mayGo_46, kb_X11_mayGo_0, KL, KB, KC, KI, KJ, KZ, bI_0, bI_n, nI00, nI10, ne_eq, Classical.not_not, not_true_eq_false, not_false_eq_true, if_true, if_false, ite_not, ite_self, Bool.false_eq_true, nIne1, O_mo, AR, hx0]
    exact ⟨g', rfl, hg⟩
theorem m_goers {n s : Nat} {W : Nat → Nat → Bool} {g : GG} {m o : Nat} (hL : ML n s g) (n6 : n ≤ 6) (hW : MW n s W g m o) (g' : GG) (hg : SM g g') : ∃ g2, f_X11_goers [.ref 188] (hp g' m o) = some (some (.int (nI (goS n s W))), hp g2 m o) ∧ SM g g2 := by
  simp (disch := first | assumption | omega) only [f_X11_goers, kb_X11_goers_28, kb_X11_goers_0, KL, KB, KC, KI, KJ, KZ, bI_0, bI_n, nI00, nI10, ne_eq, Classical.not_not, not_true_eq_false, not_false_eq_true, if_true, if_false, ite_not, ite_self, Bool.false_eq_true, nIne1]
  unfold kl_X11_goers_4
  refine kFor n (by unfold FU; omega) (fun i ls h => ∃ g3, ls = [.ref 188, .int (nI (setN (mayP n s W) i)), .int (nI i)] ∧ h = hp g3 m o ∧ SM g g3) (fun r => ∃ g2, r = some (some (.int (nI (goS n s W))), hp g2 m o) ∧ SM g g2) ?_ ?_ 0 _ _ (by omega) ⟨g', rfl, rfl, hg⟩
  · rintro s0 ls h ⟨g3, rfl, rfl, h1⟩
    have e := (hL.sm h1).1
    have hin : (n ≤ n) = True := eq_true (by omega)
    simp (disch := first | assumption | omega) only [KL, KB, KC, KI, KJ, KZ, bI_0, bI_n, nI00, nI10, ne_eq, Classical.not_not, not_true_eq_false, not_false_eq_true, if_true, if_false, ite_not, ite_self, Bool.false_eq_true, nIne1, kMask, mask, O_mo, e, nIle, hin]
    exact ⟨g3, rfl, h1⟩
  · rintro s0 i hi ih ls h ⟨g3, rfl, rfl, h1⟩
    have e := (hL.sm h1).1
    have hin : (n ≤ i) = False := eq_false (by omega)
    obtain ⟨g4, e4, p4⟩ := m_mayGo hL n6 hW i hi g3 h1
    cases hm : mayP n s W i with
    | true =>
      have hS : setN (mayP n s W) (i + 1) = setN (mayP n s W) i ||| 1 <<< i := by show _ ||| _ = _; rw [if_pos hm]
      rw [hm] at e4
      simp (disch := first | assumption | omega) only [f_X11_goers, kb_X11_goers_28, kb_X11_goers_0, KL, KB, KC, KI, KJ, KZ, bI_0, bI_n, nI00, nI10, ne_eq, Classical.not_not, not_true_eq_false, not_false_eq_true, if_true, if_false, ite_not, ite_self, Bool.false_eq_true, nIne1, kMask, mask, O_mo, e, nIle, hin, e4, bW_t, nI_shl, nI_or, nI_add]
      exact ih _ _ ⟨g4, by rw [hS], rfl, p4⟩
    | false =>
      have hS : setN (mayP n s W) (i + 1) = setN (mayP n s W) i := by show _ ||| _ = _; rw [if_neg (by rw [hm]; decide), Nat.or_zero]
      rw [hm] at e4
      simp (disch := first | assumption | omega) only [f_X11_goers, kb_X11_goers_28, kb_X11_goers_0, KL, KB, KC, KI, KJ, KZ, bI_0, bI_n, nI00, nI10, ne_eq, Classical.not_not, not_true_eq_false, not_false_eq_true, if_true, if_false, ite_not, ite_self, Bool.false_eq_true, nIne1, kMask, mask, O_mo, e, nIle, hin, e4, bW_f, nI_or, Nat.or_zero, nI_add]
      exact ih _ _ ⟨g4, by rw [hS], rfl, p4⟩
theorem m_carts {n s : Nat} {g : GG} {m o : Nat} (hL : ML n s g) (n6 : n ≤ 6) (hs : s < 2 ^ n) : f_X11_carts [.ref 188] (hp g m o) = some (some (.int (nI s)), hp g m o) := by
  simp (disch := first | assumption | omega) only [f_X11_carts, kb_X11_carts_29, kb_X11_carts_0, KL, KB, KC, KI, KJ, KZ, bI_0, bI_n, nI00, nI10, ne_eq, Classical.not_not, not_true_eq_false, not_false_eq_true, if_true, if_false, ite_not, ite_self, Bool.false_eq_true, nIne1]
  unfold kl_X11_carts_4
  refine kFor n (by unfold FU; omega) (fun i ls h => ls = [.ref 188, .int (nI (setN (fun r => s.testBit r) i)), .int (nI i)] ∧ h = hp g m o) (fun r => r = some (some (.int (nI s)), hp g m o)) ?_ ?_ 0 _ _ (by omega) ⟨rfl, rfl⟩
  · rintro s0 ls h ⟨rfl, rfl⟩
    have e := hL.1
    have hin : (n ≤ n) = True := eq_true (by omega)
    simp (disch := first | assumption | omega) only [KL, KB, KC, KI, KJ, KZ, bI_0, bI_n, nI00, nI10, ne_eq, Classical.not_not, not_true_eq_false, not_false_eq_true, if_true, if_false, ite_not, ite_self, Bool.false_eq_true, nIne1, kMask, mask, O_mo, e, nIle, hin]
    rw [setN_self hs]
  · rintro s0 i hi ih ls h ⟨rfl, rfl⟩
    have e := hL.1
    have ei := hL.2 i hi
    have hin : (n ≤ i) = False := eq_false (by omega)
    cases hm : s.testBit i with
    | true =>
      have hS : setN (fun r => s.testBit r) (i + 1) = setN (fun r => s.testBit r) i ||| 1 <<< i := by show _ ||| _ = _; rw [if_pos hm]
      rw [hm, bW_t] at ei
      simp (disch := first | assumption | omega) only [f_X11_carts, kb_X11_carts_29, kb_X11_carts_0, KL, KB, KC, KI, KJ, KZ, bI_0, bI_n, nI00, nI10, ne_eq, Classical.not_not, not_true_eq_false, not_false_eq_true, if_true, if_false, ite_not, ite_self, Bool.false_eq_true, nIne1, kMask, mask, O_mo, AR, e, ei, nIle, hin, nI_shl, nI_or, nI_add]
      exact ih _ _ ⟨by rw [hS], rfl⟩
    | false =>
      have hS : setN (fun r => s.testBit r) (i + 1) = setN (fun r => s.testBit r) i := by show _ ||| _ = _; rw [if_neg (by show ¬ s.testBit i = true; rw [hm]; decide), Nat.or_zero]
      rw [hm, bW_f] at ei
      simp (disch := first | assumption | omega) only [f_X11_carts, kb_X11_carts_29, kb_X11_carts_0, KL, KB, KC, KI, KJ, KZ, bI_0, bI_n, nI00, nI10, ne_eq, Classical.not_not, not_true_eq_false, not_false_eq_true, if_true, if_false, ite_not, ite_self, Bool.false_eq_true, nIne1, kMask, mask, O_mo, AR, e, ei, nIle, hin, nI_or, Nat.or_zero, nI_add]
      exact ih _ _ ⟨by rw [hS], rfl⟩
/-- the class's carts: on the roads in s, where each wants to -/
def CL (X n s : Nat) (tt : Nat → Nat) (g : GG) : Prop := g X 0 = nI n ∧ ∀ r, r < n → (s.testBit r = true → g (X + 2) r = nI (tt r) ∧ tt r < 6) ∧ (s.testBit r = false → g (X + 2) r = -1)
theorem x_hasCartS {X n s : Nat} {tt : Nat → Nat} {g : GG} {m o : Nat} (hX : isX X) (h : CL X n s tt g) (n1 : 1 ≤ n) (n6 : n ≤ 6) (r : Nat) (hr : r < n) : f_X1_hasCart [.ref X, .int (nI r)] (hp g m o) = some (some (.int (bW (s.testBit r))), hp g m o) := by
  have hy : (nI 0 ≤ nI r ∧ nI r ≤ nI (n - 1)) = True := eq_true (in_yes (by omega) (by omega))
  have hh := x_hasRoad g m o X n (nI r) hX h.1 n1 (by omega)
  cases t : s.testBit r with
  | true =>
    obtain ⟨e1, e2⟩ := (h.2 r hr).1 t
    have hz : (nI (tt r) = -1) = False := nIne1 (by omega)
    simp (disch := first | assumption | omega) only [f_X1_hasCart, kb_X1_hasCart_25, kb_X1_hasCart_24, kb_X1_hasCart_0, KL, KB, KC, KI, KJ, KZ, bI_0, bI_n, nI00, nI10, ne_eq, Classical.not_not, not_true_eq_false, not_false_eq_true, if_true, if_false, ite_not, ite_self, Bool.false_eq_true, nIne1, XO, hh, hy, nI_add, Nat.zero_add, e1, hz, bW_t]
  | false =>
    have e1 := (h.2 r hr).2 t
    simp (disch := first | assumption | omega) only [f_X1_hasCart, kb_X1_hasCart_25, kb_X1_hasCart_24, kb_X1_hasCart_0, KL, KB, KC, KI, KJ, KZ, bI_0, bI_n, nI00, nI10, ne_eq, Classical.not_not, not_true_eq_false, not_false_eq_true, if_true, if_false, ite_not, ite_self, Bool.false_eq_true, nIne1, XO, hh, hy, nI_add, Nat.zero_add, e1, bW_f]
theorem x_cartSet {X n s : Nat} {tt : Nat → Nat} {g : GG} {m o : Nat} (hX : isX X) (h : CL X n s tt g) (n1 : 1 ≤ n) (n6 : n ≤ 6) (hs : s < 2 ^ n) : f_X1_cartSet [.ref X] (hp g m o) = some (some (.int (nI s)), hp g m o) := by
  simp (disch := first | assumption | omega) only [f_X1_cartSet, kb_X1_cartSet_26, kb_X1_cartSet_0, KL, KB, KC, KI, KJ, KZ, bI_0, bI_n, nI00, nI10, ne_eq, Classical.not_not, not_true_eq_false, not_false_eq_true, if_true, if_false, ite_not, ite_self, Bool.false_eq_true, nIne1]
  unfold kl_X1_cartSet_4
  refine kFor n (by unfold FU; omega) (fun i ls h => ls = [.ref X, .int (nI (setN (fun r => s.testBit r) i)), .int (nI i)] ∧ h = hp g m o) (fun r => r = some (some (.int (nI s)), hp g m o)) ?_ ?_ 0 _ _ (by omega) ⟨rfl, rfl⟩
  · rintro s0 ls h' ⟨rfl, rfl⟩
    have e := h.1
    have hin : (n ≤ n) = True := eq_true (by omega)
    simp (disch := first | assumption | omega) only [KL, KB, KC, KI, KJ, KZ, bI_0, bI_n, nI00, nI10, ne_eq, Classical.not_not, not_true_eq_false, not_false_eq_true, if_true, if_false, ite_not, ite_self, Bool.false_eq_true, nIne1, kMask, mask, XO, e, nIle, hin]
    rw [setN_self hs]
  · rintro s0 i hi ih ls h' ⟨rfl, rfl⟩
    have e := h.1
    have ei := x_hasCartS (m := m) (o := o) hX h n1 n6 i hi
    have hin : (n ≤ i) = False := eq_false (by omega)
    cases hm : s.testBit i with
    | true =>
      have hS : setN (fun r => s.testBit r) (i + 1) = setN (fun r => s.testBit r) i ||| 1 <<< i := by show _ ||| _ = _; rw [if_pos hm]
      rw [hm, bW_t] at ei
      simp (disch := first | assumption | omega) only [f_X1_cartSet, kb_X1_cartSet_26, kb_X1_cartSet_0, KL, KB, KC, KI, KJ, KZ, bI_0, bI_n, nI00, nI10, ne_eq, Classical.not_not, not_true_eq_false, not_false_eq_true, if_true, if_false, ite_not, ite_self, Bool.false_eq_true, nIne1, kMask, mask, XO, e, ei, nIle, hin, nI_shl, nI_or, nI_add]
      exact ih _ _ ⟨by rw [hS], rfl⟩
    | false =>
      have hS : setN (fun r => s.testBit r) (i + 1) = setN (fun r => s.testBit r) i := by show _ ||| _ = _; rw [if_neg (by show ¬ s.testBit i = true; rw [hm]; decide), Nat.or_zero]
      rw [hm, bW_f] at ei
      simp (disch := first | assumption | omega) only [f_X1_cartSet, kb_X1_cartSet_26, kb_X1_cartSet_0, KL, KB, KC, KI, KJ, KZ, bI_0, bI_n, nI00, nI10, ne_eq, Classical.not_not, not_true_eq_false, not_false_eq_true, if_true, if_false, ite_not, ite_self, Bool.false_eq_true, nIne1, kMask, mask, XO, e, ei, nIle, hin, nI_add]
      exact ih _ _ ⟨by rw [hS], rfl⟩
