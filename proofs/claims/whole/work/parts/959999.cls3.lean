-- ===== the class's reader follows the automaton: a step =====
theorem c_operand {g : GG} {m o k v : Nat} {s : CS} (h : CRB g s) (hs : SOK s) (hk : k ≤ 34) (h12 : g 158 12 = nI k) (h14 : k = 32 → g 158 14 = nI v) : STP f_X5_operand g m o (opnd s k v) := by
  obtain ⟨hok, h60, hsz, -⟩ := hs
  unfold szS at hsz
  have dl : (allS s.rl ++ s.cur).length < 400 := by rw [List.length_append]; omega
  unfold opnd
  by_cases k32 : k = 32
  · rw [if_pos k32]
    have k32' : (k = 32) = True := eq_true k32
    have h14' := h14 k32
    have ea := c_add (m := m) (o := o) h.2.2.2.2.2.1 dl (nI (100 + v))
    have ha := (h.add (0, v)).mode' 5
    rw [opC_num (0, v) rfl] at ha
    refine ⟨_, ?_, ha, ((SFR.rfl'.put (by omega)).put (by omega)).put (by omega)⟩
    simp (disch := first | assumption | omega) only [f_X5_operand, kb_X5_operand_51, kb_X5_operand_0, KL, KB, KC, KI, KJ, KZ, bI_0, bI_n, nI00, nI10, ne_eq, Classical.not_not, not_true_eq_false, not_false_eq_true, if_true, if_false, ite_not, ite_self, Bool.false_eq_true, nIne1, O_rd, O_dr, h12, nIeq, k32', h14', nI_add, ea]
  · rw [if_neg k32]
    have k32' : (k = 32) = False := eq_false k32
    by_cases k16 : 16 ≤ k
    · rw [if_pos k16]
      have k16' : (16 ≤ k) = True := eq_true k16
      refine ⟨g, ?_, h, SFR.rfl'⟩
      simp (disch := first | assumption | omega) only [f_X5_operand, kb_X5_operand_51, kb_X5_operand_0, KL, KB, KC, KI, KJ, KZ, bI_0, bI_n, nI00, nI10, ne_eq, Classical.not_not, not_true_eq_false, not_false_eq_true, if_true, if_false, ite_not, ite_self, Bool.false_eq_true, nIne1, O_rd, O_dr, h12, nIeq, nIle, k32', k16']
    · rw [if_neg k16]
      have k16' : (16 ≤ k) = False := eq_false k16
      have ea := c_add (m := m) (o := o) h.2.2.2.2.2.1 dl (nI k)
      have ha := (h.add (k + 1, 0)).mode' 5
      rw [opC_word (k + 1, 0) (by show k + 1 ≠ 0; omega) (by show k + 1 ≤ 16; omega)] at ha
      refine ⟨_, ?_, ha, ((SFR.rfl'.put (by omega)).put (by omega)).put (by omega)⟩
      simp (disch := first | assumption | omega) only [f_X5_operand, kb_X5_operand_51, kb_X5_operand_0, KL, KB, KC, KI, KJ, KZ, bI_0, bI_n, nI00, nI10, ne_eq, Classical.not_not, not_true_eq_false, not_false_eq_true, if_true, if_false, ite_not, ite_self, Bool.false_eq_true, nIne1, O_rd, O_dr, h12, nIeq, nIle, k32', k16', ea]
      rfl
theorem c_beginLine {g : GG} {m o k : Nat} {s : CS} (h : CRB g s) (hs : SOK s) (hk : k ≤ 34) (h12 : g 158 12 = nI k) : STP f_X5_beginLine g m o (cst0 s k) := by
  have hr := hs.1.2.2
  have q0 : g 160 0 = nI s.rl.length := h.2.2.2.2.1
  unfold cst0
  by_cases c : k = 16 ∨ k = 17
  · rw [if_pos c]
    by_cases l : s.rl.length < 16
    · rw [if_pos l]
      have l' : (s.rl.length < 16) = True := eq_true l
      have ha := (h.lw' (decide (k = 16))).mode' 1
      refine ⟨_, ?_, ha, (SFR.rfl'.put (by omega)).put (by omega)⟩
      rcases c with c | c
      · have c' : (k = 16) = True := eq_true c
        rw [decide_eq_true c]
        simp (disch := first | assumption | omega) only [f_X5_beginLine, kb_X5_beginLine_49, kb_X5_beginLine_20, kb_X5_beginLine_0, KL, KB, KC, KI, KJ, KZ, bI_0, bI_n, nI00, nI10, ne_eq, Classical.not_not, not_true_eq_false, not_false_eq_true, if_true, if_false, ite_not, ite_self, Bool.false_eq_true, nIne1, O_rd, O_dr, h12, q0, nIeq, nIlt, c', l', bW_t]
      · have c' : (k = 16) = False := eq_false (by omega)
        have d' : (k = 17) = True := eq_true c
        rw [decide_eq_false (show ¬ k = 16 by omega)]
        simp (disch := first | assumption | omega) only [f_X5_beginLine, kb_X5_beginLine_49, kb_X5_beginLine_20, kb_X5_beginLine_0, KL, KB, KC, KI, KJ, KZ, bI_0, bI_n, nI00, nI10, ne_eq, Classical.not_not, not_true_eq_false, not_false_eq_true, if_true, if_false, ite_not, ite_self, Bool.false_eq_true, nIne1, O_rd, O_dr, h12, q0, nIeq, nIlt, c', d', l', bW_f]
    · rw [if_neg l]
      have l' : (s.rl.length < 16) = False := eq_false l
      refine ⟨g, ?_, h, SFR.rfl'⟩
      rcases c with c | c
      · have c' : (k = 16) = True := eq_true c
        simp (disch := first | assumption | omega) only [f_X5_beginLine, kb_X5_beginLine_49, kb_X5_beginLine_20, kb_X5_beginLine_0, KL, KB, KC, KI, KJ, KZ, bI_0, bI_n, nI00, nI10, ne_eq, Classical.not_not, not_true_eq_false, not_false_eq_true, if_true, if_false, ite_not, ite_self, Bool.false_eq_true, nIne1, O_rd, O_dr, h12, q0, nIeq, nIlt, c', l']
      · have c' : (k = 16) = False := eq_false (by omega)
        have d' : (k = 17) = True := eq_true c
        simp (disch := first | assumption | omega) only [f_X5_beginLine, kb_X5_beginLine_49, kb_X5_beginLine_20, kb_X5_beginLine_0, KL, KB, KC, KI, KJ, KZ, bI_0, bI_n, nI00, nI10, ne_eq, Classical.not_not, not_true_eq_false, not_false_eq_true, if_true, if_false, ite_not, ite_self, Bool.false_eq_true, nIne1, O_rd, O_dr, h12, q0, nIeq, nIlt, c', d', l']
  · rw [if_neg c]
    have c' : (k = 16) = False := eq_false (by omega)
    have d' : (k = 17) = False := eq_false (by omega)
    refine ⟨g, ?_, h, SFR.rfl'⟩
    simp (disch := first | assumption | omega) only [f_X5_beginLine, kb_X5_beginLine_49, kb_X5_beginLine_20, kb_X5_beginLine_0, KL, KB, KC, KI, KJ, KZ, bI_0, bI_n, nI00, nI10, ne_eq, Classical.not_not, not_true_eq_false, not_false_eq_true, if_true, if_false, ite_not, ite_self, Bool.false_eq_true, nIne1, O_rd, O_dr, h12, nIeq, c', d']
theorem c_beginCondition {g : GG} {m o k v : Nat} {s : CS} (h : CRB g s) (hs : SOK s) (hk : k ≤ 34) (h12 : g 158 12 = nI k) (h14 : k = 32 → g 158 14 = nI v) : STP f_X5_beginCondition g m o (cst2 s k v) := by
  have h60 := hs.2.1
  have q7 := h.2.2.2.1.2.2
  have q6 := h.2.2.2.1.1
  have ob : ∀ l : List Nat, opn l ≤ l.length := fun l => by
    induction l with
    | nil => exact Nat.le_refl _
    | cons x l ih => show (if x = 21 ∨ x = 27 then 1 else 0) + opn l ≤ (x :: l).length; rw [List.length_cons]; split <;> omega
  have ob' := ob s.pe
  unfold cst2
  by_cases c : k = 21 ∨ k = 27
  · rw [if_pos c]
    by_cases l : opn s.pe < 8
    · rw [if_pos l]
      have l' : (opn s.pe < 8) = True := eq_true l
      have e6 : upd2 g 158 7 (nI (opn s.pe + 1)) 158 6 = nI s.pe.length := by rw [uO (by omega)]; exact q6
      have e12 : upd2 g 158 7 (nI (opn s.pe + 1)) 158 12 = nI k := by rw [uO (by omega)]; exact h12
      have eh := c_hold (m := m) (o := o) (k := k) e6 (by omega)
      refine ⟨_, ?_, h.opn' c, ((SFR.rfl'.put (by omega)).put (by omega)).put (by omega)⟩
      rcases c with c | c
      · have c' : (k = 21) = True := eq_true c
        simp (disch := first | assumption | omega) only [f_X5_beginCondition, kb_X5_beginCondition_28, kb_X5_beginCondition_0, KL, KB, KC, KI, KJ, KZ, bI_0, bI_n, nI00, nI10, ne_eq, Classical.not_not, not_true_eq_false, not_false_eq_true, if_true, if_false, ite_not, ite_self, Bool.false_eq_true, nIne1, O_rd, h12, q7, e12, nIeq, nIlt, c', l', nI_add, eh]
      · have c' : (k = 21) = False := eq_false (by omega)
        have d' : (k = 27) = True := eq_true c
        simp (disch := first | assumption | omega) only [f_X5_beginCondition, kb_X5_beginCondition_28, kb_X5_beginCondition_0, KL, KB, KC, KI, KJ, KZ, bI_0, bI_n, nI00, nI10, ne_eq, Classical.not_not, not_true_eq_false, not_false_eq_true, if_true, if_false, ite_not, ite_self, Bool.false_eq_true, nIne1, O_rd, h12, q7, e12, nIeq, nIlt, c', d', l', nI_add, eh]
    · rw [if_neg l]
      have l' : (opn s.pe < 8) = False := eq_false l
      refine ⟨g, ?_, h, SFR.rfl'⟩
      rcases c with c | c
      · have c' : (k = 21) = True := eq_true c
        simp (disch := first | assumption | omega) only [f_X5_beginCondition, kb_X5_beginCondition_28, kb_X5_beginCondition_0, KL, KB, KC, KI, KJ, KZ, bI_0, bI_n, nI00, nI10, ne_eq, Classical.not_not, not_true_eq_false, not_false_eq_true, if_true, if_false, ite_not, ite_self, Bool.false_eq_true, nIne1, O_rd, h12, q7, nIeq, nIlt, c', l']
      · have c' : (k = 21) = False := eq_false (by omega)
        have d' : (k = 27) = True := eq_true c
        simp (disch := first | assumption | omega) only [f_X5_beginCondition, kb_X5_beginCondition_28, kb_X5_beginCondition_0, KL, KB, KC, KI, KJ, KZ, bI_0, bI_n, nI00, nI10, ne_eq, Classical.not_not, not_true_eq_false, not_false_eq_true, if_true, if_false, ite_not, ite_self, Bool.false_eq_true, nIne1, O_rd, h12, q7, nIeq, nIlt, c', d', l']
  · rw [if_neg c]
    have c' : (k = 21) = False := eq_false (by omega)
    have d' : (k = 27) = False := eq_false (by omega)
    have h' := h.cp' false
    obtain ⟨g1, e1, p1, f1⟩ := c_operand (m := m) (o := o) (k := k) (v := v) h' hs hk (by rw [uO (by omega)]; exact h12) (fun e => by rw [uO (by omega)]; exact h14 e)
    rw [bW_f] at e1
    refine ⟨g1, ?_, p1, ?_⟩
    · simp (disch := first | assumption | omega) only [f_X5_beginCondition, kb_X5_beginCondition_28, kb_X5_beginCondition_0, KL, KB, KC, KI, KJ, KZ, bI_0, bI_n, nI00, nI10, ne_eq, Classical.not_not, not_true_eq_false, not_false_eq_true, if_true, if_false, ite_not, ite_self, Bool.false_eq_true, nIne1, O_rd, h12, nIeq, c', d', e1]
    · exact ⟨fun a ha => by rw [f1.1 a ha, uN (by omega)], fun i hi => by rw [f1.2 i hi, uO (by omega)]⟩
theorem c_divisor {g : GG} {m o k v : Nat} {s : CS} (h : CRB g s) (hs : SOK s) (hk : k ≤ 34) (h12 : g 158 12 = nI k) (h14 : k = 32 → g 158 14 = nI v) (hv : k = 32 → v < 100000) : STP f_X5_divisor g m o (cst4 s k v) := by
  obtain ⟨hok, h60, hsz, -⟩ := hs
  unfold szS at hsz
  have dl : (allS s.rl ++ s.cur).length < 400 := by rw [List.length_append]; omega
  unfold cst4
  by_cases k32 : k = 32
  · rw [if_pos k32]
    have k32' : (k = 32) = True := eq_true k32
    have h14' := h14 k32
    have hv' := hv k32
    by_cases v0 : v = 0
    · rw [if_pos v0]
      have v0' : (v = 0) = True := eq_true v0
      refine ⟨g, ?_, h, SFR.rfl'⟩
      simp (disch := first | assumption | omega) only [f_X5_divisor, kb_X5_divisor_0, KL, KB, KC, KI, KJ, KZ, bI_0, bI_n, nI00, nI10, ne_eq, Classical.not_not, not_true_eq_false, not_false_eq_true, if_true, if_false, ite_not, ite_self, Bool.false_eq_true, nIne1, O_rd, O_dr, h12, nIeq, k32', h14', nIk0, v0']
    · rw [if_neg v0]
      have v0' : (v = 0) = False := eq_false v0
      have ea := c_add (m := m) (o := o) h.2.2.2.2.2.1 dl (- nI v)
      have ha := (h.add (20, v)).mode' 5
      rw [opC_part (20, v) rfl] at ha
      refine ⟨_, ?_, ha, ((SFR.rfl'.put (by omega)).put (by omega)).put (by omega)⟩
      simp (disch := first | assumption | omega) only [f_X5_divisor, kb_X5_divisor_0, KL, KB, KC, KI, KJ, KZ, bI_0, bI_n, nI00, nI10, ne_eq, Classical.not_not, not_true_eq_false, not_false_eq_true, if_true, if_false, ite_not, ite_self, Bool.false_eq_true, nIne1, O_rd, O_dr, h12, nIeq, k32', h14', nIk0, v0', ea]
  · rw [if_neg k32]
    have k32' : (k = 32) = False := eq_false k32
    refine ⟨g, ?_, h, SFR.rfl'⟩
    simp (disch := first | assumption | omega) only [f_X5_divisor, kb_X5_divisor_0, KL, KB, KC, KI, KJ, KZ, bI_0, bI_n, nI00, nI10, ne_eq, Classical.not_not, not_true_eq_false, not_false_eq_true, if_true, if_false, ite_not, ite_self, Bool.false_eq_true, nIne1, O_rd, O_dr, h12, nIeq, k32']
theorem c_operator {g : GG} {m o k : Nat} {s : CS} (h : CRB g s) (hs : SOK s) (hk : (23 ≤ k ∧ k ≤ 26) ∨ (29 ≤ k ∧ k ≤ 31)) (h12 : g 158 12 = nI k) : STP f_X5_operator g m o (cstO s k) := by
  obtain ⟨hok, h60, hsz, -⟩ := hs
  unfold szS at hsz
  have q10 := h.1
  have q8 := h.2.1
  have m6 := hok.2.1
  have zt : (bW true = 0) = False := eq_false (by decide)
  have zf : (bW false = 0) = True := eq_true rfl
  unfold cstO
  -- behind the gate
  have go : ∀ b : Bool, b = decide (29 ≤ k) → ¬ (s.mode ≠ 5 ∨ (29 ≤ k ∧ s.cp = true)) → ∃ g', kb_X5_operator_36 [.ref 158, .int (bW b)] [] (hp g m o) = some (some (.int (nI (if k = 26 then (0, (mkS ((s.rel (bnd k)).pos) (4) ((s.rel (bnd k)).pe) ((s.rel (bnd k)).cp) ((s.rel (bnd k)).lw) ((s.rel (bnd k)).cur) ((s.rel (bnd k)).rl))) else (0, (mkS ((s.rel (bnd k)).pos) (3) (k :: (s.rel (bnd k)).pe) (s.cp || decide (29 ≤ k)) ((s.rel (bnd k)).lw) ((s.rel (bnd k)).cur) ((s.rel (bnd k)).rl))) : Nat × CS).1)), hp g' m o) ∧ CRB g' (if k = 26 then (0, (mkS ((s.rel (bnd k)).pos) (4) ((s.rel (bnd k)).pe) ((s.rel (bnd k)).cp) ((s.rel (bnd k)).lw) ((s.rel (bnd k)).cur) ((s.rel (bnd k)).rl))) else (0, (mkS ((s.rel (bnd k)).pos) (3) (k :: (s.rel (bnd k)).pe) (s.cp || decide (29 ≤ k)) ((s.rel (bnd k)).lw) ((s.rel (bnd k)).cur) ((s.rel (bnd k)).rl))) : Nat × CS).2 ∧ SFR g g' := by
    intro b hb hgate
    have eb := fun h => c_bindK (k := k) (by unfold okP; omega) h
    have hb1 : 1 ≤ bnd k := by unfold bnd; (repeat' split) <;> omega
    obtain ⟨g1, e1, p1, d1, r1⟩ := c_release (m := m) (o := o) (mm := bnd k) hb1 (bnd_le k) hok.1 (by omega) (by omega) h.2.2.2.1 h.2.2.2.2
    have h1 : CRB g1 (s.rel (bnd k)) := h.rel' r1 p1 d1
    have f1 : SFR g g1 := SFR.rfl'.rel r1
    have t12 : g1 158 12 = nI k := by rw [r1.2 12 (by omega) (by omega)]; exact h12
    obtain ⟨i1, i2, i3⟩ := rlA_inv (bnd k) s.pe s.cur
    by_cases c : k = 26
    · have c' : (k = 26) = True := eq_true c
      rw [if_pos c]
      refine ⟨_, ?_, h1.mode' 4, f1.put (by omega)⟩
      simp (disch := first | assumption | omega) only [kb_X5_operator_36, KL, KB, KC, KI, KJ, KZ, bI_0, bI_n, nI00, nI10, ne_eq, Classical.not_not, not_true_eq_false, not_false_eq_true, if_true, if_false, ite_not, ite_self, Bool.false_eq_true, nIne1, O_rd, h12, eb, e1, t12, nIeq, c']
    · have c' : (k = 26) = False := eq_false c
      rw [if_neg c]
      have eh := c_hold (m := m) (o := o) (k := k) p1.1 (by omega)
      have h2 := (h1.hold (k := k) (by omega))
      have t8 : upd2 (upd2 g1 163 (rlA (bnd k) s.pe s.cur).1.length (nI k)) 158 6 (nI ((rlA (bnd k) s.pe s.cur).1.length + 1)) 158 8 = bW s.cp := h2.2.1
      have h3 := (h2.cp' (s.cp || decide (29 ≤ k))).mode' 3
      refine ⟨_, ?_, h3, (((f1.put (by omega)).put (by omega)).put (by omega)).put (by omega)⟩
      rw [← hb]
      cases hcp : s.cp with
      | true =>
        rw [hcp] at t8
        simp (disch := first | assumption | omega) only [kb_X5_operator_36, kb_X5_operator_88, kb_X5_operator_83, KL, KB, KC, KI, KJ, KZ, bI_0, bI_n, nI00, nI10, ne_eq, Classical.not_not, not_true_eq_false, not_false_eq_true, if_true, if_false, ite_not, ite_self, Bool.false_eq_true, nIne1, O_rd, h12, eb, e1, t12, nIeq, c', eh, t8, zt, Bool.true_or, bW_t]
        rfl
      | false =>
        rw [hcp] at t8
        cases b with
        | true =>
          simp (disch := first | assumption | omega) only [kb_X5_operator_36, kb_X5_operator_88, kb_X5_operator_83, KL, KB, KC, KI, KJ, KZ, bI_0, bI_n, nI00, nI10, ne_eq, Classical.not_not, not_true_eq_false, not_false_eq_true, if_true, if_false, ite_not, ite_self, Bool.false_eq_true, nIne1, O_rd, h12, eb, e1, t12, nIeq, c', eh, t8, zf, zt, Bool.or_true, bW_t]
          rfl
        | false =>
          simp (disch := first | assumption | omega) only [kb_X5_operator_36, kb_X5_operator_88, kb_X5_operator_83, KL, KB, KC, KI, KJ, KZ, bI_0, bI_n, nI00, nI10, ne_eq, Classical.not_not, not_true_eq_false, not_false_eq_true, if_true, if_false, ite_not, ite_self, Bool.false_eq_true, nIne1, O_rd, h12, eb, e1, t12, nIeq, c', eh, t8, zf, Bool.or_false, bW_f]
          rfl
  by_cases m5 : s.mode = 5
  · have m5' : (s.mode = 5) = True := eq_true m5
    by_cases k29 : 29 ≤ k
    · have k29' : (k < 29) = False := eq_false (by omega)
      cases hcp : s.cp with
      | true =>
        rw [hcp] at q8
        rw [if_pos (Or.inr ⟨k29, rfl⟩)]
        refine ⟨g, ?_, h, SFR.rfl'⟩
        simp (disch := first | assumption | omega) only [f_X5_operator, kb_X5_operator_0, kb_X5_operator_14, kb_X5_operator_34, KL, KB, KC, KI, KJ, KZ, bI_0, bI_n, nI00, nI10, ne_eq, Classical.not_not, not_true_eq_false, not_false_eq_true, if_true, if_false, ite_not, ite_self, Bool.false_eq_true, nIne1, O_rd, h12, q10, q8, nIeq, nIlt, m5', k29', zt]
      | false =>
        rw [hcp] at q8
        have hg : ¬ (s.mode ≠ 5 ∨ (29 ≤ k ∧ s.cp = true)) := by rw [hcp]; intro q; rcases q with q | q; exact q m5; cases q.2
        have hg2 : ¬ (s.mode ≠ 5 ∨ (29 ≤ k ∧ false = true)) := by intro q; rcases q with q | q; exact q m5; cases q.2
        obtain ⟨g1, e1, w⟩ := go true (decide_eq_true k29).symm hg
        rw [if_neg hg2]
        rw [hcp] at e1 w
        rw [bW_t] at e1
        refine ⟨g1, ?_, w⟩
        simp (disch := first | assumption | omega) only [f_X5_operator, kb_X5_operator_0, kb_X5_operator_14, KL, KB, KC, KI, KJ, KZ, bI_0, bI_n, nI00, nI10, ne_eq, Classical.not_not, not_true_eq_false, not_false_eq_true, if_true, if_false, ite_not, ite_self, Bool.false_eq_true, nIne1, O_rd, h12, q10, q8, nIeq, nIlt, m5', k29', zf]
        exact e1
    · have k29' : (k < 29) = True := eq_true (by omega)
      have hg : ¬ (s.mode ≠ 5 ∨ (29 ≤ k ∧ s.cp = true)) := by intro q; rcases q with q | q; exact q m5; exact k29 q.1
      obtain ⟨g1, e1, w⟩ := go false (decide_eq_false k29).symm hg
      rw [if_neg hg]
      rw [bW_f] at e1
      refine ⟨g1, ?_, w⟩
      simp (disch := first | assumption | omega) only [f_X5_operator, kb_X5_operator_0, kb_X5_operator_14, KL, KB, KC, KI, KJ, KZ, bI_0, bI_n, nI00, nI10, ne_eq, Classical.not_not, not_true_eq_false, not_false_eq_true, if_true, if_false, ite_not, ite_self, Bool.false_eq_true, nIne1, O_rd, h12, q10, nIeq, nIlt, m5', k29']
      exact e1
  · have m5' : (s.mode = 5) = False := eq_false m5
    rw [if_pos (Or.inl m5)]
    refine ⟨g, ?_, h, SFR.rfl'⟩
    by_cases k29 : 29 ≤ k
    · have k29' : (k < 29) = False := eq_false (by omega)
      simp (disch := first | assumption | omega) only [f_X5_operator, kb_X5_operator_0, kb_X5_operator_14, kb_X5_operator_34, KL, KB, KC, KI, KJ, KZ, bI_0, bI_n, nI00, nI10, ne_eq, Classical.not_not, not_true_eq_false, not_false_eq_true, if_true, if_false, ite_not, ite_self, Bool.false_eq_true, nIne1, O_rd, h12, q10, nIeq, nIlt, m5', k29']
    · have k29' : (k < 29) = True := eq_true (by omega)
      simp (disch := first | assumption | omega) only [f_X5_operator, kb_X5_operator_0, kb_X5_operator_14, kb_X5_operator_34, KL, KB, KC, KI, KJ, KZ, bI_0, bI_n, nI00, nI10, ne_eq, Classical.not_not, not_true_eq_false, not_false_eq_true, if_true, if_false, ite_not, ite_self, Bool.false_eq_true, nIne1, O_rd, h12, q10, nIeq, nIlt, m5', k29']
