-- ===== the class's reader follows the automaton: any step =====
theorem SJ19 (k0 k1 k2 k3 k4 k5 k6 k7 k8 k9 kd : KK) (ls st : List Value) (h : HP) : kSw 19 [k0, k1, k2, k3, k4, k5, k6, k7, k8, k9] kd ls (.int (nI 19) :: st) h = k0 ls st h := Eq.trans rfl rfl
theorem SJ20 (k0 k1 k2 k3 k4 k5 k6 k7 k8 k9 kd : KK) (ls st : List Value) (h : HP) : kSw 19 [k0, k1, k2, k3, k4, k5, k6, k7, k8, k9] kd ls (.int (nI 20) :: st) h = k1 ls st h := Eq.trans rfl rfl
theorem SJ22 (k0 k1 k2 k3 k4 k5 k6 k7 k8 k9 kd : KK) (ls st : List Value) (h : HP) : kSw 19 [k0, k1, k2, k3, k4, k5, k6, k7, k8, k9] kd ls (.int (nI 22) :: st) h = k3 ls st h := Eq.trans rfl rfl
theorem SJ28 (k0 k1 k2 k3 k4 k5 k6 k7 k8 k9 kd : KK) (ls st : List Value) (h : HP) : kSw 19 [k0, k1, k2, k3, k4, k5, k6, k7, k8, k9] kd ls (.int (nI 28) :: st) h = k9 ls st h := Eq.trans rfl rfl
theorem SJN {k : Nat} (hk : k ≤ 34) (h19 : k ≠ 19) (h20 : k ≠ 20) (h22 : k ≠ 22) (h28 : k ≠ 28) (k0 k1 k3 k9 c : KK) (ls st : List Value) (h : HP) : kSw 19 [k0, k1, c, k3, c, c, c, c, c, k9] c ls (.int (nI k) :: st) h = c ls st h := by
  have : k = 0 ∨ k = 1 ∨ k = 2 ∨ k = 3 ∨ k = 4 ∨ k = 5 ∨ k = 6 ∨ k = 7 ∨ k = 8 ∨ k = 9 ∨ k = 10 ∨ k = 11 ∨ k = 12 ∨ k = 13 ∨ k = 14 ∨ k = 15 ∨ k = 16 ∨ k = 17 ∨ k = 18 ∨ k = 21 ∨ k = 23 ∨ k = 24 ∨ k = 25 ∨ k = 26 ∨ k = 27 ∨ k = 29 ∨ k = 30 ∨ k = 31 ∨ k = 32 ∨ k = 33 ∨ k = 34 := by omega
  rcases this with rfl | rfl | rfl | rfl | rfl | rfl | rfl | rfl | rfl | rfl | rfl | rfl | rfl | rfl | rfl | rfl | rfl | rfl | rfl | rfl | rfl | rfl | rfl | rfl | rfl | rfl | rfl | rfl | rfl | rfl | rfl
  all_goals exact Eq.trans rfl rfl
theorem c_joiner {g : GG} {m o k : Nat} {s : CS} (h : CRB g s) (hs : SOK s) (hk : k ≤ 34) (hm : s.mode ≠ 0) (h12 : g 158 12 = nI k) : STP f_X5_joiner g m o (cstJ s k) := by
  have hl := hs.2.2.2 hm
  have hs0 := hs
  obtain ⟨hok, h60, hsz, -⟩ := hs
  unfold szS at hsz
  have q10 := h.1
  have q8 := h.2.1
  have m6 := hok.2.1
  have zt : (bW true = 0) = False := eq_false (by decide)
  have zf : (bW false = 0) = True := eq_true rfl
  -- and, or
  have jn : k = 19 ∨ k = 20 → ∃ g', kb_X5_joiner_17 [.ref 158] [] (hp g m o) = some (some (.int (nI 0)), hp g' m o) ∧ CRB g' (mkS ((s.rel (bnd k)).pos) (2) (k :: (s.rel (bnd k)).pe) ((s.rel (bnd k)).cp) ((s.rel (bnd k)).lw) ((s.rel (bnd k)).cur) ((s.rel (bnd k)).rl)) ∧ SFR g g' := by
    intro hk2
    have eb := fun h => c_bindK (k := k) (by unfold okP; omega) h
    have hb1 : 1 ≤ bnd k := by unfold bnd; (repeat' split) <;> omega
    obtain ⟨g1, e1, p1, d1, r1⟩ := c_release (m := m) (o := o) (mm := bnd k) hb1 (bnd_le k) hok.1 (by omega) (by omega) h.2.2.2.1 h.2.2.2.2
    have h1 : CRB g1 (s.rel (bnd k)) := h.rel' r1 p1 d1
    have f1 : SFR g g1 := SFR.rfl'.rel r1
    have t12 : g1 158 12 = nI k := by rw [r1.2 12 (by omega) (by omega)]; exact h12
    obtain ⟨i1, i2, i3⟩ := rlA_inv (bnd k) s.pe s.cur
    have eh := c_hold (m := m) (o := o) (k := k) p1.1 (by omega)
    have h2 := (h1.hold (k := k) (by omega)).mode' 2
    refine ⟨_, ?_, h2, ((f1.put (by omega)).put (by omega)).put (by omega)⟩
    rcases hk2 with rfl | rfl
    · simp (disch := first | assumption | omega) only [kb_X5_joiner_17, KL, KB, KC, KI, KJ, KZ, bI_0, bI_n, nI00, nI10, ne_eq, Classical.not_not, not_true_eq_false, not_false_eq_true, if_true, if_false, ite_not, ite_self, Bool.false_eq_true, nIne1, O_rd, h12, SJ19, eb, e1, t12, eh]
      rfl
    · simp (disch := first | assumption | omega) only [kb_X5_joiner_17, KL, KB, KC, KI, KJ, KZ, bI_0, bI_n, nI00, nI10, ne_eq, Classical.not_not, not_true_eq_false, not_false_eq_true, if_true, if_false, ite_not, ite_self, Bool.false_eq_true, nIne1, O_rd, h12, SJ20, eb, e1, t12, eh]
      rfl
  have cl : k = 28 → ∃ g', kb_X5_joiner_17 [.ref 158] [] (hp g m o) = some (some (.int (nI (cstC s).1)), hp g' m o) ∧ CRB g' (cstC s).2 ∧ SFR g g' := by
    intro hk2
    obtain ⟨g1, e1, p1, d1, r1⟩ := c_release (m := m) (o := o) (mm := 1) (by omega) (by omega) hok.1 (by omega) (by omega) h.2.2.2.1 h.2.2.2.2
    have h1 : CRB g1 (s.rel 1) := h.rel' r1 p1 d1
    have f1 : SFR g g1 := SFR.rfl'.rel r1
    obtain ⟨i1, i2, i3⟩ := rlA_inv 1 s.pe s.cur
    have hpe : (s.rel 1).pe = (rlA 1 s.pe s.cur).1 := rfl
    have hall : ∀ x ∈ (s.rel 1).pe, okP x := fun x hx => hok.1 x (i3 x hx)
    have hhead : ∀ x l, (s.rel 1).pe = x :: l → bnd x < 1 := by
      have : ∀ (l : List Nat) (c : List (Nat × Nat)) x r, (rlA 1 l c).1 = x :: r → bnd x < 1 := by
        intro l
        induction l with
        | nil => intro c x r e; cases e
        | cons y l ih =>
          intro c x r e
          by_cases w : bnd y < 1
          · rw [show rlA 1 (y :: l) c = (y :: l, c) from if_pos w] at e; cases e; exact w
          · rw [show rlA 1 (y :: l) c = rlA 1 l (c ++ [(opM y, 0)]) from if_neg w] at e; exact ih _ _ _ e
      exact fun x l e => this _ _ _ _ e
    rw [hk2] at h12
    unfold cstC
    cases hq : (s.rel 1).pe with
    | nil =>
      have q6 : g1 158 6 = nI 0 := by have := p1.1; rw [← hpe, hq] at this; exact this
      have z0 : (nI 0 = 0) = True := eq_true rfl
      refine ⟨g1, ?_, h1, f1⟩
      simp (disch := first | assumption | omega) only [kb_X5_joiner_17, KL, KB, KC, KI, KJ, KZ, bI_0, bI_n, nI00, nI10, ne_eq, Classical.not_not, not_true_eq_false, not_false_eq_true, if_true, if_false, ite_not, ite_self, Bool.false_eq_true, nIne1, O_rd, h12, SJ28, e1, q6, z0]
    | cons x l =>
      have hx27 : x = 27 := by
        have a := hall x (by rw [hq]; exact List.mem_cons_self ..)
        have b := hhead x l hq
        unfold okP at a
        unfold bnd at b
        revert b
        (repeat' split) <;> omega
      have hle : l.length + 1 ≤ 60 := by rw [← hpe, hq, List.length_cons] at i2; omega
      have q6 : g1 158 6 = nI (l.length + 1) := by have := p1.1; rw [← hpe, hq, List.length_cons] at this; exact this
      have q7 : g1 158 7 = nI (opn l + 1) := by
        have := p1.2.2; rw [← hpe, hq, hx27] at this
        rw [this]; show nI (1 + opn l) = _; rw [Nat.add_comm]
      have q7' : upd2 g1 158 6 (nI l.length) 158 7 = nI (opn l + 1) := by rw [uO (by omega)]; exact q7
      have z0 : (nI (l.length + 1) = 0) = False := by rw [nIk0 (by omega)]; exact eq_false (by omega)
      have s6 : nI (l.length + 1) - nI 1 = nI l.length := by rw [nI_sub (by omega)]; rfl
      have s7 : nI (opn l + 1) - nI 1 = nI (opn l) := by rw [nI_sub (by omega)]; rfl
      have hpk : PK g1 (x :: l) := by have := p1.2.1; rw [← hpe, hq] at this; exact this
      refine ⟨upd2 (upd2 (upd2 g1 158 6 (nI l.length)) 158 7 (nI (opn l))) 158 10 (nI 6), ?_, ⟨uS, by rw [uO (by omega), uO (by omega), uO (by omega)]; exact h1.2.1, by rw [uO (by omega), uO (by omega), uO (by omega)]; exact h1.2.2.1, ⟨by rw [uO (by omega), uO (by omega)]; exact uS, hpk.tail.congr (by rw [uN (by omega), uN (by omega), uN (by omega)]), by rw [uO (by omega)]; exact uS⟩, d1.congr (fun a x y => by rw [uN (by omega), uN (by omega), uN (by omega)])⟩, ((f1.put (by omega)).put (by omega)).put (by omega)⟩
      simp (disch := first | assumption | omega) only [kb_X5_joiner_17, KL, KB, KC, KI, KJ, KZ, bI_0, bI_n, nI00, nI10, ne_eq, Classical.not_not, not_true_eq_false, not_false_eq_true, if_true, if_false, ite_not, ite_self, Bool.false_eq_true, nIne1, O_rd, h12, SJ28, e1, q6, q7', z0, s6, s7]
  have fl : k = 22 → ∃ g', kb_X5_joiner_17 [.ref 158] [] (hp g m o) = some (some (.int (nI (finL s).1)), hp g' m o) ∧ CRB g' (finL s).2 ∧ SFR g g' := by
    intro hk2
    rw [hk2] at h12
    obtain ⟨g1, e1, w⟩ := c_finishLine (m := m) (o := o) h hs0 hl
    refine ⟨g1, ?_, w⟩
    simp (disch := first | assumption | omega) only [kb_X5_joiner_17, KL, KB, KC, KI, KJ, KZ, bI_0, bI_n, nI00, nI10, ne_eq, Classical.not_not, not_true_eq_false, not_false_eq_true, if_true, if_false, ite_not, ite_self, Bool.false_eq_true, nIne1, O_rd, h12, SJ22, e1]
  have ot : k ≠ 19 → k ≠ 20 → k ≠ 22 → k ≠ 28 → kb_X5_joiner_17 [.ref 158] [] (hp g m o) = some (some (.int (nI 1)), hp g m o) := by
    intro a b c d
    simp (disch := first | assumption | omega) only [kb_X5_joiner_17, KL, KB, KC, KI, KJ, KZ, bI_0, bI_n, nI00, nI10, ne_eq, Classical.not_not, not_true_eq_false, not_false_eq_true, if_true, if_false, ite_not, ite_self, Bool.false_eq_true, nIne1, O_rd, h12, SJN hk a b c d]
  have all : ¬ (s.mode = 5 ∧ s.cp = false) → ∃ g', kb_X5_joiner_17 [.ref 158] [] (hp g m o) = some (some (.int (nI (cstJ s k).1)), hp g' m o) ∧ CRB g' (cstJ s k).2 ∧ SFR g g' := by
    intro hn
    unfold cstJ
    rw [if_neg hn]
    by_cases a : k = 19 ∨ k = 20
    · rw [if_pos a]; exact jn a
    · rw [if_neg a]
      by_cases b : k = 28
      · rw [if_pos b]; exact cl b
      · rw [if_neg b]
        by_cases c : k = 22
        · rw [if_pos c]; exact fl c
        · rw [if_neg c]
          exact ⟨g, ot (by omega) (by omega) c b, h, SFR.rfl'⟩
  by_cases m5 : s.mode = 5
  · have m5' : (s.mode = 5) = True := eq_true m5
    cases hcp : s.cp with
    | true =>
      rw [hcp] at q8
      obtain ⟨g1, e1, w⟩ := all (by rw [hcp]; intro q; cases q.2)
      refine ⟨g1, ?_, w⟩
      simp (disch := first | assumption | omega) only [f_X5_joiner, kb_X5_joiner_0, KL, KB, KC, KI, KJ, KZ, bI_0, bI_n, nI00, nI10, ne_eq, Classical.not_not, not_true_eq_false, not_false_eq_true, if_true, if_false, ite_not, ite_self, Bool.false_eq_true, nIne1, O_rd, q10, q8, nIeq, m5', zt]
      exact e1
    | false =>
      rw [hcp] at q8
      have e : cstJ s k = (1, s) := if_pos ⟨m5, hcp⟩
      rw [e]
      refine ⟨g, ?_, h, SFR.rfl'⟩
      simp (disch := first | assumption | omega) only [f_X5_joiner, kb_X5_joiner_0, KL, KB, KC, KI, KJ, KZ, bI_0, bI_n, nI00, nI10, ne_eq, Classical.not_not, not_true_eq_false, not_false_eq_true, if_true, if_false, ite_not, ite_self, Bool.false_eq_true, nIne1, O_rd, q10, q8, nIeq, m5', zf]
  · have m5' : (s.mode = 5) = False := eq_false m5
    obtain ⟨g1, e1, w⟩ := all (fun q => m5 q.1)
    refine ⟨g1, ?_, w⟩
    simp (disch := first | assumption | omega) only [f_X5_joiner, kb_X5_joiner_0, KL, KB, KC, KI, KJ, KZ, bI_0, bI_n, nI00, nI10, ne_eq, Classical.not_not, not_true_eq_false, not_false_eq_true, if_true, if_false, ite_not, ite_self, Bool.false_eq_true, nIne1, O_rd, q10, nIeq, m5']
    exact e1
theorem c_step {g : GG} {m o k v : Nat} {s : CS} (h : CRB g s) (hs : SOK s) (hk : k ≤ 34) (h12 : g 158 12 = nI k) (h14 : k = 32 → g 158 14 = nI v) (hv : k = 32 → v < 100000) : STP f_X5_step g m o (cst s k v) := by
  have q10 := h.1
  have m6 := hs.1.2.1
  unfold cst
  by_cases m0 : s.mode = 0
  · rw [if_pos m0]
    rw [m0] at q10
    obtain ⟨g1, e1, w⟩ := c_beginLine (m := m) (o := o) h hs hk h12
    refine ⟨g1, ?_, w⟩
    simp (disch := first | assumption | omega) only [f_X5_step, kb_X5_step_141, kb_X5_step_137, kb_X5_step_130, kb_X5_step_112, kb_X5_step_78, kb_X5_step_0, KL, KB, KC, KI, KJ, KZ, bI_0, bI_n, nI00, nI10, ne_eq, Classical.not_not, not_true_eq_false, not_false_eq_true, if_true, if_false, ite_not, ite_self, Bool.false_eq_true, nIne1, O_rd, q10, SV0, e1]
  rw [if_neg m0]
  by_cases m1 : s.mode = 1
  · rw [if_pos m1]
    rw [m1] at q10
    unfold cst1
    by_cases c : k = 18
    · rw [if_pos c]
      have c' : (k = 18) = True := eq_true c
      refine ⟨_, ?_, h.mode' 2, SFR.rfl'.put (by omega)⟩
      simp (disch := first | assumption | omega) only [f_X5_step, kb_X5_step_141, kb_X5_step_137, kb_X5_step_130, kb_X5_step_112, kb_X5_step_78, kb_X5_step_0, KL, KB, KC, KI, KJ, KZ, bI_0, bI_n, nI00, nI10, ne_eq, Classical.not_not, not_true_eq_false, not_false_eq_true, if_true, if_false, ite_not, ite_self, Bool.false_eq_true, nIne1, O_rd, q10, h12, SV1, nIeq, c']
    · rw [if_neg c]
      have c' : (k = 18) = False := eq_false c
      by_cases d : k = 22
      · rw [if_pos d]
        have d' : (k = 22) = True := eq_true d
        obtain ⟨g1, e1, w⟩ := c_finishLine (m := m) (o := o) h hs (hs.2.2.2 m0)
        refine ⟨g1, ?_, w⟩
        simp (disch := first | assumption | omega) only [f_X5_step, kb_X5_step_141, kb_X5_step_137, kb_X5_step_130, kb_X5_step_112, kb_X5_step_78, kb_X5_step_0, KL, KB, KC, KI, KJ, KZ, bI_0, bI_n, nI00, nI10, ne_eq, Classical.not_not, not_true_eq_false, not_false_eq_true, if_true, if_false, ite_not, ite_self, Bool.false_eq_true, nIne1, O_rd, q10, h12, SV1, nIeq, c', d', e1]
      · rw [if_neg d]
        have d' : (k = 22) = False := eq_false d
        refine ⟨g, ?_, h, SFR.rfl'⟩
        simp (disch := first | assumption | omega) only [f_X5_step, kb_X5_step_141, kb_X5_step_137, kb_X5_step_130, kb_X5_step_112, kb_X5_step_78, kb_X5_step_0, KL, KB, KC, KI, KJ, KZ, bI_0, bI_n, nI00, nI10, ne_eq, Classical.not_not, not_true_eq_false, not_false_eq_true, if_true, if_false, ite_not, ite_self, Bool.false_eq_true, nIne1, O_rd, q10, h12, SV1, nIeq, c', d']
  rw [if_neg m1]
  by_cases m2 : s.mode = 2
  · rw [if_pos m2]
    rw [m2] at q10
    obtain ⟨g1, e1, w⟩ := c_beginCondition (m := m) (o := o) h hs hk h12 h14
    refine ⟨g1, ?_, w⟩
    simp (disch := first | assumption | omega) only [f_X5_step, kb_X5_step_141, kb_X5_step_137, kb_X5_step_130, kb_X5_step_112, kb_X5_step_78, kb_X5_step_0, KL, KB, KC, KI, KJ, KZ, bI_0, bI_n, nI00, nI10, ne_eq, Classical.not_not, not_true_eq_false, not_false_eq_true, if_true, if_false, ite_not, ite_self, Bool.false_eq_true, nIne1, O_rd, q10, SV2, e1]
  rw [if_neg m2]
  by_cases m3 : s.mode = 3
  · rw [if_pos m3]
    rw [m3] at q10
    obtain ⟨g1, e1, w⟩ := c_operand (m := m) (o := o) h hs hk h12 h14
    refine ⟨g1, ?_, w⟩
    simp (disch := first | assumption | omega) only [f_X5_step, kb_X5_step_141, kb_X5_step_137, kb_X5_step_130, kb_X5_step_112, kb_X5_step_78, kb_X5_step_0, KL, KB, KC, KI, KJ, KZ, bI_0, bI_n, nI00, nI10, ne_eq, Classical.not_not, not_true_eq_false, not_false_eq_true, if_true, if_false, ite_not, ite_self, Bool.false_eq_true, nIne1, O_rd, q10, SV3, e1]
  rw [if_neg m3]
  by_cases m4 : s.mode = 4
  · rw [if_pos m4]
    rw [m4] at q10
    obtain ⟨g1, e1, w⟩ := c_divisor (m := m) (o := o) h hs hk h12 h14 hv
    refine ⟨g1, ?_, w⟩
    simp (disch := first | assumption | omega) only [f_X5_step, kb_X5_step_141, kb_X5_step_137, kb_X5_step_130, kb_X5_step_112, kb_X5_step_78, kb_X5_step_0, KL, KB, KC, KI, KJ, KZ, bI_0, bI_n, nI00, nI10, ne_eq, Classical.not_not, not_true_eq_false, not_false_eq_true, if_true, if_false, ite_not, ite_self, Bool.false_eq_true, nIne1, O_rd, q10, SV4, e1]
  rw [if_neg m4]
  have hsw : ¬ (nI 0 ≤ nI s.mode ∧ nI s.mode ≤ nI 4) := by
    rw [nIle (by omega) (by omega), nIle (by omega) (by omega)]; omega
  by_cases c : (23 ≤ k ∧ k ≤ 26) ∨ (29 ≤ k ∧ k ≤ 31)
  · rw [if_pos c]
    obtain ⟨g1, e1, w⟩ := c_operator (m := m) (o := o) h hs c h12
    refine ⟨g1, ?_, w⟩
    have a1 : (k < 23) = False := eq_false (by omega)
    by_cases d : k ≤ 26
    · have d' : (k ≤ 26) = True := eq_true d
      simp (disch := first | assumption | omega) only [f_X5_step, kb_X5_step_141, kb_X5_step_137, kb_X5_step_130, kb_X5_step_112, kb_X5_step_78, kb_X5_step_0, KL, KB, KC, KI, KJ, KZ, bI_0, bI_n, nI00, nI10, ne_eq, Classical.not_not, not_true_eq_false, not_false_eq_true, if_true, if_false, ite_not, ite_self, Bool.false_eq_true, nIne1, O_rd, q10, h12, SWN5 hsw, nIlt, nIle, a1, d', e1]
    · have d' : (k ≤ 26) = False := eq_false d
      have a2 : (k < 29) = False := eq_false (by omega)
      have a3 : (31 < k) = False := eq_false (by omega)
      simp (disch := first | assumption | omega) only [f_X5_step, kb_X5_step_141, kb_X5_step_137, kb_X5_step_130, kb_X5_step_112, kb_X5_step_78, kb_X5_step_0, KL, KB, KC, KI, KJ, KZ, bI_0, bI_n, nI00, nI10, ne_eq, Classical.not_not, not_true_eq_false, not_false_eq_true, if_true, if_false, ite_not, ite_self, Bool.false_eq_true, nIne1, O_rd, q10, h12, SWN5 hsw, nIlt, nIle, a1, a2, a3, d', e1]
  · rw [if_neg c]
    obtain ⟨g1, e1, w⟩ := c_joiner (m := m) (o := o) h hs hk m0 h12
    refine ⟨g1, ?_, w⟩
    by_cases d : k < 23
    · have d' : (k < 23) = True := eq_true d
      have a2 : (k < 29) = True := eq_true (by omega)
      simp (disch := first | assumption | omega) only [f_X5_step, kb_X5_step_141, kb_X5_step_137, kb_X5_step_130, kb_X5_step_112, kb_X5_step_78, kb_X5_step_0, KL, KB, KC, KI, KJ, KZ, bI_0, bI_n, nI00, nI10, ne_eq, Classical.not_not, not_true_eq_false, not_false_eq_true, if_true, if_false, ite_not, ite_self, Bool.false_eq_true, nIne1, O_rd, q10, h12, SWN5 hsw, nIlt, nIle, d', a2, e1]
    · have d' : (k < 23) = False := eq_false d
      have d2 : (k ≤ 26) = False := eq_false (by omega)
      by_cases a : k < 29
      · have a' : (k < 29) = True := eq_true a
        simp (disch := first | assumption | omega) only [f_X5_step, kb_X5_step_141, kb_X5_step_137, kb_X5_step_130, kb_X5_step_112, kb_X5_step_78, kb_X5_step_0, KL, KB, KC, KI, KJ, KZ, bI_0, bI_n, nI00, nI10, ne_eq, Classical.not_not, not_true_eq_false, not_false_eq_true, if_true, if_false, ite_not, ite_self, Bool.false_eq_true, nIne1, O_rd, q10, h12, SWN5 hsw, nIlt, nIle, d', d2, a', e1]
      · have a' : (k < 29) = False := eq_false a
        have a3 : (31 < k) = True := eq_true (by omega)
        simp (disch := first | assumption | omega) only [f_X5_step, kb_X5_step_141, kb_X5_step_137, kb_X5_step_130, kb_X5_step_112, kb_X5_step_78, kb_X5_step_0, KL, KB, KC, KI, KJ, KZ, bI_0, bI_n, nI00, nI10, ne_eq, Classical.not_not, not_true_eq_false, not_false_eq_true, if_true, if_false, ite_not, ite_self, Bool.false_eq_true, nIne1, O_rd, q10, h12, SWN5 hsw, nIlt, nIle, d', d2, a', a3, e1]
