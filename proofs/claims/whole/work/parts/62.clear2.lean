-- ===== the model's cleared =====
theorem m_clr65 {n s G : Nat} {g : GG} {m o : Nat} (hL : ML n s g) (n6 : n ≤ 6) (hG : G < 64) (s34 : KK) (v w t f : Value) (Q : RS → Prop) (hQ : ∀ g', (∀ a, a ≠ 207 → g' a = g a) → ML n (s ^^^ (s &&& G)) g' → ∀ u, Q ((kAld 0 (kRecv 11 49 0 (kCall 1 f_X11_goers (kIst 5 (s34))))) ([.ref 188, v, w, t, f, .int (nI G), .int (nI n)] ++ u) [] (hp g' m o))) (hv : v = .long 0) : ∀ u, Q (kl_X11_cleared_65 s34 ([.ref 188, v, w, t, f, .int (nI G), .int (nI 0)] ++ u) [] (hp g m o)) := by
  intro u
  subst hv
  unfold kl_X11_cleared_65
  refine kFor n (by unfold FU; omega) (fun i ls h => ∃ g' u, ls = [.ref 188, .long 0, w, t, f, .int (nI G), .int (nI i)] ++ u ∧ h = hp g' m o ∧ (∀ a, a ≠ 207 → g' a = g a) ∧ ∀ r, r < n → g' 207 r = bW (if r < i then s.testBit r && !G.testBit r else s.testBit r)) Q ?_ ?_ 0 _ _ (by omega) ⟨g, u, rfl, rfl, fun _ _ => rfl, fun r hr => by rw [if_neg (by omega)]; exact hL.2 r hr⟩
  · rintro s0 ls h ⟨g', u, rfl, rfl, h1, h2⟩
    have e : g' 188 20 = nI n := by rw [h1 188 (by omega)]; exact hL.1
    have hin : (n ≤ n) = True := eq_true (by omega)
    have := hQ g' h1 ⟨e, fun r hr => by rw [h2 r hr, if_pos hr, subN_bit]⟩ []
    simp (disch := first | assumption | omega) only [KL, KB, KC, KI, KJ, KZ, bI_0, bI_n, nI00, nI10, ne_eq, Classical.not_not, not_true_eq_false, not_false_eq_true, if_true, if_false, ite_not, ite_self, Bool.false_eq_true, nIne1, List.cons_append, List.nil_append, O_mo] at this
    simp (disch := first | assumption | omega) only [KL, KB, KC, KI, KJ, KZ, bI_0, bI_n, nI00, nI10, ne_eq, Classical.not_not, not_true_eq_false, not_false_eq_true, if_true, if_false, ite_not, ite_self, Bool.false_eq_true, nIne1, List.cons_append, List.nil_append, kMask, mask, O_mo, e, nIle, hin]
    exact this
  · rintro s0 i hi ih ls h ⟨g', u, rfl, rfl, h1, h2⟩
    have e : g' 188 20 = nI n := by rw [h1 188 (by omega)]; exact hL.1
    have ei := h2 i hi
    rw [if_neg (by omega)] at ei
    have hin : (n ≤ i) = False := eq_false (by omega)
    have stz : ∀ (x : Int32), x = nI 0 ∨ x = nI 1 → ∀ (k : KK) (ls st : List Value), kZas k ls (.int x :: .int (nI i) :: .ref 207 :: st) (hp g' m o) = k ls st (hp (upd2 g' 207 i x) m o) := fun x hx k ls st => zas_at (n := 6) rfl (by decide) (by omega) hx k ls st
    have fin : ∀ b : Bool, b = (s.testBit i && !G.testBit i) → Q (s0 ([.ref 188, .long 0, w, t, f, .int (nI G), .int (nI (i + 1))]) [] (hp (upd2 g' 207 i (bW b)) m o)) := fun b hb => ih _ _ ⟨_, [], rfl, rfl, fun a ha => by rw [uN ha]; exact h1 a ha, fun r hr => by
      by_cases q : r = i
      · subst q; rw [uS, if_pos (by omega), hb]
      · rw [uO (Or.inr q), h2 r hr]
        by_cases q2 : r < i
        · rw [if_pos q2, if_pos (by omega)]
        · rw [if_neg q2, if_neg (by omega)]⟩
    cases hb : s.testBit i with
    | false =>
      rw [hb, bW_f] at ei
      have := fin false (by rw [hb]; rfl)
      rw [bW_f] at this
      have st := stz (nI 0) (Or.inl rfl)
      simp (disch := first | assumption | omega) only [kb_X11_cleared_105, kb_X11_cleared_104, KL, KB, KC, KI, KJ, KZ, bI_0, bI_n, nI00, nI10, ne_eq, Classical.not_not, not_true_eq_false, not_false_eq_true, if_true, if_false, ite_not, ite_self, Bool.false_eq_true, nIne1, List.cons_append, List.nil_append, kMask, mask, O_mo, AR, e, ei, nIle, hin, st, nI_add]
      exact this
    | true =>
      rw [hb, bW_t] at ei
      cases hg : G.testBit i with
      | true =>
        have hb2 : ((G >>> i).testBit 0 = false) = False := by rw [Nat.testBit_shiftRight, Nat.add_zero, hg]; simp
        have := fin false (by rw [hb, hg]; rfl)
        rw [bW_f] at this
        have st := stz (nI 0) (Or.inl rfl)
        simp (disch := first | assumption | omega) only [kb_X11_cleared_105, kb_X11_cleared_104, KL, KB, KC, KI, KJ, KZ, bI_0, bI_n, nI00, nI10, ne_eq, Classical.not_not, not_true_eq_false, not_false_eq_true, if_true, if_false, ite_not, ite_self, Bool.false_eq_true, nIne1, List.cons_append, List.nil_append, kMask, mask, O_mo, AR, e, ei, nIle, hin, st, nI_add, nI_shr, nI_and, bit0, hb2]
        exact this
      | false =>
        have hb2 : ((G >>> i).testBit 0 = false) = True := by rw [Nat.testBit_shiftRight, Nat.add_zero, hg]; simp
        have := fin true (by rw [hb, hg]; rfl)
        rw [bW_t] at this
        have st := stz (nI 1) (Or.inr rfl)
        simp (disch := first | assumption | omega) only [kb_X11_cleared_105, kb_X11_cleared_104, KL, KB, KC, KI, KJ, KZ, bI_0, bI_n, nI00, nI10, ne_eq, Classical.not_not, not_true_eq_false, not_false_eq_true, if_true, if_false, ite_not, ite_self, Bool.false_eq_true, nIne1, List.cons_append, List.nil_append, kMask, mask, O_mo, AR, e, ei, nIle, hin, st, nI_add, nI_shr, nI_and, bit0, hb2]
        exact this
/-- what the model answers of three numbers -/
def clrV (k : Nat) (R : Nat × Nat × Nat) : Nat := if k = 0 then R.1 else if k = 1 then popN R.2.2 else R.2.1
theorem m_clr34 {n s k : Nat} {ct : Nat → ACart} {sz sl sg : FN} {kx : Nat → Nat} {rx : Nat → ARule} {g : GG} {m o : Nat} (h : MSn n s ct sz sl sg kx rx 0 g) (hL : ML n s g) (n3 : 3 ≤ n) (n6 : n ≤ 6) (hs : s < 2 ^ n) (hk : k ≤ 2) (v : Value) : ∃ g', kl_X11_cleared_34 [.ref 188, v, .int (nI k), .int (nI 0), .int (nI 0), .int (nI (goS n s (wV n ct sz sl sg rx 0)))] [] (hp g m o) = some (some (.int (nI (clrV k (clrN n (wV n ct sz sl sg rx 0) (fun x y => wayB x (ct x).1.1 y (ct y).1.1) 6 s 0 0)))), hp g' m o) ∧ ∀ a, a ≠ 194 → a ≠ 195 → a ≠ 207 → g' a = g a := by
  generalize hW : wV n ct sz sl sg rx 0 = W
  generalize hF : (fun x y => wayB x (ct x).1.1 y (ct y).1.1) = F
  unfold kl_X11_cleared_34
  refine kFix_rule (fun k' ls st h' => st = [] ∧ ∃ (g' : GG) (s' t f : Nat) (v : Value) (u : List Value), ls = [.ref 188, v, .int (nI k), .int (nI t), .int (nI f), .int (nI (goS n s' W))] ++ u ∧ h' = hp g' m o ∧ (∀ a, a ≠ 194 → a ≠ 195 → a ≠ 207 → g' a = g a) ∧ ML n s' g' ∧ (∀ r, s'.testBit r = true → s.testBit r = true) ∧ s' < 2 ^ n ∧ popN s' ≤ k' ∧ clrN n W F 6 s 0 0 = clrN n W F k' s' t f) (fun r => ∃ g', r = some (some (.int (nI (clrV k (clrN n W F 6 s 0 0)))), hp g' m o) ∧ ∀ a, a ≠ 194 → a ≠ 195 → a ≠ 207 → g' a = g a) ?_ FU 6 (by decide) _ _ _ ⟨rfl, g, s, 0, 0, v, [], rfl, rfl, fun _ _ _ _ => rfl, hL, fun _ h => h, hs, popN_le6 (lt64 hs n6), rfl⟩
  rintro s0 k' ih ls st h' ⟨rfl, g', s', t, f, v, u, rfl, rfl, h1, h2, h3, h4, h5, h6⟩
  have s64 := lt64 h4 n6
  have G64 : goS n s' W < 64 := goS_lt64 n6
  by_cases hg0 : goS n s' W = 0
  · rw [clrN_stop hg0] at h6
    have hgz : (nI (goS n s' W) = 0) = True := by rw [hg0]; exact eq_true rfl
    have e4 := m_carts (m := m) (o := o) h2 n6 h4
    have e5 := fun h => m_count0 s' s64 h
    refine ⟨g', ?_, h1⟩
    rw [h6]
    have hk' : k = 0 ∨ k = 1 ∨ k = 2 := by omega
    have z20 : (nI 2 = 0) = False := eq_false (by decide)
    have z21 : (nI 2 = nI 1) = False := eq_false (by decide)
    rcases hk' with rfl | rfl | rfl
    · simp (disch := first | assumption | omega) only [f_X11_cleared, kb_X11_cleared_16, kb_X11_cleared_146, kb_X11_cleared_105, kb_X11_cleared_104, kb_X11_cleared_59, kb_X11_cleared_0, KL, KB, KC, KI, KJ, KZ, bI_0, bI_n, nI00, nI10, ne_eq, Classical.not_not, not_true_eq_false, not_false_eq_true, if_true, if_false, ite_not, ite_self, Bool.false_eq_true, nIne1, List.cons_append, List.nil_append, kMask, mask, O_mo, hgz, e4, e5]
      rfl
    · simp (disch := first | assumption | omega) only [f_X11_cleared, kb_X11_cleared_16, kb_X11_cleared_146, kb_X11_cleared_105, kb_X11_cleared_104, kb_X11_cleared_59, kb_X11_cleared_0, KL, KB, KC, KI, KJ, KZ, bI_0, bI_n, nI00, nI10, ne_eq, Classical.not_not, not_true_eq_false, not_false_eq_true, if_true, if_false, ite_not, ite_self, Bool.false_eq_true, nIne1, List.cons_append, List.nil_append, kMask, mask, O_mo, hgz, e4, e5, eq_self]
      rfl
    · simp (disch := first | assumption | omega) only [f_X11_cleared, kb_X11_cleared_16, kb_X11_cleared_146, kb_X11_cleared_105, kb_X11_cleared_104, kb_X11_cleared_59, kb_X11_cleared_0, KL, KB, KC, KI, KJ, KZ, bI_0, bI_n, nI00, nI10, ne_eq, Classical.not_not, not_true_eq_false, not_false_eq_true, if_true, if_false, ite_not, ite_self, Bool.false_eq_true, nIne1, List.cons_append, List.nil_append, kMask, mask, O_mo, hgz, e4, e5, z20, z21]
      rfl
  · have hgz : (nI (goS n s' W) = 0) = False := by rw [nIk0 (by omega)]; exact eq_false hg0
    have hdrop := popN_drop n6 hg0
    obtain ⟨k'', rfl⟩ : ∃ k'', k' = k'' + 1 := ⟨k' - 1, by omega⟩
    rw [clrN_go hg0] at h6
    have hM : MSn n s ct sz sl sg kx rx 0 g' := h.sm h1
    have e6 := m_firstF (m := m) (o := o) (tt := fun r => (ct r).1.1) hM.1 n6 G64 (fun r hr hb => hM.tt n6 r hr (h3 r (goS_sub r hb)))
    rw [hF] at e6
    have hsub : ∀ r, (s' ^^^ (s' &&& goS n s' W)).testBit r = true → s.testBit r = true := fun r hr => by
      rw [subN_bit, Bool.and_eq_true] at hr
      exact h3 r hr.1
    have fin : ∀ f', f' = f + (if ffJ n (goS n s' W) F = -1 then 0 else 1) → ∃ g2, kl_X11_cleared_65 s0 ([.ref 188, .long 0, .int (nI k), .int (nI (t + 1)), .int (nI f'), .int (nI (goS n s' W)), .int (nI 0)] ++ []) [] (hp g' m o) = some (some (.int (nI (clrV k (clrN n W F 6 s 0 0)))), hp g2 m o) ∧ ∀ a, a ≠ 194 → a ≠ 195 → a ≠ 207 → g2 a = g a := by
      intro f' hf'
      refine m_clr65 h2 n6 G64 s0 (.long 0) (.int (nI k)) (.int (nI (t + 1))) (.int (nI f')) (fun r => ∃ g2, r = some (some (.int (nI (clrV k (clrN n W F 6 s 0 0)))), hp g2 m o) ∧ ∀ a, a ≠ 194 → a ≠ 195 → a ≠ 207 → g2 a = g a) (fun g2 q1 q2 u => ?_) rfl []
      have hM2 : MSn n s ct sz sl sg kx rx 0 g2 := hM.sm (fun a _ _ r => q1 a r)
      have hMW := (hM2.mono hsub).mw (m := m) (o := o) n3 n6 (by omega)
      rw [hW] at hMW
      obtain ⟨g3, e3, p3⟩ := m_goers (m := m) (o := o) q2 n6 hMW g2 SM.rfl'
      simp (disch := first | assumption | omega) only [KL, KB, KC, KI, KJ, KZ, bI_0, bI_n, nI00, nI10, ne_eq, Classical.not_not, not_true_eq_false, not_false_eq_true, if_true, if_false, ite_not, ite_self, Bool.false_eq_true, nIne1, List.cons_append, List.nil_append, O_mo, e3]
      exact ih k'' (by omega) _ _ _ ⟨rfl, g3, _, t + 1, f', _, _, rfl, rfl, fun a p q r => by rw [p3 a p q, q1 a r]; exact h1 a p q r, q2.sm p3, hsub, subN_lt h4, by omega, by rw [h6, hf']⟩
    by_cases hf : ffJ n (goS n s' W) F = -1
    · have := fin f (by rw [if_pos hf, Nat.add_zero])
      simp only [List.append_nil] at this
      simp (disch := first | assumption | omega) only [f_X11_cleared, kb_X11_cleared_16, kb_X11_cleared_146, kb_X11_cleared_105, kb_X11_cleared_104, kb_X11_cleared_59, kb_X11_cleared_0, KL, KB, KC, KI, KJ, KZ, bI_0, bI_n, nI00, nI10, ne_eq, Classical.not_not, not_true_eq_false, not_false_eq_true, if_true, if_false, ite_not, ite_self, Bool.false_eq_true, nIne1, List.cons_append, List.nil_append, kMask, mask, O_mo, hgz, e6, hf, nI_add, Nat.add_zero]
      exact this
    · have := fin (f + 1) (by rw [if_neg hf])
      simp only [List.append_nil] at this
      simp (disch := first | assumption | omega) only [f_X11_cleared, kb_X11_cleared_16, kb_X11_cleared_146, kb_X11_cleared_105, kb_X11_cleared_104, kb_X11_cleared_59, kb_X11_cleared_0, KL, KB, KC, KI, KJ, KZ, bI_0, bI_n, nI00, nI10, ne_eq, Classical.not_not, not_true_eq_false, not_false_eq_true, if_true, if_false, ite_not, ite_self, Bool.false_eq_true, nIne1, List.cons_append, List.nil_append, kMask, mask, O_mo, hgz, e6, hf, nI_add]
      exact this
theorem ag_cleared (a0 a1 : Int32) : Ag RT f_X10_cleared f_X11_cleared [.int a0, .int a1] := by
  intro j g m o hj hR
  rcases in_cases a0 5 (by decide) with ⟨c, hc, rfl⟩ | h0
  · have hc6 : c < 6 := by omega
    have hX := isX_live c hc6
    have hyc : (nI 0 ≤ nI c ∧ nI c ≤ nI 5) = True := eq_true (in_yes hc (by omega))
    obtain ⟨n, hx⟩ := hR.at hc6
    obtain ⟨n3, n6, en, em, -⟩ := id hx
    obtain ⟨s, ct, sz, sl, sg, kx, rx, hs, hm, hC, hlay⟩ := hR.snap hj hc6 hx
    rcases in_cases a1 2 (by decide) with ⟨k, hk, rfl⟩ | h1
    · have hyk : (nI 0 ≤ nI k ∧ nI k ≤ nI 2) = True := eq_true (in_yes hk (by omega))
      obtain ⟨g1, e1, p1, p5, p7, p6⟩ := c_clear (m := m) (o := o) hC hX (by omega) (by omega) n3 n6 hs
      obtain ⟨g2, e2, q1, q2, hML, hMS⟩ := hlay g1 (p1 189 (by omega) (by omega) (by omega))
      have z97 : ∀ i, i ≠ 20 → g2 188 i = g 188 i := fun i hi => (q2 i hi).trans (by rw [p1 188 (by omega) (by omega) (by omega)])
      have hM := hMS 0 (by omega) g2 (fun _ _ => rfl) hML.1 (by rw [z97 33 (by omega)]; exact hR.2.2.2.2.2.2.1) (by rw [z97 34 (by omega)]; exact hR.2.2.2.2.2.2.2.1) (by rw [z97 35 (by omega)]; exact hR.2.2.2.2.2.2.2.2)
      obtain ⟨g3, e3, p3⟩ := m_goers (m := m) (o := o) hML n6 (hM.mw (m := m) (o := o) n3 n6 (by omega)) g2 SM.rfl'
      obtain ⟨g4, e4, p4⟩ := m_clr34 (m := m) (o := o) (k := k) (hM.sm (fun a x y _ => p3 a x y)) (hML.sm p3) n3 n6 hs hk (.int (nI c))
      refine ⟨nI (clrV k (clrN n (wV n ct sz sl sg rx 0) (fun x y => wayB x (ct x).1.1 y (ct y).1.1) 6 s 0 0)), g1, m, o, g4, ?_, ?_, hR.keep (KEEP.of (fun a x y z w => ?_) (fun i hi => ?_))⟩
      · have hk' : k = 0 ∨ k = 1 ∨ k = 2 := by omega
        have z20 : (nI 2 = 0) = False := eq_false (by decide)
        have z21 : (nI 2 = nI 1) = False := eq_false (by decide)
        rcases hk' with rfl | rfl | rfl
        · simp (disch := first | assumption | omega) only [f_X10_cleared, kb_X10_cleared_18, kb_X10_cleared_62, kb_X10_cleared_0, KL, KB, KC, KI, KJ, KZ, bI_0, bI_n, nI00, nI10, ne_eq, Classical.not_not, not_true_eq_false, not_false_eq_true, if_true, if_false, ite_not, ite_self, Bool.false_eq_true, nIne1, O_fp, XO, O_st, c_at g m o c hc6, c_within, hyk, e1, p5]
          rfl
        · simp (disch := first | assumption | omega) only [f_X10_cleared, kb_X10_cleared_18, kb_X10_cleared_62, kb_X10_cleared_0, KL, KB, KC, KI, KJ, KZ, bI_0, bI_n, nI00, nI10, ne_eq, Classical.not_not, not_true_eq_false, not_false_eq_true, if_true, if_false, ite_not, ite_self, Bool.false_eq_true, nIne1, O_fp, XO, O_st, c_at g m o c hc6, c_within, hyk, e1, p6, eq_self]
          rfl
        · simp (disch := first | assumption | omega) only [f_X10_cleared, kb_X10_cleared_18, kb_X10_cleared_62, kb_X10_cleared_0, KL, KB, KC, KI, KJ, KZ, bI_0, bI_n, nI00, nI10, ne_eq, Classical.not_not, not_true_eq_false, not_false_eq_true, if_true, if_false, ite_not, ite_self, Bool.false_eq_true, nIne1, O_fp, XO, O_st, c_at g m o c hc6, c_within, hyk, e1, p7, z20, z21]
          rfl
      · simp (disch := first | assumption | omega) only [f_X11_cleared, kb_X11_cleared_16, kb_X11_cleared_146, kb_X11_cleared_105, kb_X11_cleared_104, kb_X11_cleared_59, kb_X11_cleared_0, KL, KB, KC, KI, KJ, KZ, bI_0, bI_n, nI00, nI10, ne_eq, Classical.not_not, not_true_eq_false, not_false_eq_true, if_true, if_false, ite_not, ite_self, Bool.false_eq_true, nIne1, O_mo, m_isCrossing, m_isIn, hyc, hyk, e2, e3, e4]
      · rw [p4 a (by omega) (by omega) (by omega), p3 a (by omega) (by omega), q1 a (by omega) (by omega), p1 a (by omega) (by omega) (by omega)]
      · rw [p4 188 (by omega) (by omega) (by omega), p3 188 (by omega) (by omega)]; exact z97 i (by omega)
    · refine ⟨-1, g, m, o, g, ?_, ?_, RT_mono _ _ _ _ hR⟩
      · simp (disch := first | assumption | omega) only [f_X10_cleared, kb_X10_cleared_18, kb_X10_cleared_62, kb_X10_cleared_0, KL, KB, KC, KI, KJ, KZ, bI_0, bI_n, nI00, nI10, ne_eq, Classical.not_not, not_true_eq_false, not_false_eq_true, if_true, if_false, ite_not, ite_self, Bool.false_eq_true, nIne1, O_fp, XO, c_at g m o c hc6, c_within, h1]
      · simp (disch := first | assumption | omega) only [f_X11_cleared, kb_X11_cleared_16, kb_X11_cleared_146, kb_X11_cleared_105, kb_X11_cleared_104, kb_X11_cleared_59, kb_X11_cleared_0, KL, KB, KC, KI, KJ, KZ, bI_0, bI_n, nI00, nI10, ne_eq, Classical.not_not, not_true_eq_false, not_false_eq_true, if_true, if_false, ite_not, ite_self, Bool.false_eq_true, nIne1, O_mo, m_isCrossing, m_isIn, hyc, h1]
  · refine ⟨-1, g, m, o, g, ?_, ?_, RT_mono _ _ _ _ hR⟩
    · simp (disch := first | assumption | omega) only [f_X10_cleared, kb_X10_cleared_18, kb_X10_cleared_62, kb_X10_cleared_0, KL, KB, KC, KI, KJ, KZ, bI_0, bI_n, nI00, nI10, ne_eq, Classical.not_not, not_true_eq_false, not_false_eq_true, if_true, if_false, ite_not, ite_self, Bool.false_eq_true, nIne1, O_fp, c_atN g m o a0 h0]
    · simp (disch := first | assumption | omega) only [f_X11_cleared, kb_X11_cleared_16, kb_X11_cleared_146, kb_X11_cleared_105, kb_X11_cleared_104, kb_X11_cleared_59, kb_X11_cleared_0, KL, KB, KC, KI, KJ, KZ, bI_0, bI_n, nI00, nI10, ne_eq, Classical.not_not, not_true_eq_false, not_false_eq_true, if_true, if_false, ite_not, ite_self, Bool.false_eq_true, nIne1, O_mo, m_isCrossing, h0]
