-- ===== waits, now, meant =====
theorem x_hasCartN (g : GG) (m o X n : Nat) (r : Int32) (hX : isX X) (en : g X 0 = nI n) (n1 : 1 ≤ n) (n6 : n ≤ 6) (h : ¬ (nI 0 ≤ r ∧ r ≤ nI (n - 1))) : f_X1_hasCart [.ref X, .int r] (hp g m o) = some (some (.int (nI 0)), hp g m o) := by
  have hh := x_hasRoad g m o X n r hX en n1 (by omega)
  rw [bI_f h] at hh
  simp (disch := first | assumption | omega) only [f_X1_hasCart, kb_X1_hasCart_25, kb_X1_hasCart_24, kb_X1_hasCart_0, KL, KB, KC, KI, KJ, KZ, bI_0, bI_n, nI00, nI10, ne_eq, Classical.not_not, not_true_eq_false, not_false_eq_true, if_true, if_false, ite_not, ite_self, Bool.false_eq_true, nIne1, XO, hh]
theorem lay_fin {g g1 g2 g3 : GG} (h1 : SC g g1) (p1 : ∀ a, a ≠ 188 → (a < 196 ∨ 207 < a) → g2 a = g1 a) (p2 : ∀ i, i ≠ 20 → g2 188 i = g1 188 i) (h3 : SM g2 g3) : KEEP g g3 :=
  (KEEP.sc h1).tr (KEEP.tr (KEEP.of (fun a q r s t => p1 a (by omega) (by omega)) (fun i hi => p2 i (by omega))) (KEEP.sm h3))
theorem ag_waits (a0 a1 a2 : Int32) : Ag RT f_X10_waits f_X11_waits [.int a0, .int a1, .int a2] := by
  intro j g m o hj hR
  rcases in_cases a0 5 (by decide) with ⟨c, hc, rfl⟩ | h0
  · have hc6 : c < 6 := by omega
    have hX := isX_live c hc6
    obtain ⟨n, hx⟩ := hR.at hc6
    obtain ⟨n3, n6, en, em, -⟩ := id hx
    obtain ⟨s, ct, sz, sl, sg, kx, rx, hs, hm, hC, hlay⟩ := hR.snap hj hc6 hx
    have hcl := hC.cl n6
    have hrd := fun v => m_isRoad g m o c n v hc6 em (by omega)
    have hro := fun v => x_hasRoad g m o (17 + 10 * c) n v hX en (by omega) (by omega)
    rcases in_cases a1 (n - 1) (by omega) with ⟨r, hr, rfl⟩ | h1
    · have hyr : (nI 0 ≤ nI r ∧ nI r ≤ nI (n - 1)) = True := eq_true (in_yes hr (by omega))
      have hcr := x_hasCartS (m := m) (o := o) hX hcl (by omega) n6 r (by omega)
      have hmr := hm r (by omega)
      rcases in_cases a2 (n - 1) (by omega) with ⟨t, ht, rfl⟩ | h2
      · have hyt : (nI 0 ≤ nI t ∧ nI t ≤ nI (n - 1)) = True := eq_true (in_yes ht (by omega))
        have hct := x_hasCartS (m := m) (o := o) hX hcl (by omega) n6 t (by omega)
        have hmt := hm t (by omega)
        by_cases hrt : r = t
        · have hrt' : (r = t) = True := eq_true hrt
          refine ⟨-1, g, m, o, g, ?_, ?_, RT_mono _ _ _ _ hR⟩
          · simp (disch := first | assumption | omega) only [f_X10_waits, kb_X10_waits_35, kb_X10_waits_57, kb_X10_waits_0, KL, KB, KC, KI, KJ, KZ, bI_0, bI_n, nI00, nI10, ne_eq, Classical.not_not, not_true_eq_false, not_false_eq_true, if_true, if_false, ite_not, ite_self, Bool.false_eq_true, nIne1, O_fp, XO, c_at g m o c hc6, nIeq, hrt']
          · simp (disch := first | assumption | omega) only [f_X11_waits, kb_X11_waits_45, kb_X11_waits_66, kb_X11_waits_0, KL, KB, KC, KI, KJ, KZ, bI_0, bI_n, nI00, nI10, ne_eq, Classical.not_not, not_true_eq_false, not_false_eq_true, if_true, if_false, ite_not, ite_self, Bool.false_eq_true, nIne1, O_mo, hrd, hyr, hyt, nIeq, hrt']
        · have hrt' : (r = t) = False := eq_false hrt
          cases br : s.testBit r with
          | false =>
            rw [br] at hcr hmr
            rw [bW_f] at hcr hmr
            refine ⟨-1, g, m, o, g, ?_, ?_, RT_mono _ _ _ _ hR⟩
            · simp (disch := first | assumption | omega) only [f_X10_waits, kb_X10_waits_35, kb_X10_waits_57, kb_X10_waits_0, KL, KB, KC, KI, KJ, KZ, bI_0, bI_n, nI00, nI10, ne_eq, Classical.not_not, not_true_eq_false, not_false_eq_true, if_true, if_false, ite_not, ite_self, Bool.false_eq_true, nIne1, O_fp, XO, c_at g m o c hc6, nIeq, hrt', hcr]
            · simp (disch := first | assumption | omega) only [f_X11_waits, kb_X11_waits_45, kb_X11_waits_66, kb_X11_waits_0, KL, KB, KC, KI, KJ, KZ, bI_0, bI_n, nI00, nI10, ne_eq, Classical.not_not, not_true_eq_false, not_false_eq_true, if_true, if_false, ite_not, ite_self, Bool.false_eq_true, nIne1, O_mo, hrd, hyr, hyt, nIeq, hrt', m_get, hmr]
          | true =>
            rw [br] at hcr hmr
            rw [bW_t] at hcr hmr
            cases bt : s.testBit t with
            | false =>
              rw [bt] at hct hmt
              rw [bW_f] at hct hmt
              refine ⟨-1, g, m, o, g, ?_, ?_, RT_mono _ _ _ _ hR⟩
              · simp (disch := first | assumption | omega) only [f_X10_waits, kb_X10_waits_35, kb_X10_waits_57, kb_X10_waits_0, KL, KB, KC, KI, KJ, KZ, bI_0, bI_n, nI00, nI10, ne_eq, Classical.not_not, not_true_eq_false, not_false_eq_true, if_true, if_false, ite_not, ite_self, Bool.false_eq_true, nIne1, O_fp, XO, c_at g m o c hc6, nIeq, hrt', hcr, hct]
              · simp (disch := first | assumption | omega) only [f_X11_waits, kb_X11_waits_45, kb_X11_waits_66, kb_X11_waits_0, KL, KB, KC, KI, KJ, KZ, bI_0, bI_n, nI00, nI10, ne_eq, Classical.not_not, not_true_eq_false, not_false_eq_true, if_true, if_false, ite_not, ite_self, Bool.false_eq_true, nIne1, O_mo, hrd, hyr, hyt, nIeq, hrt', m_get, hmr, hmt]
            | true =>
              rw [bt] at hct hmt
              rw [bW_t] at hct hmt
              obtain ⟨g1, e1, p1⟩ := hC.cw (m := m) (o := o) (mean := 0) hX (by omega) (by omega) n3 n6 (by omega) g SC.rfl' r t (by omega) (by omega) hrt br bt
              obtain ⟨g2, e2, q1, q2, hML, hMS⟩ := hlay g1 (p1 189 (by omega) (by omega))
              have z97 : ∀ i, i ≠ 20 → g2 188 i = g 188 i := fun i hi => (q2 i hi).trans (by rw [p1 188 (by omega) (by omega)])
              have hM := hMS 0 (by omega) g2 (fun _ _ => rfl) hML.1 (by rw [z97 33 (by omega)]; exact hR.2.2.2.2.2.2.1) (by rw [z97 34 (by omega)]; exact hR.2.2.2.2.2.2.2.1) (by rw [z97 35 (by omega)]; exact hR.2.2.2.2.2.2.2.2)
              obtain ⟨g3, e3, p3⟩ := hM.mw (m := m) (o := o) n3 n6 (by omega) g2 SM.rfl' r t (by omega) (by omega) hrt br bt
              have em1 : g1 189 (10 + 560 * c + 552) = nI n := by rw [p1 189 (by omega) (by omega)]; exact em
              have hrd1 := fun v => m_isRoad g1 m o c n v hc6 em1 (by omega)
              have hmr1 : g1 189 (10 + 560 * c + 92 * r + 18) = nI 1 := by rw [p1 189 (by omega) (by omega)]; exact hmr
              have hmt1 : g1 189 (10 + 560 * c + 92 * t + 18) = nI 1 := by rw [p1 189 (by omega) (by omega)]; exact hmt
              refine ⟨bW (wV n ct sz sl sg rx 0 r t), g1, m, o, g3, ?_, ?_, hR.keep (lay_fin p1 q1 q2 p3)⟩
              · cases hw : wV n ct sz sl sg rx 0 r t with
                | true =>
                  rw [hw] at e1
                  simp (disch := first | assumption | omega) only [f_X10_waits, kb_X10_waits_35, kb_X10_waits_57, kb_X10_waits_0, KL, KB, KC, KI, KJ, KZ, bI_0, bI_n, nI00, nI10, ne_eq, Classical.not_not, not_true_eq_false, not_false_eq_true, if_true, if_false, ite_not, ite_self, Bool.false_eq_true, nIne1, O_fp, XO, O_st, c_at g m o c hc6, nIeq, hrt', hcr, hct, e1, bW_t]
                | false =>
                  rw [hw] at e1
                  simp (disch := first | assumption | omega) only [f_X10_waits, kb_X10_waits_35, kb_X10_waits_57, kb_X10_waits_0, KL, KB, KC, KI, KJ, KZ, bI_0, bI_n, nI00, nI10, ne_eq, Classical.not_not, not_true_eq_false, not_false_eq_true, if_true, if_false, ite_not, ite_self, Bool.false_eq_true, nIne1, O_fp, XO, O_st, c_at g m o c hc6, nIeq, hrt', hcr, hct, e1, bW_f]
              · cases hw : wV n ct sz sl sg rx 0 r t with
                | true =>
                  rw [hw] at e3
                  simp (disch := first | assumption | omega) only [f_X11_waits, kb_X11_waits_45, kb_X11_waits_66, kb_X11_waits_0, KL, KB, KC, KI, KJ, KZ, bI_0, bI_n, nI00, nI10, ne_eq, Classical.not_not, not_true_eq_false, not_false_eq_true, if_true, if_false, ite_not, ite_self, Bool.false_eq_true, nIne1, O_mo, hrd1, hyr, hyt, nIeq, hrt', m_get, hmr1, hmt1, e2, e3, bW_t]
                | false =>
                  rw [hw] at e3
                  simp (disch := first | assumption | omega) only [f_X11_waits, kb_X11_waits_45, kb_X11_waits_66, kb_X11_waits_0, KL, KB, KC, KI, KJ, KZ, bI_0, bI_n, nI00, nI10, ne_eq, Classical.not_not, not_true_eq_false, not_false_eq_true, if_true, if_false, ite_not, ite_self, Bool.false_eq_true, nIne1, O_mo, hrd1, hyr, hyt, nIeq, hrt', m_get, hmr1, hmt1, e2, e3, bW_f]
      · have hne : (nI r = a2) = False := eq_false (fun q => h2 (by rw [← q]; exact in_yes hr (by omega)))
        have hcn := x_hasCartN g m o (17 + 10 * c) n a2 hX en (by omega) n6 h2
        refine ⟨-1, g, m, o, g, ?_, ?_, RT_mono _ _ _ _ hR⟩
        · cases br : s.testBit r with
          | false =>
            rw [br] at hcr
            simp (disch := first | assumption | omega) only [f_X10_waits, kb_X10_waits_35, kb_X10_waits_57, kb_X10_waits_0, KL, KB, KC, KI, KJ, KZ, bI_0, bI_n, nI00, nI10, ne_eq, Classical.not_not, not_true_eq_false, not_false_eq_true, if_true, if_false, ite_not, ite_self, Bool.false_eq_true, nIne1, O_fp, XO, c_at g m o c hc6, hne, hcr, bW_f]
          | true =>
            rw [br] at hcr
            simp (disch := first | assumption | omega) only [f_X10_waits, kb_X10_waits_35, kb_X10_waits_57, kb_X10_waits_0, KL, KB, KC, KI, KJ, KZ, bI_0, bI_n, nI00, nI10, ne_eq, Classical.not_not, not_true_eq_false, not_false_eq_true, if_true, if_false, ite_not, ite_self, Bool.false_eq_true, nIne1, O_fp, XO, c_at g m o c hc6, hne, hcr, bW_t, hcn]
        · simp (disch := first | assumption | omega) only [f_X11_waits, kb_X11_waits_45, kb_X11_waits_66, kb_X11_waits_0, KL, KB, KC, KI, KJ, KZ, bI_0, bI_n, nI00, nI10, ne_eq, Classical.not_not, not_true_eq_false, not_false_eq_true, if_true, if_false, ite_not, ite_self, Bool.false_eq_true, nIne1, O_mo, hrd, hyr, h2]
    · have hcn := x_hasCartN g m o (17 + 10 * c) n a1 hX en (by omega) n6 h1
      refine ⟨-1, g, m, o, g, ?_, ?_, RT_mono _ _ _ _ hR⟩
      · simp (disch := first | assumption | omega) only [f_X10_waits, kb_X10_waits_35, kb_X10_waits_57, kb_X10_waits_0, KL, KB, KC, KI, KJ, KZ, bI_0, bI_n, nI00, nI10, ne_eq, Classical.not_not, not_true_eq_false, not_false_eq_true, if_true, if_false, ite_not, ite_self, Bool.false_eq_true, nIne1, O_fp, XO, c_at g m o c hc6, hcn]
      · simp (disch := first | assumption | omega) only [f_X11_waits, kb_X11_waits_45, kb_X11_waits_66, kb_X11_waits_0, KL, KB, KC, KI, KJ, KZ, bI_0, bI_n, nI00, nI10, ne_eq, Classical.not_not, not_true_eq_false, not_false_eq_true, if_true, if_false, ite_not, ite_self, Bool.false_eq_true, nIne1, O_mo, hrd, h1]
  · refine ⟨-1, g, m, o, g, ?_, ?_, RT_mono _ _ _ _ hR⟩
    · simp (disch := first | assumption | omega) only [f_X10_waits, kb_X10_waits_35, kb_X10_waits_57, kb_X10_waits_0, KL, KB, KC, KI, KJ, KZ, bI_0, bI_n, nI00, nI10, ne_eq, Classical.not_not, not_true_eq_false, not_false_eq_true, if_true, if_false, ite_not, ite_self, Bool.false_eq_true, nIne1, O_fp, c_atN g m o a0 h0]
    · simp (disch := first | assumption | omega) only [f_X11_waits, kb_X11_waits_45, kb_X11_waits_66, kb_X11_waits_0, KL, KB, KC, KI, KJ, KZ, bI_0, bI_n, nI00, nI10, ne_eq, Classical.not_not, not_true_eq_false, not_false_eq_true, if_true, if_false, ite_not, ite_self, Bool.false_eq_true, nIne1, O_mo, m_isRoadN g m o a0 _ h0]
theorem goS_sub {n s : Nat} {W : Nat → Nat → Bool} (r : Nat) (h : (goS n s W).testBit r = true) : s.testBit r = true := by
  unfold goS mayP at h
  rw [setN_bit, Bool.and_eq_true, Bool.and_eq_true] at h
  exact h.2.1
theorem goS_lt {n s : Nat} {W : Nat → Nat → Bool} : goS n s W < 2 ^ n := setN_lt _ _
theorem goS_lt64 {n s : Nat} {W : Nat → Nat → Bool} (n6 : n ≤ 6) : goS n s W < 64 := setN_lt64 _ n6
theorem lt64 {s n : Nat} (h : s < 2 ^ n) (n6 : n ≤ 6) : s < 64 := Nat.lt_of_lt_of_le h (Nat.pow_le_pow_right (by omega) n6)
theorem ag_meant (a0 a1 : Int32) : Ag RT f_X10_meant f_X11_meant [.int a0, .int a1] := by
  intro j g m o hj hR
  rcases in_cases a0 5 (by decide) with ⟨c, hc, rfl⟩ | h0
  · have hc6 : c < 6 := by omega
    have hX := isX_live c hc6
    have hyc : (nI 0 ≤ nI c ∧ nI c ≤ nI 5) = True := eq_true (in_yes hc (by omega))
    obtain ⟨n, hx⟩ := hR.at hc6
    obtain ⟨n3, n6, en, em, -⟩ := id hx
    obtain ⟨s, ct, sz, sl, sg, kx, rx, hs, hm, hC, hlay⟩ := hR.snap hj hc6 hx
    rcases in_cases a1 3 (by decide) with ⟨k, hk, rfl⟩ | h1
    · have hyk : (nI 0 ≤ nI k ∧ nI k ≤ nI 3) = True := eq_true (in_yes hk (by omega))
      have hset := x_cartSet (m := m) (o := o) hX (hC.cl n6) (by omega) n6 hs
      obtain ⟨g1, e1, p1⟩ := c_goers (m := m) (o := o) (mean := k) hX (fun g' hg => (hC.sc (by omega) hg).1) n6 (lt64 hs n6) (hC.cw (m := m) (o := o) (mean := k) hX (by omega) (by omega) n3 n6 (by omega)) g SC.rfl'
      obtain ⟨g2, e2, q1, q2, hML, hMS⟩ := hlay g1 (p1 189 (by omega) (by omega))
      have z97 : ∀ i, i ≠ 20 → g2 188 i = g 188 i := fun i hi => (q2 i hi).trans (by rw [p1 188 (by omega) (by omega)])
      have hM := hMS k (by omega) (upd2 g2 188 35 (nI k)) (fun a ha => uN ha) (by rw [uO (by omega)]; exact hML.1) (by rw [uO (by omega), z97 33 (by omega)]; exact hR.2.2.2.2.2.2.1) (by rw [uO (by omega), z97 34 (by omega)]; exact hR.2.2.2.2.2.2.2.1) uS
      have hML3 : ML n s (upd2 g2 188 35 (nI k)) := ⟨by rw [uO (by omega)]; exact hML.1, fun r hr => by rw [uN (by omega)]; exact hML.2 r hr⟩
      obtain ⟨g3, e3, p3⟩ := m_goers (m := m) (o := o) hML3 n6 (hM.mw (m := m) (o := o) n3 n6 (by omega)) _ SM.rfl'
      refine ⟨nI (goS n s (wV n ct sz sl sg rx k)), g1, m, o, upd2 g3 188 35 (nI 0), ?_, ?_, hR.keep ?_⟩
      · simp (disch := first | assumption | omega) only [f_X10_meant, kb_X10_meant_18, kb_X10_meant_0, KL, KB, KC, KI, KJ, KZ, bI_0, bI_n, nI00, nI10, ne_eq, Classical.not_not, not_true_eq_false, not_false_eq_true, if_true, if_false, ite_not, ite_self, Bool.false_eq_true, nIne1, O_fp, XO, O_st, c_at g m o c hc6, c_within, hyk, hset, e1]
      · simp (disch := first | assumption | omega) only [f_X11_meant, kb_X11_meant_16, kb_X11_meant_0, KL, KB, KC, KI, KJ, KZ, bI_0, bI_n, nI00, nI10, ne_eq, Classical.not_not, not_true_eq_false, not_false_eq_true, if_true, if_false, ite_not, ite_self, Bool.false_eq_true, nIne1, O_mo, m_isCrossing, m_isIn, hyc, hyk, e2, e3]
      · refine KEEP.of (fun a q r s t => ?_) (fun i hi => ?_)
        · rw [uN (by omega), p3 a (by omega) (by omega), uN (by omega), q1 a (by omega) (by omega), p1 a (by omega) (by omega)]
        · by_cases h35 : i = 35
          · subst h35
            rw [uS]
            exact hR.2.2.2.2.2.2.2.2.symm
          · rw [uO (by omega), p3 188 (by omega) (by omega), uO (by omega), z97 i (by omega)]
    · refine ⟨-1, g, m, o, g, ?_, ?_, RT_mono _ _ _ _ hR⟩
      · simp (disch := first | assumption | omega) only [f_X10_meant, kb_X10_meant_18, kb_X10_meant_0, KL, KB, KC, KI, KJ, KZ, bI_0, bI_n, nI00, nI10, ne_eq, Classical.not_not, not_true_eq_false, not_false_eq_true, if_true, if_false, ite_not, ite_self, Bool.false_eq_true, nIne1, O_fp, XO, c_at g m o c hc6, c_within, h1]
      · simp (disch := first | assumption | omega) only [f_X11_meant, kb_X11_meant_16, kb_X11_meant_0, KL, KB, KC, KI, KJ, KZ, bI_0, bI_n, nI00, nI10, ne_eq, Classical.not_not, not_true_eq_false, not_false_eq_true, if_true, if_false, ite_not, ite_self, Bool.false_eq_true, nIne1, O_mo, m_isCrossing, m_isIn, hyc, h1]
  · refine ⟨-1, g, m, o, g, ?_, ?_, RT_mono _ _ _ _ hR⟩
    · simp (disch := first | assumption | omega) only [f_X10_meant, kb_X10_meant_18, kb_X10_meant_0, KL, KB, KC, KI, KJ, KZ, bI_0, bI_n, nI00, nI10, ne_eq, Classical.not_not, not_true_eq_false, not_false_eq_true, if_true, if_false, ite_not, ite_self, Bool.false_eq_true, nIne1, O_fp, c_atN g m o a0 h0]
    · simp (disch := first | assumption | omega) only [f_X11_meant, kb_X11_meant_16, kb_X11_meant_0, KL, KB, KC, KI, KJ, KZ, bI_0, bI_n, nI00, nI10, ne_eq, Classical.not_not, not_true_eq_false, not_false_eq_true, if_true, if_false, ite_not, ite_self, Bool.false_eq_true, nIne1, O_mo, m_isCrossing, h0]
theorem ag_now (a0 a1 : Int32) : Ag RT f_X10_now f_X11_now [.int a0, .int a1] := by
  intro j g m o hj hR
  rcases in_cases a0 5 (by decide) with ⟨c, hc, rfl⟩ | h0
  · have hc6 : c < 6 := by omega
    have hX := isX_live c hc6
    have hyc : (nI 0 ≤ nI c ∧ nI c ≤ nI 5) = True := eq_true (in_yes hc (by omega))
    obtain ⟨n, hx⟩ := hR.at hc6
    obtain ⟨n3, n6, en, em, -⟩ := id hx
    obtain ⟨s, ct, sz, sl, sg, kx, rx, hs, hm, hC, hlay⟩ := hR.snap hj hc6 hx
    have hs64 := lt64 hs n6
    rcases in_cases a1 3 (by decide) with ⟨k, hk, rfl⟩ | h1
    · have hyk : (nI 0 ≤ nI k ∧ nI k ≤ nI 3) = True := eq_true (in_yes hk (by omega))
      have hset := x_cartSet (m := m) (o := o) hX (hC.cl n6) (by omega) n6 hs
      have hk' : k = 3 ∨ k = 0 ∨ k = 1 ∨ k = 2 := by omega
      have G64 : goS n s (wV n ct sz sl sg rx 0) < 64 := goS_lt64 n6
      rcases hk' with rfl | hk'
      · -- the class doesn't ask who may go
        obtain ⟨g2, e2, q1, q2, hML, hMS⟩ := hlay g rfl
        have hM := hMS 0 (by omega) g2 (fun _ _ => rfl) hML.1 (by rw [q2 33 (by omega)]; exact hR.2.2.2.2.2.2.1) (by rw [q2 34 (by omega)]; exact hR.2.2.2.2.2.2.2.1) (by rw [q2 35 (by omega)]; exact hR.2.2.2.2.2.2.2.2)
        obtain ⟨g3, e3, p3⟩ := m_goers (m := m) (o := o) hML n6 (hM.mw (m := m) (o := o) n3 n6 (by omega)) _ SM.rfl'
        have e4 := m_carts (m := m) (o := o) (hML.sm p3) n6 hs
        refine ⟨nI s, g, m, o, g3, ?_, ?_, hR.keep (lay_fin SC.rfl' q1 q2 p3)⟩
        · simp (disch := first | assumption | omega) only [f_X10_now, kb_X10_now_18, kb_X10_now_90, kb_X10_now_74, kb_X10_now_73, kb_X10_now_0, KL, KB, KC, KI, KJ, KZ, bI_0, bI_n, nI00, nI10, ne_eq, Classical.not_not, not_true_eq_false, not_false_eq_true, if_true, if_false, ite_not, ite_self, Bool.false_eq_true, nIne1, O_fp, XO, O_st, c_at g m o c hc6, c_within, hyk, hset, eq_self]
        · have sw : ∀ (k0 k1 k2 kd : KK) (ls st : List Value) (h : HP), kSw 0 [k0, k1, k2] kd ls (.int (nI 3) :: st) h = kd ls st h := fun _ _ _ _ _ _ _ => rfl
          simp (disch := first | assumption | omega) only [f_X11_now, kb_X11_now_16, kb_X11_now_74, kb_X11_now_73, kb_X11_now_89, kb_X11_now_0, KL, KB, KC, KI, KJ, KZ, bI_0, bI_n, nI00, nI10, ne_eq, Classical.not_not, not_true_eq_false, not_false_eq_true, if_true, if_false, ite_not, ite_self, Bool.false_eq_true, nIne1, O_mo, m_isCrossing, m_isIn, hyc, hyk, e2, e3, sw, e4]
      · obtain ⟨g1, e1, p1⟩ := c_goers (m := m) (o := o) (mean := 0) hX (fun g' hg => (hC.sc (by omega) hg).1) n6 (lt64 hs n6) (hC.cw (m := m) (o := o) (mean := 0) hX (by omega) (by omega) n3 n6 (by omega)) g SC.rfl'
        obtain ⟨g2, e2, q1, q2, hML, hMS⟩ := hlay g1 (p1 189 (by omega) (by omega))
        have z97 : ∀ i, i ≠ 20 → g2 188 i = g 188 i := fun i hi => (q2 i hi).trans (by rw [p1 188 (by omega) (by omega)])
        have hM := hMS 0 (by omega) g2 (fun _ _ => rfl) hML.1 (by rw [z97 33 (by omega)]; exact hR.2.2.2.2.2.2.1) (by rw [z97 34 (by omega)]; exact hR.2.2.2.2.2.2.2.1) (by rw [z97 35 (by omega)]; exact hR.2.2.2.2.2.2.2.2)
        obtain ⟨g3, e3, p3⟩ := m_goers (m := m) (o := o) hML n6 (hM.mw (m := m) (o := o) n3 n6 (by omega)) _ SM.rfl'
        have e4 := m_carts (m := m) (o := o) (hML.sm p3) n6 hs
        have hkeep := hR.keep (m' := m) (o' := o) (lay_fin p1 q1 q2 p3)
        have z00 : (nI 0 = nI 1) = False := eq_false (by decide)
        have z3 : (nI 0 = nI 3) = False := eq_false (by decide)
        have z31 : (nI 1 = nI 3) = False := eq_false (by decide)
        have z32 : (nI 2 = nI 3) = False := eq_false (by decide)
        have z20 : (nI 2 = 0) = False := eq_false (by decide)
        have z21 : (nI 2 = nI 1) = False := eq_false (by decide)
        have sw0 : ∀ (k0 k1 k2 kd : KK) (ls st : List Value) (h : HP), kSw 0 [k0, k1, k2] kd ls (.int (nI 0) :: st) h = k0 ls st h := fun _ _ _ _ _ _ _ => rfl
        have sw1 : ∀ (k0 k1 k2 kd : KK) (ls st : List Value) (h : HP), kSw 0 [k0, k1, k2] kd ls (.int (nI 1) :: st) h = k1 ls st h := fun _ _ _ _ _ _ _ => rfl
        have sw2 : ∀ (k0 k1 k2 kd : KK) (ls st : List Value) (h : HP), kSw 0 [k0, k1, k2] kd ls (.int (nI 2) :: st) h = k2 ls st h := fun _ _ _ _ _ _ _ => rfl
        rcases hk' with rfl | rfl | rfl
        · refine ⟨nI (goS n s (wV n ct sz sl sg rx 0)), g1, m, o, g3, ?_, ?_, hkeep⟩
          · simp (disch := first | assumption | omega) only [f_X10_now, kb_X10_now_18, kb_X10_now_90, kb_X10_now_74, kb_X10_now_73, kb_X10_now_0, KL, KB, KC, KI, KJ, KZ, bI_0, bI_n, nI00, nI10, ne_eq, Classical.not_not, not_true_eq_false, not_false_eq_true, if_true, if_false, ite_not, ite_self, Bool.false_eq_true, nIne1, O_fp, XO, O_st, c_at g m o c hc6, c_within, hyk, hset, e1, z3]
          · simp (disch := first | assumption | omega) only [f_X11_now, kb_X11_now_16, kb_X11_now_74, kb_X11_now_73, kb_X11_now_89, kb_X11_now_0, KL, KB, KC, KI, KJ, KZ, bI_0, bI_n, nI00, nI10, ne_eq, Classical.not_not, not_true_eq_false, not_false_eq_true, if_true, if_false, ite_not, ite_self, Bool.false_eq_true, nIne1, O_mo, m_isCrossing, m_isIn, hyc, hyk, e2, e3, sw0]
        · have hsz : (nI s = 0) = (s = 0) := nIk0 (by omega)
          have hgz : (nI (goS n s (wV n ct sz sl sg rx 0)) = 0) = (goS n s (wV n ct sz sl sg rx 0) = 0) := nIk0 (by omega)
          refine ⟨if s = 0 then nI 0 else if goS n s (wV n ct sz sl sg rx 0) = 0 then nI 1 else nI 0, g1, m, o, g3, ?_, ?_, hkeep⟩
          · simp (disch := first | assumption | omega) only [f_X10_now, kb_X10_now_18, kb_X10_now_90, kb_X10_now_74, kb_X10_now_73, kb_X10_now_0, KL, KB, KC, KI, KJ, KZ, bI_0, bI_n, nI00, nI10, ne_eq, Classical.not_not, not_true_eq_false, not_false_eq_true, if_true, if_false, ite_not, ite_self, Bool.false_eq_true, nIne1, O_fp, XO, O_st, c_at g m o c hc6, c_within, hyk, hset, e1, z31, hsz, hgz]
            by_cases hs0 : s = 0
            · simp only [hs0, if_true]
            · by_cases hg0 : goS n s (wV n ct sz sl sg rx 0) = 0
              · simp only [hs0, hg0, if_true, if_false]
              · simp only [hs0, hg0, if_false]
          · simp (disch := first | assumption | omega) only [f_X11_now, kb_X11_now_16, kb_X11_now_74, kb_X11_now_73, kb_X11_now_89, kb_X11_now_0, KL, KB, KC, KI, KJ, KZ, bI_0, bI_n, nI00, nI10, ne_eq, Classical.not_not, not_true_eq_false, not_false_eq_true, if_true, if_false, ite_not, ite_self, Bool.false_eq_true, nIne1, O_mo, m_isCrossing, m_isIn, hyc, hyk, e2, e3, sw1, e4, hsz, hgz]
            by_cases hs0 : s = 0
            · simp only [hs0, if_true]
            · by_cases hg0 : goS n s (wV n ct sz sl sg rx 0) = 0
              · simp only [hs0, hg0, if_true, if_false]
              · simp only [hs0, hg0, if_false]
        · have hC1 := hC.sc (by omega) p1
          have hcl1 := hC1.cl n6
          have e5 := c_firstF (m := m) (o := o) (tt := fun r => (ct r).1.1) hX hC1.1 n6 G64 (fun r hr hb => (hcl1.2 r hr).1 (goS_sub r hb))
          have hM3 := hM.sm (g' := g3) (fun a h1 h2 _ => p3 a h1 h2)
          have e6 := m_firstF (m := m) (o := o) (tt := fun r => (ct r).1.1) hM3.1 n6 G64 (fun r hr hb => hM3.tt n6 r hr (goS_sub r hb))
          refine ⟨if ffJ n (goS n s (wV n ct sz sl sg rx 0)) (fun x y => wayB x (ct x).1.1 y (ct y).1.1) = -1 then nI 0 else nI 1, g1, m, o, g3, ?_, ?_, hkeep⟩
          · simp (disch := first | assumption | omega) only [f_X10_now, kb_X10_now_18, kb_X10_now_90, kb_X10_now_74, kb_X10_now_73, kb_X10_now_0, KL, KB, KC, KI, KJ, KZ, bI_0, bI_n, nI00, nI10, ne_eq, Classical.not_not, not_true_eq_false, not_false_eq_true, if_true, if_false, ite_not, ite_self, Bool.false_eq_true, nIne1, O_fp, XO, O_st, c_at g m o c hc6, c_within, hyk, hset, e1, z32, z20, z21, e5]
            split <;> rfl
          · simp (disch := first | assumption | omega) only [f_X11_now, kb_X11_now_16, kb_X11_now_74, kb_X11_now_73, kb_X11_now_89, kb_X11_now_0, KL, KB, KC, KI, KJ, KZ, bI_0, bI_n, nI00, nI10, ne_eq, Classical.not_not, not_true_eq_false, not_false_eq_true, if_true, if_false, ite_not, ite_self, Bool.false_eq_true, nIne1, O_mo, m_isCrossing, m_isIn, hyc, hyk, e2, e3, sw2, e6]
            split <;> rfl
    · refine ⟨-1, g, m, o, g, ?_, ?_, RT_mono _ _ _ _ hR⟩
      · simp (disch := first | assumption | omega) only [f_X10_now, kb_X10_now_18, kb_X10_now_90, kb_X10_now_74, kb_X10_now_73, kb_X10_now_0, KL, KB, KC, KI, KJ, KZ, bI_0, bI_n, nI00, nI10, ne_eq, Classical.not_not, not_true_eq_false, not_false_eq_true, if_true, if_false, ite_not, ite_self, Bool.false_eq_true, nIne1, O_fp, XO, c_at g m o c hc6, c_within, h1]
      · simp (disch := first | assumption | omega) only [f_X11_now, kb_X11_now_16, kb_X11_now_74, kb_X11_now_73, kb_X11_now_89, kb_X11_now_0, KL, KB, KC, KI, KJ, KZ, bI_0, bI_n, nI00, nI10, ne_eq, Classical.not_not, not_true_eq_false, not_false_eq_true, if_true, if_false, ite_not, ite_self, Bool.false_eq_true, nIne1, O_mo, m_isCrossing, m_isIn, hyc, h1]
  · refine ⟨-1, g, m, o, g, ?_, ?_, RT_mono _ _ _ _ hR⟩
    · simp (disch := first | assumption | omega) only [f_X10_now, kb_X10_now_18, kb_X10_now_90, kb_X10_now_74, kb_X10_now_73, kb_X10_now_0, KL, KB, KC, KI, KJ, KZ, bI_0, bI_n, nI00, nI10, ne_eq, Classical.not_not, not_true_eq_false, not_false_eq_true, if_true, if_false, ite_not, ite_self, Bool.false_eq_true, nIne1, O_fp, c_atN g m o a0 h0]
    · simp (disch := first | assumption | omega) only [f_X11_now, kb_X11_now_16, kb_X11_now_74, kb_X11_now_73, kb_X11_now_89, kb_X11_now_0, KL, KB, KC, KI, KJ, KZ, bI_0, bI_n, nI00, nI10, ne_eq, Classical.not_not, not_true_eq_false, not_false_eq_true, if_true, if_false, ite_not, ite_self, Bool.false_eq_true, nIne1, O_mo, m_isCrossing, h0]
