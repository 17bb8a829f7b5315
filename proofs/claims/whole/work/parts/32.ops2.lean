-- ===== of, road, fight, cart, comer, link, days =====
theorem x_hasCart (g : GG) (m o X n r : Nat) (hX : isX X) (hn : g X 0 = nI n) (h6 : n ≤ 6) (hr : r < n) : f_X1_hasCart [.ref X, .int (nI r)] (hp g m o) = some (some (.int (bI (g (X + 2) r ≠ -1))), hp g m o) := by
  have hy : (nI 0 ≤ nI r ∧ nI r ≤ nI (n - 1)) = True := eq_true (in_yes (by omega) (by omega))
  simp (disch := first | assumption | omega) only [f_X1_hasCart, kb_X1_hasCart_25, kb_X1_hasCart_24, kb_X1_hasCart_0, KL, KB, KC, KI, KJ, KZ, bI_0, bI_n, nI00, nI10, ne_eq, Classical.not_not, not_true_eq_false, not_false_eq_true, if_true, if_false, ite_not, ite_self, Bool.false_eq_true, XO, x_hasRoad g m o X n _ hX hn, hy, nI_add, Nat.zero_add]
  by_cases h : g (X + 2) r = -1
  · rw [if_pos h, bI_f (fun q => q h)]
  · rw [if_neg h, bI_t h]
def putC (g : GG) (X r : Nat) (q : Nat × Nat × Nat) (rk hb : Int32) : GG := upd2 (upd2 (upd2 (upd2 (upd2 (upd2 g (X + 2) r (nI q.1)) (X + 2) (6 + r) (nI q.2.1)) (X + 2) (12 + r) (nI q.2.2)) (X + 2) (18 + r) rk) (X + 2) (24 + r) hb) (X + 2) (30 + r) (nI 0)
theorem x_putCart (g : GG) (m o X r : Nat) (q : Nat × Nat × Nat) (rk hb : Int32) (hX : isX X) (hr : r < 6) (ht : q.1 < 10) (hs : q.2.1 ≤ 3) (hl : q.2.2 ≤ 9) : f_X1_putCart [.ref X, .int (nI r), .int (nI (goodsN q)), .int rk, .int hb] (hp g m o) = some (none, hp (putC g X r q rk hb) m o) := by
  simp (disch := first | assumption | omega) only [f_X1_putCart, kb_X1_putCart_0, KL, KB, KC, KI, KJ, KZ, bI_0, bI_n, nI00, nI10, ne_eq, Classical.not_not, not_true_eq_false, not_false_eq_true, if_true, if_false, ite_not, ite_self, Bool.false_eq_true, XO, nI_add, Nat.zero_add, c_toIn, c_sortIn, c_loadIn, putC]
def stdM (g : GG) (B : Nat) (q : Nat × Nat × Nat) (rk hb : Int32) : GG := upd2 (upd2 (upd2 (upd2 (upd2 (upd2 (upd2 g 189 (B + 18) (nI 1)) 189 (B + 19) (nI q.1)) 189 (B + 20) (nI q.2.1)) 189 (B + 21) (nI q.2.2)) 189 (B + 22) rk) 189 (B + 23) hb) 189 (B + 24) (nI 0)
theorem m_stands (g : GG) (m o c r : Nat) (q : Nat × Nat × Nat) (rk hb : Int32) (hc : c < 6) (hr : r < 6) : f_X11_stands [.ref 188, .int (nI c), .int (nI r), .int (nI q.1), .int (nI q.2.1), .int (nI q.2.2), .int rk, .int hb] (hp g m o) = some (none, hp (stdM g (10 + 560 * c + 92 * r) q rk hb) m o) := by
  simp (disch := omega) only [f_X11_stands, kb_X11_stands_0, KL, KB, KC, KI, KJ, KZ, bI_0, bI_n, nI00, nI10, ne_eq, Classical.not_not, not_true_eq_false, not_false_eq_true, if_true, if_false, ite_not, ite_self, Bool.false_eq_true, O_mo, m_set0, stdM]
theorem cart_put (g : GG) (X B n r q : Nat) (go : Nat × Nat × Nat) (rk hb : Nat) (hX : X + 2 < 181) (hr : r < n) (h6 : n ≤ 6) (ho : okGo n r go) (h1 : rk ≤ 99) (h2 : hb ≤ 2) : cartR (stdM (putC g X r go (nI rk) (nI hb)) (B + 92 * r) go (nI rk) (nI hb)) X 189 B n r q (some (go, rk, hb, 0)) := by
  refine ⟨hr, ho, h1, h2, Nat.zero_le _, ?_, ?_, ?_, ?_, ?_, ?_, ?_, ?_, ?_, ?_, ?_, ?_, ?_⟩
  all_goals simp (disch := omega) only [stdM, putC, upd2_same, upd2_other]
theorem ag_of (a0 a1 a2 : Int32) : Ag RT f_X10_of f_X11_of [.int a0, .int a1, .int a2] := by
  intro j g m o hj hR
  rcases in_cases a0 5 (by decide) with ⟨c, hc, rfl⟩ | h0
  · have hc6 : c < 6 := by omega
    have hX := isX_live c hc6
    obtain ⟨n, hx⟩ := hR.1.2.2.2 c hc6
    simp only [Nat.zero_add] at hx
    obtain ⟨n3, n6, en, em, fFa, fCa, fCo, fRo, fCt, fTo, fLi⟩ := id hx
    rcases in_cases a1 (n - 1) (by omega) with ⟨r, hr, rfl⟩ | h1
    · have hyr : (nI 0 ≤ nI r ∧ nI r ≤ nI (n - 1)) = True := eq_true (in_yes hr (by omega))
      rcases in_cases a2 5 (by decide) with ⟨w, hw, rfl⟩ | h2
      · have hyw : (nI 0 ≤ nI w ∧ nI w ≤ nI 5) = True := eq_true (in_yes hw (by omega))
        obtain ⟨cc, hcc⟩ := fCa r (by omega)
        cases cc with
        | none =>
          obtain ⟨e1, e2⟩ := hcc
          refine ⟨-1, g, m, o, g, ?_, ?_, RT_mono _ _ _ _ hR⟩
          · simp (disch := first | assumption | omega) only [f_X10_of, kb_X10_of_29, kb_X10_of_57, kb_X10_of_0, KL, KB, KC, KI, KJ, KZ, bI_0, bI_n, nI00, nI10, ne_eq, Classical.not_not, not_true_eq_false, not_false_eq_true, if_true, if_false, ite_not, ite_self, Bool.false_eq_true, O_fp, XO, c_at g m o c hc6, x_hasRoad g m o _ n _ hX en, x_hasCart g m o _ n r hX en, c_within, hyr, hyw, e1]
          · simp (disch := first | assumption | omega) only [f_X11_of, kb_X11_of_48, kb_X11_of_18, kb_X11_of_0, KL, KB, KC, KI, KJ, KZ, bI_0, bI_n, nI00, nI10, ne_eq, Classical.not_not, not_true_eq_false, not_false_eq_true, if_true, if_false, ite_not, ite_self, Bool.false_eq_true, O_mo, m_isRoad g m o c n _ hc6 em, m_isIn, m_get, hyr, hyw, e2]
        | some cc =>
          obtain ⟨b1, b2, b3, b4, b5, k0, k1, k2, k3, k4, k5, m0, m1, m2, m3, m4, m5, m6⟩ := hcc
          have hne : (g (17 + 10 * c + 2) r = -1) = False := by rw [k0]; exact nIne1 (by have := b2.1; omega)
          have key : ∃ v, g (17 + 10 * c + 2) (w * 6 + r) = v ∧ g 189 (10 + 560 * c + 92 * r + (19 + w)) = v := by
            have hw' : w = 0 ∨ w = 1 ∨ w = 2 ∨ w = 3 ∨ w = 4 ∨ w = 5 := by omega
            rcases hw' with rfl | rfl | rfl | rfl | rfl | rfl
            · exact ⟨_, by rw [Nat.zero_mul, Nat.zero_add]; exact k0, m1⟩
            · exact ⟨_, k1, m2⟩
            · exact ⟨_, k2, m3⟩
            · exact ⟨_, k3, m4⟩
            · exact ⟨_, k4, m5⟩
            · exact ⟨_, k5, m6⟩
          obtain ⟨v, v1, v2⟩ := key
          refine ⟨v, g, m, o, g, ?_, ?_, RT_mono _ _ _ _ hR⟩
          · simp (disch := first | assumption | omega) only [f_X10_of, kb_X10_of_29, kb_X10_of_57, kb_X10_of_0, KL, KB, KC, KI, KJ, KZ, bI_0, bI_n, nI00, nI10, ne_eq, Classical.not_not, not_true_eq_false, not_false_eq_true, if_true, if_false, ite_not, ite_self, Bool.false_eq_true, O_fp, XO, c_at g m o c hc6, x_hasRoad g m o _ n _ hX en, x_hasCart g m o _ n r hX en, c_within, hyr, hyw, hne, nI_mul, nI_add, v1]
          · simp (disch := first | assumption | omega) only [f_X11_of, kb_X11_of_48, kb_X11_of_18, kb_X11_of_0, KL, KB, KC, KI, KJ, KZ, bI_0, bI_n, nI00, nI10, ne_eq, Classical.not_not, not_true_eq_false, not_false_eq_true, if_true, if_false, ite_not, ite_self, Bool.false_eq_true, O_mo, m_isRoad g m o c n _ hc6 em, m_isIn, m_get, hyr, hyw, m0, nI_add, v2]
      · refine ⟨-2, g, m, o, g, ?_, ?_, RT_mono _ _ _ _ hR⟩
        · simp (disch := first | assumption | omega) only [f_X10_of, kb_X10_of_29, kb_X10_of_57, kb_X10_of_0, KL, KB, KC, KI, KJ, KZ, bI_0, bI_n, nI00, nI10, ne_eq, Classical.not_not, not_true_eq_false, not_false_eq_true, if_true, if_false, ite_not, ite_self, Bool.false_eq_true, O_fp, XO, c_at g m o c hc6, x_hasRoad g m o _ n _ hX en, c_within, hyr, h2]
        · simp (disch := first | assumption | omega) only [f_X11_of, kb_X11_of_48, kb_X11_of_18, kb_X11_of_0, KL, KB, KC, KI, KJ, KZ, bI_0, bI_n, nI00, nI10, ne_eq, Classical.not_not, not_true_eq_false, not_false_eq_true, if_true, if_false, ite_not, ite_self, Bool.false_eq_true, O_mo, m_isRoad g m o c n _ hc6 em, m_isIn, hyr, h2]
    · refine ⟨-2, g, m, o, g, ?_, ?_, RT_mono _ _ _ _ hR⟩
      · simp (disch := first | assumption | omega) only [f_X10_of, kb_X10_of_29, kb_X10_of_57, kb_X10_of_0, KL, KB, KC, KI, KJ, KZ, bI_0, bI_n, nI00, nI10, ne_eq, Classical.not_not, not_true_eq_false, not_false_eq_true, if_true, if_false, ite_not, ite_self, Bool.false_eq_true, O_fp, XO, c_at g m o c hc6, x_hasRoad g m o _ n _ hX en, h1]
      · simp (disch := first | assumption | omega) only [f_X11_of, kb_X11_of_48, kb_X11_of_18, kb_X11_of_0, KL, KB, KC, KI, KJ, KZ, bI_0, bI_n, nI00, nI10, ne_eq, Classical.not_not, not_true_eq_false, not_false_eq_true, if_true, if_false, ite_not, ite_self, Bool.false_eq_true, O_mo, m_isRoad g m o c n _ hc6 em, h1]
  · refine ⟨-2, g, m, o, g, ?_, ?_, RT_mono _ _ _ _ hR⟩
    · simp (disch := first | assumption | omega) only [f_X10_of, kb_X10_of_29, kb_X10_of_57, kb_X10_of_0, KL, KB, KC, KI, KJ, KZ, bI_0, bI_n, nI00, nI10, ne_eq, Classical.not_not, not_true_eq_false, not_false_eq_true, if_true, if_false, ite_not, ite_self, Bool.false_eq_true, O_fp, c_atN g m o a0 h0]
    · simp (disch := first | assumption | omega) only [f_X11_of, kb_X11_of_48, kb_X11_of_18, kb_X11_of_0, KL, KB, KC, KI, KJ, KZ, bI_0, bI_n, nI00, nI10, ne_eq, Classical.not_not, not_true_eq_false, not_false_eq_true, if_true, if_false, ite_not, ite_self, Bool.false_eq_true, O_mo, m_isRoadN g m o a0 a1 h0]
