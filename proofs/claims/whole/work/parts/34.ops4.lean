-- ===== cart, comer, link, days =====
theorem putC_ne {g : GG} {X r a : Nat} {q : Nat × Nat × Nat} {rk hb : Int32} (h : a ≠ X + 2) : putC g X r q rk hb a = g a := by
  simp (disch := assumption) only [putC, upd2_ne]
theorem putC_at {g : GG} {X r i : Nat} {q : Nat × Nat × Nat} {rk hb : Int32} (hr : r < 6) (h : i % 6 ≠ r) : putC g X r q rk hb (X + 2) i = g (X + 2) i := by
  simp (disch := omega) only [putC, upd2_other]
theorem stdM_ne {g : GG} {B a : Nat} {q : Nat × Nat × Nat} {rk hb : Int32} (h : a ≠ 189) : stdM g B q rk hb a = g a := by
  simp (disch := assumption) only [stdM, upd2_ne]
theorem stdM_at {g : GG} {B i : Nat} {q : Nat × Nat × Nat} {rk hb : Int32} (h : i < B + 18 ∨ B + 24 < i) : stdM g B q rk hb 189 i = g 189 i := by
  simp (disch := omega) only [stdM, upd2_other]
theorem XCa.put {g g' : GG} {X B n q q' r : Nat} (h : XCa g X 189 B n q) (hq : q ≤ q') {c' : Option ACart} (hr : r < 6) (hc : cartR g' X 189 B n r q' c') (h1 : ∀ i, i < 36 → i % 6 ≠ r → g' (X + 2) i = g (X + 2) i) (h2 : ∀ r2, r2 < 6 → r2 ≠ r → ∀ t, 18 ≤ t → t ≤ 24 → g' 189 (B + 92 * r2 + t) = g 189 (B + 92 * r2 + t)) : XCa g' X 189 B n q' := by
  intro r2 hr2
  by_cases e : r2 = r
  · subst e
    exact ⟨c', hc⟩
  · obtain ⟨c, hc2⟩ := h r2 hr2
    exact ⟨c, hc2.congr hr2 hq (fun t ht => h1 _ (by omega) (by omega)) (fun t a b => h2 r2 hr2 e t a b)⟩
theorem ag_cart (a0 a1 a2 a3 a4 a5 a6 : Int32) : Ag RT f_X10_cart f_X11_cart [.int a0, .int a1, .int a2, .int a3, .int a4, .int a5, .int a6] := by
  intro j g m o hj hR
  rcases in_cases a0 5 (by decide) with ⟨c, hc, rfl⟩ | h0
  · have hc6 : c < 6 := by omega
    have hX := isX_live c hc6
    obtain ⟨n, hx⟩ := hR.at hc6
    obtain ⟨n3, n6, en, em, fFa, fCa, fCo, fRo, fCt, fTo, fLi⟩ := id hx
    rcases in_cases a1 (n - 1) (by omega) with ⟨r, hr, rfl⟩ | h1
    · have hyr : (nI 0 ≤ nI r ∧ nI r ≤ nI (n - 1)) = True := eq_true (in_yes hr (by omega))
      by_cases hto : a2 = -1
      · refine ⟨nI 1, upd2 g (17 + 10 * c + 2) r (-1), m, o, upd2 (upd2 g (17 + 10 * c + 2) r (-1)) 189 (10 + 560 * c + 92 * r + 18) (nI 0), ?_, ?_, ?_⟩
        · simp (disch := first | assumption | omega) only [f_X10_cart, kb_X10_cart_21, kb_X10_cart_69, kb_X10_cart_90, kb_X10_cart_0, KL, KB, KC, KI, KJ, KZ, bI_0, bI_n, nI00, nI10, ne_eq, Classical.not_not, not_true_eq_false, not_false_eq_true, if_true, if_false, ite_not, ite_self, Bool.false_eq_true, nIne1, O_fp, XO, c_at g m o c hc6, x_hasRoad g m o _ n _ hX en, hyr, hto, nI_add, Nat.zero_add]
        · have em' : upd2 g (17 + 10 * c + 2) r (-1) 189 (10 + 560 * c + 552) = nI n := by simp (disch := omega) only [upd2_other]; exact em
          simp (disch := first | assumption | omega) only [f_X11_cart, kb_X11_cart_83, kb_X11_cart_0, KL, KB, KC, KI, KJ, KZ, bI_0, bI_n, nI00, nI10, ne_eq, Classical.not_not, not_true_eq_false, not_false_eq_true, if_true, if_false, ite_not, ite_self, Bool.false_eq_true, nIne1, O_mo, m_isRoad _ m o c n _ hc6 em', hyr, hto, m_set0]
        · refine hR.put (n := n) hc6 ⟨n3, n6, ?_, ?_, fFa.congr (fun i hi => ?_) (fun r2 hr2 t ht => ?_), fCa.put (r := r) (c' := none) (by omega) (by omega) ⟨?_, ?_⟩ (fun i _ _ => ?_) (fun r2 _ _ t _ _ => ?_), fCo.congr (fun i hi => ?_) (fun i hi => ?_) (fun r2 hr2 t _ _ => ?_), fRo.congr (fun i hi => ?_) (fun i hi => ?_) (fun r2 hr2 t _ _ => ?_), fCt.congr (by omega) (fun i hi => ?_) (fun r2 hr2 t _ _ => ?_), fTo.congr (by omega) (fun i hi => ?_) (fun t _ _ => ?_), fLi.congr (fun i hi => ?_) (fun r2 hr2 t _ _ => ?_)⟩ (fun a _ _ => ?_) (fun i _ _ => ?_) ?_ ?_ (fun i _ => ?_)
          all_goals simp (disch := omega) only [upd2_ne, upd2_other, upd2_same]
          · exact en
          · exact em
      · rcases in_cases a2 (n - 1) (by omega) with ⟨t, ht, rfl⟩ | h2
        · have hyt : (nI 0 ≤ nI t ∧ nI t ≤ nI (n - 1)) = True := eq_true (in_yes ht (by omega))
          have htn : (nI t = -1) = False := nIne1 (by omega)
          by_cases htr : t = r
          · have hrt : r = t := htr.symm
            refine ⟨nI 0, g, m, o, g, ?_, ?_, RT_mono _ _ _ _ hR⟩
            · simp (disch := first | assumption | omega) only [f_X10_cart, kb_X10_cart_21, kb_X10_cart_69, kb_X10_cart_90, kb_X10_cart_0, KL, KB, KC, KI, KJ, KZ, bI_0, bI_n, nI00, nI10, ne_eq, Classical.not_not, not_true_eq_false, not_false_eq_true, if_true, if_false, ite_not, ite_self, Bool.false_eq_true, nIne1, O_fp, XO, c_at g m o c hc6, x_hasRoad g m o _ n _ hX en, x_isWay g m o _ n _ _ hX en, hyr, hyt, htn, nIeq, hrt, and_false]
            · simp (disch := first | assumption | omega) only [f_X11_cart, kb_X11_cart_83, kb_X11_cart_0, KL, KB, KC, KI, KJ, KZ, bI_0, bI_n, nI00, nI10, ne_eq, Classical.not_not, not_true_eq_false, not_false_eq_true, if_true, if_false, ite_not, ite_self, Bool.false_eq_true, nIne1, O_mo, m_isRoad _ m o c n _ hc6 em, hyr, hyt, htn, nIeq, htr]
          · have hrt : ¬ r = t := fun q => htr q.symm
            rcases in_cases a3 3 (by decide) with ⟨s, hs, rfl⟩ | h3
            · have hys : (nI 0 ≤ nI s ∧ nI s ≤ nI 3) = True := eq_true (in_yes hs (by omega))
              rcases in_cases a4 9 (by decide) with ⟨l, hl, rfl⟩ | h4
              · have hyl : (nI 0 ≤ nI l ∧ nI l ≤ nI 9) = True := eq_true (in_yes hl (by omega))
                rcases in_cases a5 99 (by decide) with ⟨k, hk, rfl⟩ | h5
                · have hyk : (nI 0 ≤ nI k ∧ nI k ≤ nI 99) = True := eq_true (in_yes hk (by omega))
                  rcases in_cases a6 2 (by decide) with ⟨b, hb, rfl⟩ | h6
                  · have hyb : (nI 0 ≤ nI b ∧ nI b ≤ nI 2) = True := eq_true (in_yes hb (by omega))
                    refine ⟨nI 1, putC g (17 + 10 * c) r (t, s, l) (nI k) (nI b), m, o, stdM (putC g (17 + 10 * c) r (t, s, l) (nI k) (nI b)) (10 + 560 * c + 92 * r) (t, s, l) (nI k) (nI b), ?_, ?_, ?_⟩
                    · simp (disch := first | assumption | omega) only [f_X10_cart, kb_X10_cart_21, kb_X10_cart_69, kb_X10_cart_90, kb_X10_cart_0, KL, KB, KC, KI, KJ, KZ, bI_0, bI_n, nI00, nI10, ne_eq, Classical.not_not, not_true_eq_false, not_false_eq_true, if_true, if_false, ite_not, ite_self, Bool.false_eq_true, nIne1, O_fp, XO, c_at g m o c hc6, x_hasRoad g m o _ n _ hX en, x_isWay g m o _ n _ _ hX en, c_within, c_goodsOf, x_putCart g m o _ r (t, s, l) _ _ hX, hyr, hyt, hys, hyl, hyk, hyb, htn, nIeq, hrt, and_true]
                    · have em' : putC g (17 + 10 * c) r (t, s, l) (nI k) (nI b) 189 (10 + 560 * c + 552) = nI n := by rw [putC_ne (by omega)]; exact em
                      simp (disch := first | assumption | omega) only [f_X11_cart, kb_X11_cart_83, kb_X11_cart_0, KL, KB, KC, KI, KJ, KZ, bI_0, bI_n, nI00, nI10, ne_eq, Classical.not_not, not_true_eq_false, not_false_eq_true, if_true, if_false, ite_not, ite_self, Bool.false_eq_true, nIne1, O_mo, m_isRoad _ m o c n _ hc6 em', m_isIn, m_stands _ m o c r (t, s, l), hyr, hyt, hys, hyl, hyk, hyb, htn, nIeq, htr]
                    · refine hR.put (n := n) hc6 ⟨n3, n6, ?_, ?_, fFa.congr (fun i hi => ?_) (fun r2 hr2 t ht => ?_), fCa.put (r := r) (by omega) (by omega) (cart_put g (17 + 10 * c) (10 + 560 * c) n r (j + 1) (t, s, l) k b (by omega) (by omega) n6 ⟨by show t < n; omega, htr, hs, hl⟩ hk hb) (fun i _ _ => ?_) (fun r2 _ _ t _ _ => ?_), fCo.congr (fun i hi => ?_) (fun i hi => ?_) (fun r2 hr2 t _ _ => ?_), fRo.congr (fun i hi => ?_) (fun i hi => ?_) (fun r2 hr2 t _ _ => ?_), fCt.congr (by omega) (fun i hi => ?_) (fun r2 hr2 t _ _ => ?_), fTo.congr (by omega) (fun i hi => ?_) (fun t _ _ => ?_), fLi.congr (fun i hi => ?_) (fun r2 hr2 t _ _ => ?_)⟩ (fun a _ _ => ?_) (fun i _ _ => ?_) ?_ ?_ (fun i _ => ?_)
                      all_goals simp (disch := omega) only [stdM_ne, stdM_at, putC_ne, putC_at]
                      · exact en
                      · exact em
                  · refine ⟨nI 0, g, m, o, g, ?_, ?_, RT_mono _ _ _ _ hR⟩
                    · simp (disch := first | assumption | omega) only [f_X10_cart, kb_X10_cart_21, kb_X10_cart_69, kb_X10_cart_90, kb_X10_cart_0, KL, KB, KC, KI, KJ, KZ, bI_0, bI_n, nI00, nI10, ne_eq, Classical.not_not, not_true_eq_false, not_false_eq_true, if_true, if_false, ite_not, ite_self, Bool.false_eq_true, nIne1, O_fp, XO, c_at g m o c hc6, x_hasRoad g m o _ n _ hX en, x_isWay g m o _ n _ _ hX en, c_within, hyr, hyt, hys, hyl, hyk, h6, htn, nIeq, hrt, and_true]
                    · simp (disch := first | assumption | omega) only [f_X11_cart, kb_X11_cart_83, kb_X11_cart_0, KL, KB, KC, KI, KJ, KZ, bI_0, bI_n, nI00, nI10, ne_eq, Classical.not_not, not_true_eq_false, not_false_eq_true, if_true, if_false, ite_not, ite_self, Bool.false_eq_true, nIne1, O_mo, m_isRoad _ m o c n _ hc6 em, m_isIn, hyr, hyt, hys, hyl, hyk, h6, htn, nIeq, htr]
                · refine ⟨nI 0, g, m, o, g, ?_, ?_, RT_mono _ _ _ _ hR⟩
                  · simp (disch := first | assumption | omega) only [f_X10_cart, kb_X10_cart_21, kb_X10_cart_69, kb_X10_cart_90, kb_X10_cart_0, KL, KB, KC, KI, KJ, KZ, bI_0, bI_n, nI00, nI10, ne_eq, Classical.not_not, not_true_eq_false, not_false_eq_true, if_true, if_false, ite_not, ite_self, Bool.false_eq_true, nIne1, O_fp, XO, c_at g m o c hc6, x_hasRoad g m o _ n _ hX en, x_isWay g m o _ n _ _ hX en, c_within, hyr, hyt, hys, hyl, h5, htn, nIeq, hrt, and_true]
                  · simp (disch := first | assumption | omega) only [f_X11_cart, kb_X11_cart_83, kb_X11_cart_0, KL, KB, KC, KI, KJ, KZ, bI_0, bI_n, nI00, nI10, ne_eq, Classical.not_not, not_true_eq_false, not_false_eq_true, if_true, if_false, ite_not, ite_self, Bool.false_eq_true, nIne1, O_mo, m_isRoad _ m o c n _ hc6 em, m_isIn, hyr, hyt, hys, hyl, h5, htn, nIeq, htr]
              · refine ⟨nI 0, g, m, o, g, ?_, ?_, RT_mono _ _ _ _ hR⟩
                · simp (disch := first | assumption | omega) only [f_X10_cart, kb_X10_cart_21, kb_X10_cart_69, kb_X10_cart_90, kb_X10_cart_0, KL, KB, KC, KI, KJ, KZ, bI_0, bI_n, nI00, nI10, ne_eq, Classical.not_not, not_true_eq_false, not_false_eq_true, if_true, if_false, ite_not, ite_self, Bool.false_eq_true, nIne1, O_fp, XO, c_at g m o c hc6, x_hasRoad g m o _ n _ hX en, x_isWay g m o _ n _ _ hX en, c_within, hyr, hyt, hys, h4, htn, nIeq, hrt, and_true]
                · simp (disch := first | assumption | omega) only [f_X11_cart, kb_X11_cart_83, kb_X11_cart_0, KL, KB, KC, KI, KJ, KZ, bI_0, bI_n, nI00, nI10, ne_eq, Classical.not_not, not_true_eq_false, not_false_eq_true, if_true, if_false, ite_not, ite_self, Bool.false_eq_true, nIne1, O_mo, m_isRoad _ m o c n _ hc6 em, m_isIn, hyr, hyt, hys, h4, htn, nIeq, htr]
            · refine ⟨nI 0, g, m, o, g, ?_, ?_, RT_mono _ _ _ _ hR⟩
              · simp (disch := first | assumption | omega) only [f_X10_cart, kb_X10_cart_21, kb_X10_cart_69, kb_X10_cart_90, kb_X10_cart_0, KL, KB, KC, KI, KJ, KZ, bI_0, bI_n, nI00, nI10, ne_eq, Classical.not_not, not_true_eq_false, not_false_eq_true, if_true, if_false, ite_not, ite_self, Bool.false_eq_true, nIne1, O_fp, XO, c_at g m o c hc6, x_hasRoad g m o _ n _ hX en, x_isWay g m o _ n _ _ hX en, c_within, hyr, hyt, h3, htn, nIeq, hrt, and_true]
              · simp (disch := first | assumption | omega) only [f_X11_cart, kb_X11_cart_83, kb_X11_cart_0, KL, KB, KC, KI, KJ, KZ, bI_0, bI_n, nI00, nI10, ne_eq, Classical.not_not, not_true_eq_false, not_false_eq_true, if_true, if_false, ite_not, ite_self, Bool.false_eq_true, nIne1, O_mo, m_isRoad _ m o c n _ hc6 em, m_isIn, hyr, hyt, h3, htn, nIeq, htr]
        · refine ⟨nI 0, g, m, o, g, ?_, ?_, RT_mono _ _ _ _ hR⟩
          · simp (disch := first | assumption | omega) only [f_X10_cart, kb_X10_cart_21, kb_X10_cart_69, kb_X10_cart_90, kb_X10_cart_0, KL, KB, KC, KI, KJ, KZ, bI_0, bI_n, nI00, nI10, ne_eq, Classical.not_not, not_true_eq_false, not_false_eq_true, if_true, if_false, ite_not, ite_self, Bool.false_eq_true, nIne1, O_fp, XO, c_at g m o c hc6, x_hasRoad g m o _ n _ hX en, x_isWay g m o _ n _ _ hX en, hyr, h2, hto, and_false, false_and]
          · simp (disch := first | assumption | omega) only [f_X11_cart, kb_X11_cart_83, kb_X11_cart_0, KL, KB, KC, KI, KJ, KZ, bI_0, bI_n, nI00, nI10, ne_eq, Classical.not_not, not_true_eq_false, not_false_eq_true, if_true, if_false, ite_not, ite_self, Bool.false_eq_true, nIne1, O_mo, m_isRoad _ m o c n _ hc6 em, hyr, h2, hto]
    · refine ⟨nI 0, g, m, o, g, ?_, ?_, RT_mono _ _ _ _ hR⟩
      · simp (disch := first | assumption | omega) only [f_X10_cart, kb_X10_cart_21, kb_X10_cart_69, kb_X10_cart_90, kb_X10_cart_0, KL, KB, KC, KI, KJ, KZ, bI_0, bI_n, nI00, nI10, ne_eq, Classical.not_not, not_true_eq_false, not_false_eq_true, if_true, if_false, ite_not, ite_self, Bool.false_eq_true, nIne1, O_fp, XO, c_at g m o c hc6, x_hasRoad g m o _ n _ hX en, h1]
      · simp (disch := first | assumption | omega) only [f_X11_cart, kb_X11_cart_83, kb_X11_cart_0, KL, KB, KC, KI, KJ, KZ, bI_0, bI_n, nI00, nI10, ne_eq, Classical.not_not, not_true_eq_false, not_false_eq_true, if_true, if_false, ite_not, ite_self, Bool.false_eq_true, nIne1, O_mo, m_isRoad _ m o c n _ hc6 em, h1]
  · refine ⟨nI 0, g, m, o, g, ?_, ?_, RT_mono _ _ _ _ hR⟩
    · simp (disch := first | assumption | omega) only [f_X10_cart, kb_X10_cart_21, kb_X10_cart_69, kb_X10_cart_90, kb_X10_cart_0, KL, KB, KC, KI, KJ, KZ, bI_0, bI_n, nI00, nI10, ne_eq, Classical.not_not, not_true_eq_false, not_false_eq_true, if_true, if_false, ite_not, ite_self, Bool.false_eq_true, nIne1, O_fp, c_atN g m o a0 h0]
    · simp (disch := first | assumption | omega) only [f_X11_cart, kb_X11_cart_83, kb_X11_cart_0, KL, KB, KC, KI, KJ, KZ, bI_0, bI_n, nI00, nI10, ne_eq, Classical.not_not, not_true_eq_false, not_false_eq_true, if_true, if_false, ite_not, ite_self, Bool.false_eq_true, nIne1, O_mo, m_isRoadN g m o a0 a1 h0]
