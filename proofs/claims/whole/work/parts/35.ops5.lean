-- ===== comer, link, days =====
theorem goodsR.push {g g' : GG} {a i0 w j0 n r : Nat} {l : List (Nat × Nat × Nat)} (h : goodsR g a i0 w j0 n r l) (z : Nat × Nat × Nat) (hz : okGo n r z) (h1 : ∀ i, i < l.length → g' a (i0 + i) = g a (i0 + i)) (h2 : ∀ i, i < 3 * l.length → g' w (j0 + i) = g w (j0 + i)) (e0 : g' a (i0 + l.length) = nI (goodsN z)) (e1 : g' w (j0 + 3 * l.length) = nI z.1) (e2 : g' w (j0 + 3 * l.length + 1) = nI z.2.1) (e3 : g' w (j0 + 3 * l.length + 2) = nI z.2.2) : goodsR g' a i0 w j0 n r (l ++ [z]) := by
  intro i y hy
  by_cases hi : i < l.length
  · rw [List.getElem?_append_left hi] at hy
    exact (h.congr h1 h2) i y hy
  · rw [List.getElem?_append_right (by omega)] at hy
    have hz2 : i - l.length < 1 := (List.getElem?_eq_some_iff.mp hy).1
    have hi2 : i = l.length := by omega
    subst hi2
    rw [Nat.sub_self] at hy
    cases hy
    exact ⟨hz, e0, e1, e2, e3⟩
theorem ag_comer (a0 a1 a2 a3 a4 : Int32) : Ag RT f_X10_comer f_X11_comer [.int a0, .int a1, .int a2, .int a3, .int a4] := by
  intro j g m o hj hR
  rcases in_cases a0 5 (by decide) with ⟨c, hc, rfl⟩ | h0
  · have hc6 : c < 6 := by omega
    have hX := isX_live c hc6
    obtain ⟨n, hx⟩ := hR.at hc6
    obtain ⟨n3, n6, en, em, fFa, fCa, fCo, fRo, fCt, fTo, fLi⟩ := id hx
    rcases in_cases a1 (n - 1) (by omega) with ⟨r, hr, rfl⟩ | h1
    · have hyr : (nI 0 ≤ nI r ∧ nI r ≤ nI (n - 1)) = True := eq_true (in_yes hr (by omega))
      obtain ⟨L, l1, l2, l3, l4, l5⟩ := fCo r (by omega)
      by_cases hto : a2 = -1
      · refine ⟨nI 0, upd2 g (17 + 10 * c + 4) r (nI 0), m, o, upd2 (upd2 g (17 + 10 * c + 4) r (nI 0)) 189 (10 + 560 * c + 92 * r + 5) (nI 0), ?_, ?_, ?_⟩
        · simp (disch := first | assumption | omega) only [f_X10_comer, kb_X10_comer_21, kb_X10_comer_67, kb_X10_comer_0, KL, KB, KC, KI, KJ, KZ, bI_0, bI_n, nI00, nI10, ne_eq, Classical.not_not, not_true_eq_false, not_false_eq_true, if_true, if_false, ite_not, ite_self, Bool.false_eq_true, nIne1, O_fp, XO, c_at g m o c hc6, x_hasRoad g m o _ n _ hX en, hyr, hto, nI_add, Nat.zero_add]
        · have em' : upd2 g (17 + 10 * c + 4) r (nI 0) 189 (10 + 560 * c + 552) = nI n := by simp (disch := omega) only [upd2_other]; exact em
          simp (disch := first | assumption | omega) only [f_X11_comer, kb_X11_comer_76, kb_X11_comer_78, kb_X11_comer_0, KL, KB, KC, KI, KJ, KZ, bI_0, bI_n, nI00, nI10, ne_eq, Classical.not_not, not_true_eq_false, not_false_eq_true, if_true, if_false, ite_not, ite_self, Bool.false_eq_true, nIne1, O_mo, m_isRoad _ m o c n _ hc6 em', hyr, hto, m_set0]
        · refine hR.put (n := n) hc6 ⟨n3, n6, ?_, ?_, fFa.congr (fun i hi => ?_) (fun r2 hr2 t ht => ?_), fCa.congr (by omega) (fun i hi => ?_) (fun r2 hr2 t _ _ => ?_), fun r2 hr2 => ?_, fRo.congr (fun i hi => ?_) (fun i hi => ?_) (fun r2 hr2 t _ _ => ?_), fCt.congr (by omega) (fun i hi => ?_) (fun r2 hr2 t _ _ => ?_), fTo.congr (by omega) (fun i hi => ?_) (fun t _ _ => ?_), fLi.congr (fun i hi => ?_) (fun r2 hr2 t _ _ => ?_)⟩ (fun a _ _ => ?_) (fun i _ _ => ?_) ?_ ?_ (fun i _ => ?_)
          case refine_7 =>
            by_cases e : r2 = r
            · subst e
              refine ⟨[], Nat.zero_le _, fun _ => rfl, ?_, ?_, fun i z hz => by simp at hz⟩
              · simp (disch := omega) only [upd2_other, upd2_same]; rfl
              · simp (disch := omega) only [upd2_other, upd2_same]; rfl
            · obtain ⟨K, k1, k2, k3, k4, k5⟩ := fCo r2 hr2
              refine ⟨K, k1, k2, ?_, ?_, k5.congr (fun i hi => ?_) (fun i hi => ?_)⟩
              all_goals simp (disch := omega) only [upd2_ne, upd2_other]
              · exact k3
              · exact k4
          all_goals simp (disch := omega) only [upd2_ne, upd2_other, upd2_same]
          · exact en
          · exact em
      · rcases in_cases a2 (n - 1) (by omega) with ⟨t, ht, rfl⟩ | h2
        · have hyt : (nI 0 ≤ nI t ∧ nI t ≤ nI (n - 1)) = True := eq_true (in_yes ht (by omega))
          by_cases htr : t = r
          · have hrt : r = t := htr.symm
            refine ⟨-1, g, m, o, g, ?_, ?_, RT_mono _ _ _ _ hR⟩
            · simp (disch := first | assumption | omega) only [f_X10_comer, kb_X10_comer_21, kb_X10_comer_67, kb_X10_comer_0, KL, KB, KC, KI, KJ, KZ, bI_0, bI_n, nI00, nI10, ne_eq, Classical.not_not, not_true_eq_false, not_false_eq_true, if_true, if_false, ite_not, ite_self, Bool.false_eq_true, nIne1, O_fp, XO, c_at g m o c hc6, x_hasRoad g m o _ n _ hX en, x_isWay g m o _ n _ _ hX en, hyr, hyt, nIeq, hrt, and_false]
            · simp (disch := first | assumption | omega) only [f_X11_comer, kb_X11_comer_76, kb_X11_comer_78, kb_X11_comer_0, KL, KB, KC, KI, KJ, KZ, bI_0, bI_n, nI00, nI10, ne_eq, Classical.not_not, not_true_eq_false, not_false_eq_true, if_true, if_false, ite_not, ite_self, Bool.false_eq_true, nIne1, O_mo, m_isRoad _ m o c n _ hc6 em, m_get, hyr, hyt, nIeq, htr]
          · have hrt : ¬ r = t := fun q => htr q.symm
            rcases in_cases a3 3 (by decide) with ⟨s, hs, rfl⟩ | h3
            · have hys : (nI 0 ≤ nI s ∧ nI s ≤ nI 3) = True := eq_true (in_yes hs (by omega))
              rcases in_cases a4 9 (by decide) with ⟨l, hl, rfl⟩ | h4
              · have hyl : (nI 0 ≤ nI l ∧ nI l ≤ nI 9) = True := eq_true (in_yes hl (by omega))
                by_cases hfull : L.length = 2
                · have hle : (nI L.length ≤ nI 1) = False := by rw [nIle (by omega) (by omega)]; exact eq_false (by omega)
                  refine ⟨-1, g, m, o, g, ?_, ?_, RT_mono _ _ _ _ hR⟩
                  · simp (disch := first | assumption | omega) only [f_X10_comer, kb_X10_comer_21, kb_X10_comer_67, kb_X10_comer_0, KL, KB, KC, KI, KJ, KZ, bI_0, bI_n, nI00, nI10, ne_eq, Classical.not_not, not_true_eq_false, not_false_eq_true, if_true, if_false, ite_not, ite_self, Bool.false_eq_true, nIne1, O_fp, XO, c_at g m o c hc6, x_hasRoad g m o _ n _ hX en, x_isWay g m o _ n _ _ hX en, c_within, hyr, hyt, hys, hyl, nIeq, hrt, and_true, l3, hle]
                  · simp (disch := first | assumption | omega) only [f_X11_comer, kb_X11_comer_76, kb_X11_comer_78, kb_X11_comer_0, KL, KB, KC, KI, KJ, KZ, bI_0, bI_n, nI00, nI10, ne_eq, Classical.not_not, not_true_eq_false, not_false_eq_true, if_true, if_false, ite_not, ite_self, Bool.false_eq_true, nIne1, O_mo, m_isRoad _ m o c n _ hc6 em, m_isIn, m_get, hyr, hyt, hys, hyl, nIeq, htr, l4, hfull]
                · have hle : (nI L.length ≤ nI 1) = True := by rw [nIle (by omega) (by omega)]; exact eq_true (by omega)
                  refine ⟨nI (L.length + 1), upd2 (upd2 g (17 + 10 * c + 3) (2 * r + L.length) (nI (goodsN (t, s, l)))) (17 + 10 * c + 4) r (nI (L.length + 1)), m, o, upd2 (upd2 (upd2 (upd2 (upd2 (upd2 g (17 + 10 * c + 3) (2 * r + L.length) (nI (goodsN (t, s, l)))) (17 + 10 * c + 4) r (nI (L.length + 1))) 189 (10 + 560 * c + 92 * r + (6 + 3 * L.length)) (nI t)) 189 (10 + 560 * c + 92 * r + (6 + 3 * L.length + 1)) (nI s)) 189 (10 + 560 * c + 92 * r + (6 + 3 * L.length + 2)) (nI l)) 189 (10 + 560 * c + 92 * r + 5) (nI (L.length + 1)), ?_, ?_, ?_⟩
                  · simp (disch := first | assumption | omega) only [f_X10_comer, kb_X10_comer_21, kb_X10_comer_67, kb_X10_comer_0, KL, KB, KC, KI, KJ, KZ, bI_0, bI_n, nI00, nI10, ne_eq, Classical.not_not, not_true_eq_false, not_false_eq_true, if_true, if_false, ite_not, ite_self, Bool.false_eq_true, nIne1, O_fp, XO, c_at g m o c hc6, x_hasRoad g m o _ n _ hX en, x_isWay g m o _ n _ _ hX en, c_within, c_goodsOf, hyr, hyt, hys, hyl, nIeq, hrt, and_true, l3, hle, nI_mul, nI_add]
                  · have em' : upd2 (upd2 g (17 + 10 * c + 3) (2 * r + L.length) (nI (goodsN (t, s, l)))) (17 + 10 * c + 4) r (nI (L.length + 1)) 189 (10 + 560 * c + 552) = nI n := by simp (disch := omega) only [upd2_other]; exact em
                    have l4' : upd2 (upd2 g (17 + 10 * c + 3) (2 * r + L.length) (nI (goodsN (t, s, l)))) (17 + 10 * c + 4) r (nI (L.length + 1)) 189 (10 + 560 * c + 92 * r + 5) = nI L.length := by simp (disch := omega) only [upd2_other]; exact l4
                    simp (disch := first | assumption | omega) only [f_X11_comer, kb_X11_comer_76, kb_X11_comer_78, kb_X11_comer_0, KL, KB, KC, KI, KJ, KZ, bI_0, bI_n, nI00, nI10, ne_eq, Classical.not_not, not_true_eq_false, not_false_eq_true, if_true, if_false, ite_not, ite_self, Bool.false_eq_true, nIne1, O_mo, m_isRoad _ m o c n _ hc6 em', m_isIn, m_get, m_set0, hyr, hyt, hys, hyl, nIeq, htr, l4', hfull, nI_mul, nI_add]
                  · refine hR.put (n := n) hc6 ⟨n3, n6, ?_, ?_, fFa.congr (fun i hi => ?_) (fun r2 hr2 t ht => ?_), fCa.congr (by omega) (fun i hi => ?_) (fun r2 hr2 t _ _ => ?_), fun r2 hr2 => ?_, fRo.congr (fun i hi => ?_) (fun i hi => ?_) (fun r2 hr2 t _ _ => ?_), fCt.congr (by omega) (fun i hi => ?_) (fun r2 hr2 t _ _ => ?_), fTo.congr (by omega) (fun i hi => ?_) (fun t _ _ => ?_), fLi.congr (fun i hi => ?_) (fun r2 hr2 t _ _ => ?_)⟩ (fun a _ _ => ?_) (fun i _ _ => ?_) ?_ ?_ (fun i _ => ?_)
                    case refine_7 =>
                      by_cases e : r2 = r
                      · subst e
                        refine ⟨L ++ [(t, s, l)], by rw [List.length_append, List.length_singleton]; omega, fun q => by omega, ?_, ?_, l5.push (t, s, l) ⟨by show t < n; omega, htr, hs, hl⟩ (fun i hi => ?_) (fun i hi => ?_) ?_ ?_ ?_ ?_⟩
                        · rw [List.length_append]; simp (disch := omega) only [upd2_other, upd2_same]; rfl
                        · rw [List.length_append]; simp (disch := omega) only [upd2_other, upd2_same]; rfl
                        all_goals simp (disch := omega) only [upd2_ne, upd2_other, Nat.add_assoc, upd2_same]
                      · obtain ⟨K, k1, k2, k3, k4, k5⟩ := fCo r2 hr2
                        refine ⟨K, k1, k2, ?_, ?_, k5.congr (fun i hi => ?_) (fun i hi => ?_)⟩
                        all_goals simp (disch := omega) only [upd2_ne, upd2_other]
                        · exact k3
                        · exact k4
                    all_goals simp (disch := omega) only [upd2_ne, upd2_other, upd2_same]
                    · exact en
                    · exact em
              · refine ⟨-1, g, m, o, g, ?_, ?_, RT_mono _ _ _ _ hR⟩
                · simp (disch := first | assumption | omega) only [f_X10_comer, kb_X10_comer_21, kb_X10_comer_67, kb_X10_comer_0, KL, KB, KC, KI, KJ, KZ, bI_0, bI_n, nI00, nI10, ne_eq, Classical.not_not, not_true_eq_false, not_false_eq_true, if_true, if_false, ite_not, ite_self, Bool.false_eq_true, nIne1, O_fp, XO, c_at g m o c hc6, x_hasRoad g m o _ n _ hX en, x_isWay g m o _ n _ _ hX en, c_within, hyr, hyt, hys, h4, nIeq, hrt, and_true]
                · simp (disch := first | assumption | omega) only [f_X11_comer, kb_X11_comer_76, kb_X11_comer_78, kb_X11_comer_0, KL, KB, KC, KI, KJ, KZ, bI_0, bI_n, nI00, nI10, ne_eq, Classical.not_not, not_true_eq_false, not_false_eq_true, if_true, if_false, ite_not, ite_self, Bool.false_eq_true, nIne1, O_mo, m_isRoad _ m o c n _ hc6 em, m_isIn, m_get, hyr, hyt, hys, h4, nIeq, htr]
            · refine ⟨-1, g, m, o, g, ?_, ?_, RT_mono _ _ _ _ hR⟩
              · simp (disch := first | assumption | omega) only [f_X10_comer, kb_X10_comer_21, kb_X10_comer_67, kb_X10_comer_0, KL, KB, KC, KI, KJ, KZ, bI_0, bI_n, nI00, nI10, ne_eq, Classical.not_not, not_true_eq_false, not_false_eq_true, if_true, if_false, ite_not, ite_self, Bool.false_eq_true, nIne1, O_fp, XO, c_at g m o c hc6, x_hasRoad g m o _ n _ hX en, x_isWay g m o _ n _ _ hX en, c_within, hyr, hyt, h3, nIeq, hrt, and_true]
              · simp (disch := first | assumption | omega) only [f_X11_comer, kb_X11_comer_76, kb_X11_comer_78, kb_X11_comer_0, KL, KB, KC, KI, KJ, KZ, bI_0, bI_n, nI00, nI10, ne_eq, Classical.not_not, not_true_eq_false, not_false_eq_true, if_true, if_false, ite_not, ite_self, Bool.false_eq_true, nIne1, O_mo, m_isRoad _ m o c n _ hc6 em, m_isIn, m_get, hyr, hyt, h3, nIeq, htr]
        · refine ⟨-1, g, m, o, g, ?_, ?_, RT_mono _ _ _ _ hR⟩
          · simp (disch := first | assumption | omega) only [f_X10_comer, kb_X10_comer_21, kb_X10_comer_67, kb_X10_comer_0, KL, KB, KC, KI, KJ, KZ, bI_0, bI_n, nI00, nI10, ne_eq, Classical.not_not, not_true_eq_false, not_false_eq_true, if_true, if_false, ite_not, ite_self, Bool.false_eq_true, nIne1, O_fp, XO, c_at g m o c hc6, x_hasRoad g m o _ n _ hX en, x_isWay g m o _ n _ _ hX en, hyr, h2, hto, and_false, false_and]
          · simp (disch := first | assumption | omega) only [f_X11_comer, kb_X11_comer_76, kb_X11_comer_78, kb_X11_comer_0, KL, KB, KC, KI, KJ, KZ, bI_0, bI_n, nI00, nI10, ne_eq, Classical.not_not, not_true_eq_false, not_false_eq_true, if_true, if_false, ite_not, ite_self, Bool.false_eq_true, nIne1, O_mo, m_isRoad _ m o c n _ hc6 em, m_get, hyr, h2, hto]
    · refine ⟨-1, g, m, o, g, ?_, ?_, RT_mono _ _ _ _ hR⟩
      · simp (disch := first | assumption | omega) only [f_X10_comer, kb_X10_comer_21, kb_X10_comer_67, kb_X10_comer_0, KL, KB, KC, KI, KJ, KZ, bI_0, bI_n, nI00, nI10, ne_eq, Classical.not_not, not_true_eq_false, not_false_eq_true, if_true, if_false, ite_not, ite_self, Bool.false_eq_true, nIne1, O_fp, XO, c_at g m o c hc6, x_hasRoad g m o _ n _ hX en, h1]
      · simp (disch := first | assumption | omega) only [f_X11_comer, kb_X11_comer_76, kb_X11_comer_78, kb_X11_comer_0, KL, KB, KC, KI, KJ, KZ, bI_0, bI_n, nI00, nI10, ne_eq, Classical.not_not, not_true_eq_false, not_false_eq_true, if_true, if_false, ite_not, ite_self, Bool.false_eq_true, nIne1, O_mo, m_isRoad _ m o c n _ hc6 em, h1]
  · refine ⟨-1, g, m, o, g, ?_, ?_, RT_mono _ _ _ _ hR⟩
    · simp (disch := first | assumption | omega) only [f_X10_comer, kb_X10_comer_21, kb_X10_comer_67, kb_X10_comer_0, KL, KB, KC, KI, KJ, KZ, bI_0, bI_n, nI00, nI10, ne_eq, Classical.not_not, not_true_eq_false, not_false_eq_true, if_true, if_false, ite_not, ite_self, Bool.false_eq_true, nIne1, O_fp, c_atN g m o a0 h0]
    · simp (disch := first | assumption | omega) only [f_X11_comer, kb_X11_comer_76, kb_X11_comer_78, kb_X11_comer_0, KL, KB, KC, KI, KJ, KZ, bI_0, bI_n, nI00, nI10, ne_eq, Classical.not_not, not_true_eq_false, not_false_eq_true, if_true, if_false, ite_not, ite_self, Bool.false_eq_true, nIne1, O_mo, m_isRoadN g m o a0 a1 h0]
