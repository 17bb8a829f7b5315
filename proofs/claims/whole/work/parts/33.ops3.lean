-- ===== road, fight, days =====
theorem RT.at {j : Nat} {g : GG} {m o : Nat} (hR : RT j g m o) {c : Nat} (hc : c < 6) : ∃ n, XRn g (17 + 10 * c) 189 (10 + 560 * c) n j := by
  obtain ⟨n, hx⟩ := hR.1.2.2.2 c hc
  simp only [Nat.zero_add] at hx
  exact ⟨n, hx⟩
theorem RT.put {j : Nat} {g g' : GG} {m o m' o' c n : Nat} (hR : RT j g m o) (hc : c < 6) (hx : XRn g' (17 + 10 * c) 189 (10 + 560 * c) n (j + 1)) (h1 : ∀ a, (a ≤ 76 ∨ (82 ≤ a ∧ a ≤ 160) ∨ (172 ≤ a ∧ a ≤ 183)) → (a < 17 + 10 * c ∨ 17 + 10 * c + 9 < a) → g' a = g a) (h2 : ∀ i, i < 6870 → (i < 10 + 560 * c ∨ 10 + 560 * c + 560 ≤ i) → g' 189 i = g 189 i) (h3 : g' 190 = g 190) (h4 : g' 193 = g 193) (h5 : ∀ i, i = 2 ∨ i = 10 ∨ i = 17 ∨ i = 19 ∨ i = 33 ∨ i = 34 ∨ i = 35 → g' 188 i = g 188 i) : RT (j + 1) g' m' o' := by
  refine RT_other hR (hR.1.cross (c := c) (by omega) hc (fun a p q r => h1 a (by omega) (by omega)) (fun i p q => h2 i p (by omega)) ⟨n, ?_⟩) (fun a p q => h1 a (by omega) (by omega)) (by rw [h1 0 (by omega) (by omega)]) (fun a p q => h1 a (by omega) (by omega)) h3 h4 h5
  simp only [Nat.zero_add]
  exact hx
theorem m_road_v (g : GG) (m o c n r w : Nat) (v : Int32) (hc : c < 6) (em : g 189 (10 + 560 * c + 552) = nI n) (h1 : 1 ≤ n) (h6 : n ≤ 6) (hr : r ≤ n - 1) (hw : w ≤ 4) : f_X11_road [.ref 188, .int (nI c), .int (nI r), .int (nI w), .int v] (hp g m o) = if nI 0 ≤ v ∧ v ≤ nI (mostN w) then some (some (.int (nI 1)), hp (upd2 g 189 (10 + 560 * c + 92 * r + w) v) m o) else some (some (.int (nI 0)), hp g m o) := by
  have hyr : (nI 0 ≤ nI r ∧ nI r ≤ nI (n - 1)) = True := eq_true (in_yes hr (by omega))
  have hyw : (nI 0 ≤ nI w ∧ nI w ≤ nI 4) = True := eq_true (in_yes hw (by omega))
  have hw' : w = 0 ∨ w = 1 ∨ w = 2 ∨ w = 3 ∨ w = 4 := by omega
  rcases hw' with rfl | rfl | rfl | rfl | rfl
  all_goals simp (disch := first | assumption | omega) only [f_X11_road, kb_X11_road_55, kb_X11_road_49, kb_X11_road_0, KL, KB, KC, KI, KJ, KZ, bI_0, bI_n, nI00, nI10, ne_eq, Classical.not_not, not_true_eq_false, not_false_eq_true, if_true, if_false, ite_not, ite_self, Bool.false_eq_true, nIne1, O_mo, m_isRoad g m o c n _ hc em, m_isIn, m_set0, hyr, hyw, nIeq, nIk0, mostN, Nat.reduceEqDiff]
theorem mostN_le (w : Nat) : mostN w ≤ 100 := by
  unfold mostN
  split <;> decide
theorem ag_road (a0 a1 a2 a3 : Int32) : Ag RT f_X10_road f_X11_road [.int a0, .int a1, .int a2, .int a3] := by
  intro j g m o hj hR
  rcases in_cases a0 5 (by decide) with ⟨c, hc, rfl⟩ | h0
  · have hc6 : c < 6 := by omega
    have hX := isX_live c hc6
    obtain ⟨n, hx⟩ := hR.at hc6
    obtain ⟨n3, n6, en, em, fFa, fCa, fCo, fRo, fCt, fTo, fLi⟩ := id hx
    rcases in_cases a1 (n - 1) (by omega) with ⟨r, hr, rfl⟩ | h1
    · have hyr : (nI 0 ≤ nI r ∧ nI r ≤ nI (n - 1)) = True := eq_true (in_yes hr (by omega))
      rcases in_cases a2 4 (by decide) with ⟨w, hw, rfl⟩ | h2
      · have hyw : (nI 0 ≤ nI w ∧ nI w ≤ nI 4) = True := eq_true (in_yes hw (by omega))
        have hmw := mostN_le w
        rcases in_cases a3 (mostN w) (by omega) with ⟨v, hv, rfl⟩ | h3
        · have hyv : (nI 0 ≤ nI v ∧ nI v ≤ nI (mostN w)) = True := eq_true (in_yes hv (by omega))
          refine ⟨nI 1, upd2 g (17 + 10 * c + 1) (w * 6 + r) (nI v), m, o, upd2 (upd2 g (17 + 10 * c + 1) (w * 6 + r) (nI v)) 189 (10 + 560 * c + 92 * r + w) (nI v), ?_, ?_, ?_⟩
          · simp (disch := first | assumption | omega) only [f_X10_road, kb_X10_road_29, kb_X10_road_0, KL, KB, KC, KI, KJ, KZ, bI_0, bI_n, nI00, nI10, ne_eq, Classical.not_not, not_true_eq_false, not_false_eq_true, if_true, if_false, ite_not, ite_self, Bool.false_eq_true, nIne1, O_fp, XO, KP, most_at, c_at g m o c hc6, x_hasRoad g m o _ n _ hX en, c_within, hyr, hyw, hyv, nI_mul, nI_add]
          · rw [m_road_v _ m o c n r w _ hc6 (by simp (disch := omega) only [upd2_other]; exact em) (by omega) n6 hr hw, if_pos (in_yes hv (by omega))]
          · refine hR.put (n := n) hc6 ⟨n3, n6, ?_, ?_, fun w2 hw2 r2 hr2 => ?_, fCa.congr (by omega) (fun i hi => ?_) (fun r2 hr2 t _ _ => ?_), fCo.congr (fun i hi => ?_) (fun i hi => ?_) (fun r2 hr2 t _ _ => ?_), fRo.congr (fun i hi => ?_) (fun i hi => ?_) (fun r2 hr2 t _ _ => ?_), fCt.congr (by omega) (fun i hi => ?_) (fun r2 hr2 t _ _ => ?_), fTo.congr (by omega) (fun i hi => ?_) (fun t _ _ => ?_), fLi.congr (fun i hi => ?_) (fun r2 hr2 t _ _ => ?_)⟩ (fun a _ _ => ?_) (fun i _ _ => ?_) ?_ ?_ (fun i _ => ?_)
            case refine_3 =>
              by_cases hq : w2 = w ∧ r2 = r
              · obtain ⟨rfl, rfl⟩ := hq
                exact ⟨v, hv, by rw [Nat.mul_comm 6 w2]; simp (disch := omega) only [upd2_other, upd2_same], by simp only [upd2_same]⟩
              · obtain ⟨v2, p1, p2, p3⟩ := fFa w2 hw2 r2 hr2
                exact ⟨v2, p1, by simp (disch := omega) only [upd2_other]; exact p2, by simp (disch := omega) only [upd2_other]; exact p3⟩
            all_goals simp (disch := omega) only [upd2_ne, upd2_other]
            · exact en
            · exact em
        · refine ⟨nI 0, g, m, o, g, ?_, ?_, RT_mono _ _ _ _ hR⟩
          · simp (disch := first | assumption | omega) only [f_X10_road, kb_X10_road_29, kb_X10_road_0, KL, KB, KC, KI, KJ, KZ, bI_0, bI_n, nI00, nI10, ne_eq, Classical.not_not, not_true_eq_false, not_false_eq_true, if_true, if_false, ite_not, ite_self, Bool.false_eq_true, nIne1, O_fp, XO, KP, most_at, c_at g m o c hc6, x_hasRoad g m o _ n _ hX en, c_within, hyr, hyw, h3]
          · rw [m_road_v _ m o c n r w _ hc6 em (by omega) n6 hr hw, if_neg h3]
      · refine ⟨nI 0, g, m, o, g, ?_, ?_, RT_mono _ _ _ _ hR⟩
        · simp (disch := first | assumption | omega) only [f_X10_road, kb_X10_road_29, kb_X10_road_0, KL, KB, KC, KI, KJ, KZ, bI_0, bI_n, nI00, nI10, ne_eq, Classical.not_not, not_true_eq_false, not_false_eq_true, if_true, if_false, ite_not, ite_self, Bool.false_eq_true, nIne1, O_fp, XO, c_at g m o c hc6, x_hasRoad g m o _ n _ hX en, c_within, hyr, h2]
        · simp (disch := first | assumption | omega) only [f_X11_road, kb_X11_road_55, kb_X11_road_49, kb_X11_road_0, KL, KB, KC, KI, KJ, KZ, bI_0, bI_n, nI00, nI10, ne_eq, Classical.not_not, not_true_eq_false, not_false_eq_true, if_true, if_false, ite_not, ite_self, Bool.false_eq_true, nIne1, O_mo, m_isRoad g m o c n _ hc6 em, m_isIn, hyr, h2]
    · refine ⟨nI 0, g, m, o, g, ?_, ?_, RT_mono _ _ _ _ hR⟩
      · simp (disch := first | assumption | omega) only [f_X10_road, kb_X10_road_29, kb_X10_road_0, KL, KB, KC, KI, KJ, KZ, bI_0, bI_n, nI00, nI10, ne_eq, Classical.not_not, not_true_eq_false, not_false_eq_true, if_true, if_false, ite_not, ite_self, Bool.false_eq_true, nIne1, O_fp, XO, c_at g m o c hc6, x_hasRoad g m o _ n _ hX en, h1]
      · simp (disch := first | assumption | omega) only [f_X11_road, kb_X11_road_55, kb_X11_road_49, kb_X11_road_0, KL, KB, KC, KI, KJ, KZ, bI_0, bI_n, nI00, nI10, ne_eq, Classical.not_not, not_true_eq_false, not_false_eq_true, if_true, if_false, ite_not, ite_self, Bool.false_eq_true, nIne1, O_mo, m_isRoad g m o c n _ hc6 em, h1]
  · refine ⟨nI 0, g, m, o, g, ?_, ?_, RT_mono _ _ _ _ hR⟩
    · simp (disch := first | assumption | omega) only [f_X10_road, kb_X10_road_29, kb_X10_road_0, KL, KB, KC, KI, KJ, KZ, bI_0, bI_n, nI00, nI10, ne_eq, Classical.not_not, not_true_eq_false, not_false_eq_true, if_true, if_false, ite_not, ite_self, Bool.false_eq_true, nIne1, O_fp, c_atN g m o a0 h0]
    · simp (disch := first | assumption | omega) only [f_X11_road, kb_X11_road_55, kb_X11_road_49, kb_X11_road_0, KL, KB, KC, KI, KJ, KZ, bI_0, bI_n, nI00, nI10, ne_eq, Classical.not_not, not_true_eq_false, not_false_eq_true, if_true, if_false, ite_not, ite_self, Bool.false_eq_true, nIne1, O_mo, m_isRoadN g m o a0 a1 h0]
theorem ag_fight (a0 a1 a2 a3 a4 : Int32) : Ag RT f_X10_fight f_X11_fight [.int a0, .int a1, .int a2, .int a3, .int a4] := by
  intro j g m o hj hR
  rcases in_cases a0 5 (by decide) with ⟨c, hc, rfl⟩ | h0
  · have hc6 : c < 6 := by omega
    have hX := isX_live c hc6
    obtain ⟨n, hx⟩ := hR.at hc6
    obtain ⟨n3, n6, en, em, -⟩ := id hx
    rcases in_cases a1 (n - 1) (by omega) with ⟨a, ha, rfl⟩ | h1
    · have hya : (nI 0 ≤ nI a ∧ nI a ≤ nI (n - 1)) = True := eq_true (in_yes ha (by omega))
      rcases in_cases a2 (n - 1) (by omega) with ⟨b, hb, rfl⟩ | h2
      · have hyb : (nI 0 ≤ nI b ∧ nI b ≤ nI (n - 1)) = True := eq_true (in_yes hb (by omega))
        by_cases hab : a = b
        · refine ⟨-1, g, m, o, g, ?_, ?_, RT_mono _ _ _ _ hR⟩
          · simp (disch := first | assumption | omega) only [f_X10_fight, kb_X10_fight_22, kb_X10_fight_59, kb_X10_fight_78, kb_X10_fight_0, KL, KB, KC, KI, KJ, KZ, bI_0, bI_n, nI00, nI10, ne_eq, Classical.not_not, not_true_eq_false, not_false_eq_true, if_true, if_false, ite_not, ite_self, Bool.false_eq_true, nIne1, O_fp, XO, c_at g m o c hc6, x_isWay g m o _ n _ _ hX en, hya, hyb, nIeq, hab, and_false]
          · simp (disch := first | assumption | omega) only [f_X11_fight, kb_X11_fight_23, kb_X11_fight_78, kb_X11_fight_97, kb_X11_fight_0, KL, KB, KC, KI, KJ, KZ, bI_0, bI_n, nI00, nI10, ne_eq, Classical.not_not, not_true_eq_false, not_false_eq_true, if_true, if_false, ite_not, ite_self, Bool.false_eq_true, nIne1, O_mo, m_isRoad g m o c n _ hc6 em, hya, hyb, nIeq, hab]
        · by_cases h3 : a3 = -1
          · refine ⟨nI (turnN n a b), g, m, o, g, ?_, ?_, RT_mono _ _ _ _ hR⟩
            · simp (disch := first | assumption | omega) only [f_X10_fight, kb_X10_fight_22, kb_X10_fight_59, kb_X10_fight_78, kb_X10_fight_0, KL, KB, KC, KI, KJ, KZ, bI_0, bI_n, nI00, nI10, ne_eq, Classical.not_not, not_true_eq_false, not_false_eq_true, if_true, if_false, ite_not, ite_self, Bool.false_eq_true, nIne1, O_fp, XO, c_at g m o c hc6, x_isWay g m o _ n _ _ hX en, hya, hyb, nIeq, hab, and_true, h3, en, c_turn]
            · simp (disch := first | assumption | omega) only [f_X11_fight, kb_X11_fight_23, kb_X11_fight_78, kb_X11_fight_97, kb_X11_fight_0, KL, KB, KC, KI, KJ, KZ, bI_0, bI_n, nI00, nI10, ne_eq, Classical.not_not, not_true_eq_false, not_false_eq_true, if_true, if_false, ite_not, ite_self, Bool.false_eq_true, nIne1, O_mo, m_isRoad g m o c n _ hc6 em, hya, hyb, nIeq, hab, h3, m_own, em, m_turn]
          · rcases in_cases a3 (n - 1) (by omega) with ⟨x, hx3, rfl⟩ | h4
            · have hyx : (nI 0 ≤ nI x ∧ nI x ≤ nI (n - 1)) = True := eq_true (in_yes hx3 (by omega))
              rcases in_cases a4 (n - 1) (by omega) with ⟨y, hy3, rfl⟩ | h5
              · have hyy : (nI 0 ≤ nI y ∧ nI y ≤ nI (n - 1)) = True := eq_true (in_yes hy3 (by omega))
                by_cases hxy : x = y
                · refine ⟨-1, g, m, o, g, ?_, ?_, RT_mono _ _ _ _ hR⟩
                  · simp (disch := first | assumption | omega) only [f_X10_fight, kb_X10_fight_22, kb_X10_fight_59, kb_X10_fight_78, kb_X10_fight_0, KL, KB, KC, KI, KJ, KZ, bI_0, bI_n, nI00, nI10, ne_eq, Classical.not_not, not_true_eq_false, not_false_eq_true, if_true, if_false, ite_not, ite_self, Bool.false_eq_true, nIne1, O_fp, XO, c_at g m o c hc6, x_isWay g m o _ n _ _ hX en, hya, hyb, hyx, hyy, nIeq, nIne1, hab, hxy, and_true, and_false]
                  · simp (disch := first | assumption | omega) only [f_X11_fight, kb_X11_fight_23, kb_X11_fight_78, kb_X11_fight_97, kb_X11_fight_0, KL, KB, KC, KI, KJ, KZ, bI_0, bI_n, nI00, nI10, ne_eq, Classical.not_not, not_true_eq_false, not_false_eq_true, if_true, if_false, ite_not, ite_self, Bool.false_eq_true, nIne1, O_mo, m_isRoad g m o c n _ hc6 em, hya, hyb, hyx, hyy, nIeq, nIne1, hab, hxy]
                · by_cases hxa : x = a
                  · have hax : a = x := hxa.symm
                    refine ⟨-1, g, m, o, g, ?_, ?_, RT_mono _ _ _ _ hR⟩
                    · simp (disch := first | assumption | omega) only [f_X10_fight, kb_X10_fight_22, kb_X10_fight_59, kb_X10_fight_78, kb_X10_fight_0, KL, KB, KC, KI, KJ, KZ, bI_0, bI_n, nI00, nI10, ne_eq, Classical.not_not, not_true_eq_false, not_false_eq_true, if_true, if_false, ite_not, ite_self, Bool.false_eq_true, nIne1, O_fp, XO, c_at g m o c hc6, x_isWay g m o _ n _ _ hX en, hya, hyb, hyx, hyy, nIeq, nIne1, hab, hxy, hax, and_true]
                    · simp (disch := first | assumption | omega) only [f_X11_fight, kb_X11_fight_23, kb_X11_fight_78, kb_X11_fight_97, kb_X11_fight_0, KL, KB, KC, KI, KJ, KZ, bI_0, bI_n, nI00, nI10, ne_eq, Classical.not_not, not_true_eq_false, not_false_eq_true, if_true, if_false, ite_not, ite_self, Bool.false_eq_true, nIne1, O_mo, m_isRoad g m o c n _ hc6 em, hya, hyb, hyx, hyy, nIeq, nIne1, hab, hxy, hxa]
                  · have hax : ¬ a = x := fun q => hxa q.symm
                    refine ⟨if wayB a b x y = true then nI 1 else nI 0, g, m, o, g, ?_, ?_, RT_mono _ _ _ _ hR⟩
                    · simp (disch := first | assumption | omega) only [f_X10_fight, kb_X10_fight_22, kb_X10_fight_59, kb_X10_fight_78, kb_X10_fight_0, KL, KB, KC, KI, KJ, KZ, bI_0, bI_n, nI00, nI10, ne_eq, Classical.not_not, not_true_eq_false, not_false_eq_true, if_true, if_false, ite_not, ite_self, Bool.false_eq_true, nIne1, O_fp, XO, c_at g m o c hc6, x_isWay g m o _ n _ _ hX en, hya, hyb, hyx, hyy, nIeq, nIne1, hab, hxy, hax, and_true, c_ways]
                      by_cases hw : wayB a b x y = true
                      · simp only [hw, if_true, nI10, if_false]
                      · simp only [hw, Bool.false_eq_true, if_false, nI00, if_true]
                    · simp (disch := first | assumption | omega) only [f_X11_fight, kb_X11_fight_23, kb_X11_fight_78, kb_X11_fight_97, kb_X11_fight_0, KL, KB, KC, KI, KJ, KZ, bI_0, bI_n, nI00, nI10, ne_eq, Classical.not_not, not_true_eq_false, not_false_eq_true, if_true, if_false, ite_not, ite_self, Bool.false_eq_true, nIne1, O_mo, m_isRoad g m o c n _ hc6 em, hya, hyb, hyx, hyy, nIeq, nIne1, hab, hxy, hxa, m_fights]
                      by_cases hw : wayB a b x y = true
                      · simp only [hw, if_true, nI10, if_false]
                      · simp only [hw, Bool.false_eq_true, if_false, nI00, if_true]
              · refine ⟨-1, g, m, o, g, ?_, ?_, RT_mono _ _ _ _ hR⟩
                · simp (disch := first | assumption | omega) only [f_X10_fight, kb_X10_fight_22, kb_X10_fight_59, kb_X10_fight_78, kb_X10_fight_0, KL, KB, KC, KI, KJ, KZ, bI_0, bI_n, nI00, nI10, ne_eq, Classical.not_not, not_true_eq_false, not_false_eq_true, if_true, if_false, ite_not, ite_self, Bool.false_eq_true, nIne1, O_fp, XO, c_at g m o c hc6, x_isWay g m o _ n _ _ hX en, hya, hyb, hyx, h5, nIeq, nIne1, hab, and_true, and_false, false_and]
                · simp (disch := first | assumption | omega) only [f_X11_fight, kb_X11_fight_23, kb_X11_fight_78, kb_X11_fight_97, kb_X11_fight_0, KL, KB, KC, KI, KJ, KZ, bI_0, bI_n, nI00, nI10, ne_eq, Classical.not_not, not_true_eq_false, not_false_eq_true, if_true, if_false, ite_not, ite_self, Bool.false_eq_true, nIne1, O_mo, m_isRoad g m o c n _ hc6 em, hya, hyb, hyx, h5, nIeq, nIne1, hab]
            · refine ⟨-1, g, m, o, g, ?_, ?_, RT_mono _ _ _ _ hR⟩
              · simp (disch := first | assumption | omega) only [f_X10_fight, kb_X10_fight_22, kb_X10_fight_59, kb_X10_fight_78, kb_X10_fight_0, KL, KB, KC, KI, KJ, KZ, bI_0, bI_n, nI00, nI10, ne_eq, Classical.not_not, not_true_eq_false, not_false_eq_true, if_true, if_false, ite_not, ite_self, Bool.false_eq_true, nIne1, O_fp, XO, c_at g m o c hc6, x_isWay g m o _ n _ _ hX en, hya, hyb, h3, h4, nIeq, hab, and_true, and_false, false_and]
              · simp (disch := first | assumption | omega) only [f_X11_fight, kb_X11_fight_23, kb_X11_fight_78, kb_X11_fight_97, kb_X11_fight_0, KL, KB, KC, KI, KJ, KZ, bI_0, bI_n, nI00, nI10, ne_eq, Classical.not_not, not_true_eq_false, not_false_eq_true, if_true, if_false, ite_not, ite_self, Bool.false_eq_true, nIne1, O_mo, m_isRoad g m o c n _ hc6 em, hya, hyb, h3, h4, nIeq, hab]
      · refine ⟨-1, g, m, o, g, ?_, ?_, RT_mono _ _ _ _ hR⟩
        · simp (disch := first | assumption | omega) only [f_X10_fight, kb_X10_fight_22, kb_X10_fight_59, kb_X10_fight_78, kb_X10_fight_0, KL, KB, KC, KI, KJ, KZ, bI_0, bI_n, nI00, nI10, ne_eq, Classical.not_not, not_true_eq_false, not_false_eq_true, if_true, if_false, ite_not, ite_self, Bool.false_eq_true, nIne1, O_fp, XO, c_at g m o c hc6, x_isWay g m o _ n _ _ hX en, hya, h2, true_and, and_false, false_and]
        · simp (disch := first | assumption | omega) only [f_X11_fight, kb_X11_fight_23, kb_X11_fight_78, kb_X11_fight_97, kb_X11_fight_0, KL, KB, KC, KI, KJ, KZ, bI_0, bI_n, nI00, nI10, ne_eq, Classical.not_not, not_true_eq_false, not_false_eq_true, if_true, if_false, ite_not, ite_self, Bool.false_eq_true, nIne1, O_mo, m_isRoad g m o c n _ hc6 em, hya, h2]
    · refine ⟨-1, g, m, o, g, ?_, ?_, RT_mono _ _ _ _ hR⟩
      · simp (disch := first | assumption | omega) only [f_X10_fight, kb_X10_fight_22, kb_X10_fight_59, kb_X10_fight_78, kb_X10_fight_0, KL, KB, KC, KI, KJ, KZ, bI_0, bI_n, nI00, nI10, ne_eq, Classical.not_not, not_true_eq_false, not_false_eq_true, if_true, if_false, ite_not, ite_self, Bool.false_eq_true, nIne1, O_fp, XO, c_at g m o c hc6, x_isWay g m o _ n _ _ hX en, h1, false_and]
      · simp (disch := first | assumption | omega) only [f_X11_fight, kb_X11_fight_23, kb_X11_fight_78, kb_X11_fight_97, kb_X11_fight_0, KL, KB, KC, KI, KJ, KZ, bI_0, bI_n, nI00, nI10, ne_eq, Classical.not_not, not_true_eq_false, not_false_eq_true, if_true, if_false, ite_not, ite_self, Bool.false_eq_true, nIne1, O_mo, m_isRoad g m o c n _ hc6 em, h1]
  · refine ⟨-1, g, m, o, g, ?_, ?_, RT_mono _ _ _ _ hR⟩
    · simp (disch := first | assumption | omega) only [f_X10_fight, kb_X10_fight_22, kb_X10_fight_59, kb_X10_fight_78, kb_X10_fight_0, KL, KB, KC, KI, KJ, KZ, bI_0, bI_n, nI00, nI10, ne_eq, Classical.not_not, not_true_eq_false, not_false_eq_true, if_true, if_false, ite_not, ite_self, Bool.false_eq_true, nIne1, O_fp, c_atN g m o a0 h0]
    · simp (disch := first | assumption | omega) only [f_X11_fight, kb_X11_fight_23, kb_X11_fight_78, kb_X11_fight_97, kb_X11_fight_0, KL, KB, KC, KI, KJ, KZ, bI_0, bI_n, nI00, nI10, ne_eq, Classical.not_not, not_true_eq_false, not_false_eq_true, if_true, if_false, ite_not, ite_self, Bool.false_eq_true, nIne1, O_mo, m_isRoadN g m o a0 a1 h0]
