-- ===== loops and switches; link, days, count =====
theorem kFix_rule {b : KK → KK} (I : Nat → List Value → List Value → HP → Prop) (Q : RS → Prop) (step : ∀ (s : KK) (n : Nat), (∀ n', n' < n → ∀ ls st h, I n' ls st h → Q (s ls st h)) → ∀ ls st h, I n ls st h → Q (b s ls st h)) : ∀ (f n : Nat), n < f → ∀ ls st h, I n ls st h → Q (kFix b f ls st h) := by
  intro f
  induction f with
  | zero => intro n hn; omega
  | succ f ih =>
    intro n hn ls st h hI
    exact step (kFix b f) n (fun n' hn' ls st h hI' => ih n' (by omega) ls st h hI') ls st h hI
theorem SW0 (k0 : KK) (ks : List KK) (kd : KK) (ls st : List Value) (h : HP) : kSw 0 (k0 :: ks) kd ls (.int (nI 0) :: st) h = k0 ls st h := rfl
theorem SW1 (k0 k1 : KK) (ks : List KK) (kd : KK) (ls st : List Value) (h : HP) : kSw 0 (k0 :: k1 :: ks) kd ls (.int (nI 1) :: st) h = k1 ls st h := rfl
theorem SW2 (k0 k1 k2 : KK) (ks : List KK) (kd : KK) (ls st : List Value) (h : HP) : kSw 0 (k0 :: k1 :: k2 :: ks) kd ls (.int (nI 2) :: st) h = k2 ls st h := rfl
theorem SW3 (k0 k1 k2 k3 : KK) (ks : List KK) (kd : KK) (ls st : List Value) (h : HP) : kSw 0 (k0 :: k1 :: k2 :: k3 :: ks) kd ls (.int (nI 3) :: st) h = k3 ls st h := rfl
theorem SW4 (k0 k1 k2 k3 k4 : KK) (ks : List KK) (kd : KK) (ls st : List Value) (h : HP) : kSw 0 (k0 :: k1 :: k2 :: k3 :: k4 :: ks) kd ls (.int (nI 4) :: st) h = k4 ls st h := rfl
theorem SWN {x : Int32} (ks : List KK) (kd : KK) (ls st : List Value) (h : HP) (n : Nat) (hn : n < 100) (hl : ks.length = n + 1) (hx : ¬ (nI 0 ≤ x ∧ x ≤ nI n)) : kSw 0 ks kd ls (.int x :: st) h = kd ls st h := by
  show (if x.toInt < 0 then kd ls st h else match ks[(x.toInt - 0).toNat]? with
    | some k => k ls st h
    | none => kd ls st h) = kd ls st h
  split
  · rfl
  · rename_i h0
    have h1 : ¬ x.toInt ≤ n := by
      intro h1
      apply hx
      constructor
      · rw [Int32.le_iff_toInt_le, nI_toInt (by omega)]; omega
      · rw [Int32.le_iff_toInt_le, nI_toInt (by omega)]; exact h1
    rw [List.getElem?_eq_none (by omega)]
theorem SWN5 {x : Int32} (hx : ¬ (nI 0 ≤ x ∧ x ≤ nI 4)) (k0 k1 k2 k3 k4 kd : KK) (ls st : List Value) (h : HP) : kSw 0 [k0, k1, k2, k3, k4] kd ls (.int x :: st) h = kd ls st h := SWN _ _ _ _ _ 4 (by decide) rfl hx
theorem SWN4 {x : Int32} (hx : ¬ (nI 0 ≤ x ∧ x ≤ nI 3)) (k0 k1 k2 k3 kd : KK) (ls st : List Value) (h : HP) : kSw 0 [k0, k1, k2, k3] kd ls (.int x :: st) h = kd ls st h := SWN _ _ _ _ _ 3 (by decide) rfl hx
theorem ag_link (a0 a1 a2 a3 a4 : Int32) : Ag RT f_X10_link f_X11_link [.int a0, .int a1, .int a2, .int a3, .int a4] := by
  intro j g m o hj hR
  rcases in_cases a0 5 (by decide) with ⟨c, hc, rfl⟩ | h0
  · have hc6 : c < 6 := by omega
    have hX := isX_live c hc6
    obtain ⟨n, hx⟩ := hR.at hc6
    obtain ⟨n3, n6, en, em, fFa, fCa, fCo, fRo, fCt, fTo, fLi⟩ := id hx
    rcases in_cases a1 (n - 1) (by omega) with ⟨r, hr, rfl⟩ | h1
    · have hyr : (nI 0 ≤ nI r ∧ nI r ≤ nI (n - 1)) = True := eq_true (in_yes hr (by omega))
      by_cases hto : a2 = -1
      · refine ⟨nI 1, upd2 g (17 + 10 * c + 9) r (-1), m, o, upd2 (upd2 g (17 + 10 * c + 9) r (-1)) 189 (10 + 560 * c + 92 * r + 89) (-1), ?_, ?_, ?_⟩
        · simp (disch := first | assumption | omega) only [f_X10_link, kb_X10_link_21, kb_X10_link_77, kb_X10_link_0, KL, KB, KC, KI, KJ, KZ, bI_0, bI_n, nI00, nI10, ne_eq, Classical.not_not, not_true_eq_false, not_false_eq_true, if_true, if_false, ite_not, ite_self, Bool.false_eq_true, nIne1, O_fp, XO, c_at g m o c hc6, x_hasRoad g m o _ n _ hX en, hyr, hto, nI_add, Nat.zero_add]
        · have em' : upd2 g (17 + 10 * c + 9) r (-1) 189 (10 + 560 * c + 552) = nI n := by simp (disch := omega) only [upd2_other]; exact em
          simp (disch := first | assumption | omega) only [f_X11_link, kb_X11_link_53, kb_X11_link_0, KL, KB, KC, KI, KJ, KZ, bI_0, bI_n, nI00, nI10, ne_eq, Classical.not_not, not_true_eq_false, not_false_eq_true, if_true, if_false, ite_not, ite_self, Bool.false_eq_true, nIne1, O_mo, m_isRoad _ m o c n _ hc6 em', hyr, hto, m_set0]
        · refine hR.put (n := n) hc6 ⟨n3, n6, ?_, ?_, fFa.congr (fun i hi => ?_) (fun r2 hr2 t ht => ?_), fCa.congr (by omega) (fun i hi => ?_) (fun r2 hr2 t _ _ => ?_), fCo.congr (fun i hi => ?_) (fun i hi => ?_) (fun r2 hr2 t _ _ => ?_), fRo.congr (fun i hi => ?_) (fun i hi => ?_) (fun r2 hr2 t _ _ => ?_), fCt.congr (by omega) (fun i hi => ?_) (fun r2 hr2 t _ _ => ?_), fTo.congr (by omega) (fun i hi => ?_) (fun t _ _ => ?_), fun r2 hr2 => ?_⟩ (fun a _ _ => ?_) (fun i _ _ => ?_) ?_ ?_ (fun i _ => ?_)
          case refine_17 =>
            by_cases e : r2 = r
            · subst e
              left
              constructor
              all_goals simp (disch := omega) only [upd2_other, upd2_same]
            · rcases fLi r2 hr2 with ⟨p, q⟩ | ⟨to, ro, room, p1, p2, p3, p4, q1, q2, q3, s1, s2, s3⟩
              · left
                constructor
                all_goals simp (disch := omega) only [upd2_other]
                · exact p
                · exact q
              · right
                refine ⟨to, ro, room, p1, p2, p3, p4, ?_, ?_, ?_, ?_, ?_, ?_⟩
                all_goals simp (disch := omega) only [upd2_other]
                all_goals assumption
          all_goals simp (disch := omega) only [upd2_ne, upd2_other, upd2_same]
          · exact en
          · exact em
      · rcases in_cases a3 5 (by decide) with ⟨ro, hro, rfl⟩ | h3
        · rcases in_cases a2 5 (by decide) with ⟨to, hto2, rfl⟩ | h2
          · have hto6 : to < 6 := by omega
            have hXt := isX_live to hto6
            obtain ⟨n', hx'⟩ := hR.at hto6
            obtain ⟨n3', n6', en', em', -⟩ := id hx'
            by_cases hct : to = c
            · refine ⟨nI 0, g, m, o, g, ?_, ?_, RT_mono _ _ _ _ hR⟩
              · simp (disch := first | assumption | omega) only [f_X10_link, kb_X10_link_21, kb_X10_link_77, kb_X10_link_0, KL, KB, KC, KI, KJ, KZ, bI_0, bI_n, nI00, nI10, ne_eq, Classical.not_not, not_true_eq_false, not_false_eq_true, if_true, if_false, ite_not, ite_self, Bool.false_eq_true, nIne1, O_fp, XO, c_at g m o c hc6, c_at g m o to hto6, x_hasRoad g m o _ n _ hX en, hyr, hto, nIeq, hct]
              · simp (disch := first | assumption | omega) only [f_X11_link, kb_X11_link_53, kb_X11_link_0, KL, KB, KC, KI, KJ, KZ, bI_0, bI_n, nI00, nI10, ne_eq, Classical.not_not, not_true_eq_false, not_false_eq_true, if_true, if_false, ite_not, ite_self, Bool.false_eq_true, nIne1, O_mo, m_isRoad _ m o c n _ hc6 em, hyr, hto, nIeq, hct]
            · by_cases h3 : nI 0 ≤ nI ro ∧ nI ro ≤ nI (n' - 1)
              · have hyo : (nI 0 ≤ nI ro ∧ nI ro ≤ nI (n' - 1)) = True := eq_true h3
                rcases in_cases a4 9 (by decide) with ⟨room, hrm, rfl⟩ | h4
                · have hym : (nI 0 ≤ nI room ∧ nI room ≤ nI 9) = True := eq_true (in_yes hrm (by omega))
                  refine ⟨nI 1, upd2 (upd2 (upd2 g (17 + 10 * c + 9) r (nI to)) (17 + 10 * c + 9) (6 + r) (nI ro)) (17 + 10 * c + 9) (12 + r) (nI room), m, o, upd2 (upd2 (upd2 (upd2 (upd2 (upd2 g (17 + 10 * c + 9) r (nI to)) (17 + 10 * c + 9) (6 + r) (nI ro)) (17 + 10 * c + 9) (12 + r) (nI room)) 189 (10 + 560 * c + 92 * r + 89) (nI to)) 189 (10 + 560 * c + 92 * r + 90) (nI ro)) 189 (10 + 560 * c + 92 * r + 91) (nI room), ?_, ?_, ?_⟩
                  · simp (disch := first | assumption | omega) only [f_X10_link, kb_X10_link_21, kb_X10_link_77, kb_X10_link_0, KL, KB, KC, KI, KJ, KZ, bI_0, bI_n, nI00, nI10, ne_eq, Classical.not_not, not_true_eq_false, not_false_eq_true, if_true, if_false, ite_not, ite_self, Bool.false_eq_true, nIne1, O_fp, XO, c_at g m o c hc6, c_at g m o to hto6, x_hasRoad g m o _ n _ hX en, x_hasRoad g m o _ n' _ hXt en', c_within, hyr, hyo, hym, hto, nIeq, hct, nI_add, Nat.zero_add]
                  · have em2 : upd2 (upd2 (upd2 g (17 + 10 * c + 9) r (nI to)) (17 + 10 * c + 9) (6 + r) (nI ro)) (17 + 10 * c + 9) (12 + r) (nI room) 189 (10 + 560 * c + 552) = nI n := by simp (disch := omega) only [upd2_other]; exact em
                    have em2' : upd2 (upd2 (upd2 g (17 + 10 * c + 9) r (nI to)) (17 + 10 * c + 9) (6 + r) (nI ro)) (17 + 10 * c + 9) (12 + r) (nI room) 189 (10 + 560 * to + 552) = nI n' := by simp (disch := omega) only [upd2_other]; exact em'
                    simp (disch := first | assumption | omega) only [f_X11_link, kb_X11_link_53, kb_X11_link_0, KL, KB, KC, KI, KJ, KZ, bI_0, bI_n, nI00, nI10, ne_eq, Classical.not_not, not_true_eq_false, not_false_eq_true, if_true, if_false, ite_not, ite_self, Bool.false_eq_true, nIne1, O_mo, m_isRoad _ m o c n _ hc6 em2, m_isRoad _ m o to n' _ hto6 em2', m_isIn, hyr, hyo, hym, hto, nIeq, hct, m_set0]
                  · refine hR.put (n := n) hc6 ⟨n3, n6, ?_, ?_, fFa.congr (fun i hi => ?_) (fun r2 hr2 t ht => ?_), fCa.congr (by omega) (fun i hi => ?_) (fun r2 hr2 t _ _ => ?_), fCo.congr (fun i hi => ?_) (fun i hi => ?_) (fun r2 hr2 t _ _ => ?_), fRo.congr (fun i hi => ?_) (fun i hi => ?_) (fun r2 hr2 t _ _ => ?_), fCt.congr (by omega) (fun i hi => ?_) (fun r2 hr2 t _ _ => ?_), fTo.congr (by omega) (fun i hi => ?_) (fun t _ _ => ?_), fun r2 hr2 => ?_⟩ (fun a _ _ => ?_) (fun i _ _ => ?_) ?_ ?_ (fun i _ => ?_)
                    case refine_17 =>
                      by_cases e : r2 = r
                      · subst e
                        right
                        refine ⟨to, ro, room, by omega, hto6, by omega, hrm, ?_, ?_, ?_, ?_, ?_, ?_⟩
                        all_goals simp (disch := omega) only [upd2_other, upd2_same]
                      · rcases fLi r2 hr2 with ⟨p, q⟩ | ⟨to, ro, room, p1, p2, p3, p4, q1, q2, q3, s1, s2, s3⟩
                        · left
                          constructor
                          all_goals simp (disch := omega) only [upd2_other]
                          · exact p
                          · exact q
                        · right
                          refine ⟨to, ro, room, p1, p2, p3, p4, ?_, ?_, ?_, ?_, ?_, ?_⟩
                          all_goals simp (disch := omega) only [upd2_other]
                          all_goals assumption
                    all_goals simp (disch := omega) only [upd2_ne, upd2_other, upd2_same]
                    · exact en
                    · exact em
                · refine ⟨nI 0, g, m, o, g, ?_, ?_, RT_mono _ _ _ _ hR⟩
                  · simp (disch := first | assumption | omega) only [f_X10_link, kb_X10_link_21, kb_X10_link_77, kb_X10_link_0, KL, KB, KC, KI, KJ, KZ, bI_0, bI_n, nI00, nI10, ne_eq, Classical.not_not, not_true_eq_false, not_false_eq_true, if_true, if_false, ite_not, ite_self, Bool.false_eq_true, nIne1, O_fp, XO, c_at g m o c hc6, c_at g m o to hto6, x_hasRoad g m o _ n _ hX en, x_hasRoad g m o _ n' _ hXt en', c_within, hyr, hyo, h4, hto, nIeq, hct]
                  · simp (disch := first | assumption | omega) only [f_X11_link, kb_X11_link_53, kb_X11_link_0, KL, KB, KC, KI, KJ, KZ, bI_0, bI_n, nI00, nI10, ne_eq, Classical.not_not, not_true_eq_false, not_false_eq_true, if_true, if_false, ite_not, ite_self, Bool.false_eq_true, nIne1, O_mo, m_isRoad _ m o c n _ hc6 em, m_isRoad _ m o to n' _ hto6 em', m_isIn, hyr, hyo, h4, hto, nIeq, hct]
              · refine ⟨nI 0, g, m, o, g, ?_, ?_, RT_mono _ _ _ _ hR⟩
                · simp (disch := first | assumption | omega) only [f_X10_link, kb_X10_link_21, kb_X10_link_77, kb_X10_link_0, KL, KB, KC, KI, KJ, KZ, bI_0, bI_n, nI00, nI10, ne_eq, Classical.not_not, not_true_eq_false, not_false_eq_true, if_true, if_false, ite_not, ite_self, Bool.false_eq_true, nIne1, O_fp, XO, c_at g m o c hc6, c_at g m o to hto6, x_hasRoad g m o _ n _ hX en, x_hasRoad g m o _ n' _ hXt en', hyr, h3, hto, nIeq, hct]
                · simp (disch := first | assumption | omega) only [f_X11_link, kb_X11_link_53, kb_X11_link_0, KL, KB, KC, KI, KJ, KZ, bI_0, bI_n, nI00, nI10, ne_eq, Classical.not_not, not_true_eq_false, not_false_eq_true, if_true, if_false, ite_not, ite_self, Bool.false_eq_true, nIne1, O_mo, m_isRoad _ m o c n _ hc6 em, m_isRoad _ m o to n' _ hto6 em', hyr, h3, hto, nIeq, hct]
          · have hne : (a2 = nI c) = False := eq_false (fun q => h2 (by rw [q]; exact in_yes hc (by omega)))
            refine ⟨nI 0, g, m, o, g, ?_, ?_, RT_mono _ _ _ _ hR⟩
            · simp (disch := first | assumption | omega) only [f_X10_link, kb_X10_link_21, kb_X10_link_77, kb_X10_link_0, KL, KB, KC, KI, KJ, KZ, bI_0, bI_n, nI00, nI10, ne_eq, Classical.not_not, not_true_eq_false, not_false_eq_true, if_true, if_false, ite_not, ite_self, Bool.false_eq_true, nIne1, O_fp, XO, c_at g m o c hc6, c_atN g m o a2 h2, x_hasRoad g m o _ n _ hX en, hyr, hto]
            · simp (disch := first | assumption | omega) only [f_X11_link, kb_X11_link_53, kb_X11_link_0, KL, KB, KC, KI, KJ, KZ, bI_0, bI_n, nI00, nI10, ne_eq, Classical.not_not, not_true_eq_false, not_false_eq_true, if_true, if_false, ite_not, ite_self, Bool.false_eq_true, nIne1, O_mo, m_isRoad _ m o c n _ hc6 em, m_isRoadN g m o a2 _ h2, hyr, hto, hne]
        · -- the road over there is none of six
          rcases in_cases a2 5 (by decide) with ⟨to, hto2, rfl⟩ | h2
          · have hto6 : to < 6 := by omega
            have hXt := isX_live to hto6
            obtain ⟨n', hx'⟩ := hR.at hto6
            obtain ⟨n3', n6', en', em', -⟩ := id hx'
            have h3' : ¬ (nI 0 ≤ a3 ∧ a3 ≤ nI (n' - 1)) := fun q => h3 ⟨q.1, Int32.le_trans q.2 (by rw [nIle (by omega) (by omega)]; omega)⟩
            refine ⟨nI 0, g, m, o, g, ?_, ?_, RT_mono _ _ _ _ hR⟩
            · simp (disch := first | assumption | omega) only [f_X10_link, kb_X10_link_21, kb_X10_link_77, kb_X10_link_0, KL, KB, KC, KI, KJ, KZ, bI_0, bI_n, nI00, nI10, ne_eq, Classical.not_not, not_true_eq_false, not_false_eq_true, if_true, if_false, ite_not, ite_self, Bool.false_eq_true, nIne1, O_fp, XO, c_at g m o c hc6, c_at g m o to hto6, x_hasRoad g m o _ n _ hX en, x_hasRoad g m o _ n' _ hXt en', hyr, h3', hto]
            · simp (disch := first | assumption | omega) only [f_X11_link, kb_X11_link_53, kb_X11_link_0, KL, KB, KC, KI, KJ, KZ, bI_0, bI_n, nI00, nI10, ne_eq, Classical.not_not, not_true_eq_false, not_false_eq_true, if_true, if_false, ite_not, ite_self, Bool.false_eq_true, nIne1, O_mo, m_isRoad _ m o c n _ hc6 em, m_isRoad _ m o to n' _ hto6 em', hyr, h3', hto]
          · refine ⟨nI 0, g, m, o, g, ?_, ?_, RT_mono _ _ _ _ hR⟩
            · simp (disch := first | assumption | omega) only [f_X10_link, kb_X10_link_21, kb_X10_link_77, kb_X10_link_0, KL, KB, KC, KI, KJ, KZ, bI_0, bI_n, nI00, nI10, ne_eq, Classical.not_not, not_true_eq_false, not_false_eq_true, if_true, if_false, ite_not, ite_self, Bool.false_eq_true, nIne1, O_fp, XO, c_at g m o c hc6, c_atN g m o a2 h2, x_hasRoad g m o _ n _ hX en, hyr, hto]
            · simp (disch := first | assumption | omega) only [f_X11_link, kb_X11_link_53, kb_X11_link_0, KL, KB, KC, KI, KJ, KZ, bI_0, bI_n, nI00, nI10, ne_eq, Classical.not_not, not_true_eq_false, not_false_eq_true, if_true, if_false, ite_not, ite_self, Bool.false_eq_true, nIne1, O_mo, m_isRoad _ m o c n _ hc6 em, m_isRoadN g m o a2 _ h2, hyr, hto]
    · refine ⟨nI 0, g, m, o, g, ?_, ?_, RT_mono _ _ _ _ hR⟩
      · simp (disch := first | assumption | omega) only [f_X10_link, kb_X10_link_21, kb_X10_link_77, kb_X10_link_0, KL, KB, KC, KI, KJ, KZ, bI_0, bI_n, nI00, nI10, ne_eq, Classical.not_not, not_true_eq_false, not_false_eq_true, if_true, if_false, ite_not, ite_self, Bool.false_eq_true, nIne1, O_fp, XO, c_at g m o c hc6, x_hasRoad g m o _ n _ hX en, h1]
      · simp (disch := first | assumption | omega) only [f_X11_link, kb_X11_link_53, kb_X11_link_0, KL, KB, KC, KI, KJ, KZ, bI_0, bI_n, nI00, nI10, ne_eq, Classical.not_not, not_true_eq_false, not_false_eq_true, if_true, if_false, ite_not, ite_self, Bool.false_eq_true, nIne1, O_mo, m_isRoad _ m o c n _ hc6 em, h1]
  · refine ⟨nI 0, g, m, o, g, ?_, ?_, RT_mono _ _ _ _ hR⟩
    · simp (disch := first | assumption | omega) only [f_X10_link, kb_X10_link_21, kb_X10_link_77, kb_X10_link_0, KL, KB, KC, KI, KJ, KZ, bI_0, bI_n, nI00, nI10, ne_eq, Classical.not_not, not_true_eq_false, not_false_eq_true, if_true, if_false, ite_not, ite_self, Bool.false_eq_true, nIne1, O_fp, c_atN g m o a0 h0]
    · simp (disch := first | assumption | omega) only [f_X11_link, kb_X11_link_53, kb_X11_link_0, KL, KB, KC, KI, KJ, KZ, bI_0, bI_n, nI00, nI10, ne_eq, Classical.not_not, not_true_eq_false, not_false_eq_true, if_true, if_false, ite_not, ite_self, Bool.false_eq_true, nIne1, O_mo, m_isRoadN g m o a0 a1 h0]
theorem ag_days (a0 a1 a2 : Int32) : Ag RT f_X10_days f_X11_days [.int a0, .int a1, .int a2] := by
  intro j g m o hj hR
  rcases in_cases a0 5 (by decide) with ⟨c, hc, rfl⟩ | h0
  · have hc6 : c < 6 := by omega
    have hX := isX_live c hc6
    obtain ⟨n, hx⟩ := hR.at hc6
    obtain ⟨n3, n6, en, em, fFa, fCa, fCo, fRo, fCt, fTo, fLi⟩ := id hx
    rcases in_cases a1 (n - 1) (by omega) with ⟨r, hr, rfl⟩ | h1
    · have hyr : (nI 0 ≤ nI r ∧ nI r ≤ nI (n - 1)) = True := eq_true (in_yes hr (by omega))
      obtain ⟨v0, p0, -, p1, p2⟩ := fCt 0 (by omega) r (by omega)
      obtain ⟨v1, q0, -, q1, q2⟩ := fCt 1 (by omega) r (by omega)
      obtain ⟨v2, s0, -, s1, s2⟩ := fCt 2 (by omega) r (by omega)
      obtain ⟨L, -, -, l3, l4, -⟩ := fRo r (by omega)
      simp only [Nat.mul_zero, Nat.zero_add, Nat.mul_one, show 6 * 2 = 12 from rfl, Nat.add_zero, Nat.reduceAdd] at p1 p2 q1 q2 s1 s2
      rw [Nat.add_assoc] at q2 s2
      rcases in_cases a2 4 (by decide) with ⟨w, hw, rfl⟩ | h2
      · have hyw : (nI 0 ≤ nI w ∧ nI w ≤ nI 4) = True := eq_true (in_yes hw (by omega))
        have hw' : w = 0 ∨ w = 1 ∨ w = 2 ∨ w = 3 ∨ w = 4 := by omega
        rcases hw' with rfl | rfl | rfl | rfl | rfl
        · refine ⟨nI v0, g, m, o, g, ?_, ?_, RT_mono _ _ _ _ hR⟩
          · simp (disch := first | assumption | omega) only [f_X10_days, kb_X10_days_29, kb_X10_days_99, kb_X10_days_0, KL, KB, KC, KI, KJ, KZ, bI_0, bI_n, nI00, nI10, ne_eq, Classical.not_not, not_true_eq_false, not_false_eq_true, if_true, if_false, ite_not, ite_self, Bool.false_eq_true, nIne1, O_fp, XO, c_at g m o c hc6, x_hasRoad g m o _ n _ hX en, c_within, hyr, hyw, nIeq, nI_mul, nI_add, Nat.zero_mul, Nat.zero_add, p1, Nat.reduceEqDiff]
          · simp (disch := first | assumption | omega) only [f_X11_days, kb_X11_days_110, kb_X11_days_0, KL, KB, KC, KI, KJ, KZ, bI_0, bI_n, nI00, nI10, ne_eq, Classical.not_not, not_true_eq_false, not_false_eq_true, if_true, if_false, ite_not, ite_self, Bool.false_eq_true, nIne1, O_mo, m_isRoad _ m o c n _ hc6 em, hyr, SW0, m_get, p2]
        · refine ⟨nI v1, g, m, o, g, ?_, ?_, RT_mono _ _ _ _ hR⟩
          · simp (disch := first | assumption | omega) only [f_X10_days, kb_X10_days_29, kb_X10_days_99, kb_X10_days_0, KL, KB, KC, KI, KJ, KZ, bI_0, bI_n, nI00, nI10, ne_eq, Classical.not_not, not_true_eq_false, not_false_eq_true, if_true, if_false, ite_not, ite_self, Bool.false_eq_true, nIne1, O_fp, XO, c_at g m o c hc6, x_hasRoad g m o _ n _ hX en, c_within, hyr, hyw, nIeq, nI_mul, nI_add, Nat.one_mul, q1, Nat.reduceEqDiff]
          · simp (disch := first | assumption | omega) only [f_X11_days, kb_X11_days_110, kb_X11_days_0, KL, KB, KC, KI, KJ, KZ, bI_0, bI_n, nI00, nI10, ne_eq, Classical.not_not, not_true_eq_false, not_false_eq_true, if_true, if_false, ite_not, ite_self, Bool.false_eq_true, nIne1, O_mo, m_isRoad _ m o c n _ hc6 em, hyr, SW1, m_get, q2]
        · refine ⟨nI v2, g, m, o, g, ?_, ?_, RT_mono _ _ _ _ hR⟩
          · simp (disch := first | assumption | omega) only [f_X10_days, kb_X10_days_29, kb_X10_days_99, kb_X10_days_0, KL, KB, KC, KI, KJ, KZ, bI_0, bI_n, nI00, nI10, ne_eq, Classical.not_not, not_true_eq_false, not_false_eq_true, if_true, if_false, ite_not, ite_self, Bool.false_eq_true, nIne1, O_fp, XO, c_at g m o c hc6, x_hasRoad g m o _ n _ hX en, c_within, hyr, hyw, nIeq, nI_mul, nI_add, Nat.reduceMul, s1, Nat.reduceEqDiff]
          · simp (disch := first | assumption | omega) only [f_X11_days, kb_X11_days_110, kb_X11_days_0, KL, KB, KC, KI, KJ, KZ, bI_0, bI_n, nI00, nI10, ne_eq, Classical.not_not, not_true_eq_false, not_false_eq_true, if_true, if_false, ite_not, ite_self, Bool.false_eq_true, nIne1, O_mo, m_isRoad _ m o c n _ hc6 em, hyr, SW2, m_get, s2]
        · by_cases hz : v0 = 0
          · subst hz
            refine ⟨-1, g, m, o, g, ?_, ?_, RT_mono _ _ _ _ hR⟩
            · simp (disch := first | assumption | omega) only [f_X10_days, kb_X10_days_29, kb_X10_days_99, kb_X10_days_0, KL, KB, KC, KI, KJ, KZ, bI_0, bI_n, nI00, nI10, ne_eq, Classical.not_not, not_true_eq_false, not_false_eq_true, if_true, if_false, ite_not, ite_self, Bool.false_eq_true, nIne1, O_fp, XO, c_at g m o c hc6, x_hasRoad g m o _ n _ hX en, c_within, hyr, hyw, nIeq, nIle0, nI_mul, nI_add, Nat.zero_add, p1, Nat.reduceEqDiff]
            · simp (disch := first | assumption | omega) only [f_X11_days, kb_X11_days_110, kb_X11_days_0, KL, KB, KC, KI, KJ, KZ, bI_0, bI_n, nI00, nI10, ne_eq, Classical.not_not, not_true_eq_false, not_false_eq_true, if_true, if_false, ite_not, ite_self, Bool.false_eq_true, nIne1, O_mo, m_isRoad _ m o c n _ hc6 em, hyr, SW3, m_get, p2]
          · refine ⟨nI 100 * nI v1 / nI v0, g, m, o, g, ?_, ?_, RT_mono _ _ _ _ hR⟩
            · simp (disch := first | assumption | omega) only [f_X10_days, kb_X10_days_29, kb_X10_days_99, kb_X10_days_0, KL, KB, KC, KI, KJ, KZ, bI_0, bI_n, nI00, nI10, ne_eq, Classical.not_not, not_true_eq_false, not_false_eq_true, if_true, if_false, ite_not, ite_self, Bool.false_eq_true, nIne1, O_fp, XO, c_at g m o c hc6, x_hasRoad g m o _ n _ hX en, c_within, hyr, hyw, nIeq, nIle0, nI_add, Nat.zero_add, p1, q1, hz, nIk0, Nat.reduceEqDiff]
            · simp (disch := first | assumption | omega) only [f_X11_days, kb_X11_days_110, kb_X11_days_0, KL, KB, KC, KI, KJ, KZ, bI_0, bI_n, nI00, nI10, ne_eq, Classical.not_not, not_true_eq_false, not_false_eq_true, if_true, if_false, ite_not, ite_self, Bool.false_eq_true, nIne1, O_mo, m_isRoad _ m o c n _ hc6 em, hyr, SW3, m_get, p2, q2, nIk0, hz]
        · refine ⟨nI L.length, g, m, o, g, ?_, ?_, RT_mono _ _ _ _ hR⟩
          · simp (disch := first | assumption | omega) only [f_X10_days, kb_X10_days_29, kb_X10_days_99, kb_X10_days_0, KL, KB, KC, KI, KJ, KZ, bI_0, bI_n, nI00, nI10, ne_eq, Classical.not_not, not_true_eq_false, not_false_eq_true, if_true, if_false, ite_not, ite_self, Bool.false_eq_true, nIne1, O_fp, XO, c_at g m o c hc6, x_hasRoad g m o _ n _ hX en, c_within, hyr, hyw, nIeq, l3, Nat.reduceEqDiff]
          · simp (disch := first | assumption | omega) only [f_X11_days, kb_X11_days_110, kb_X11_days_0, KL, KB, KC, KI, KJ, KZ, bI_0, bI_n, nI00, nI10, ne_eq, Classical.not_not, not_true_eq_false, not_false_eq_true, if_true, if_false, ite_not, ite_self, Bool.false_eq_true, nIne1, O_mo, m_isRoad _ m o c n _ hc6 em, hyr, SW4, m_get, l4]
      · refine ⟨-2, g, m, o, g, ?_, ?_, RT_mono _ _ _ _ hR⟩
        · simp (disch := first | assumption | omega) only [f_X10_days, kb_X10_days_29, kb_X10_days_99, kb_X10_days_0, KL, KB, KC, KI, KJ, KZ, bI_0, bI_n, nI00, nI10, ne_eq, Classical.not_not, not_true_eq_false, not_false_eq_true, if_true, if_false, ite_not, ite_self, Bool.false_eq_true, nIne1, O_fp, XO, c_at g m o c hc6, x_hasRoad g m o _ n _ hX en, c_within, hyr, h2]
        · simp (disch := first | assumption | omega) only [f_X11_days, kb_X11_days_110, kb_X11_days_0, KL, KB, KC, KI, KJ, KZ, bI_0, bI_n, nI00, nI10, ne_eq, Classical.not_not, not_true_eq_false, not_false_eq_true, if_true, if_false, ite_not, ite_self, Bool.false_eq_true, nIne1, O_mo, m_isRoad _ m o c n _ hc6 em, hyr, SWN5 h2]
    · refine ⟨-2, g, m, o, g, ?_, ?_, RT_mono _ _ _ _ hR⟩
      · simp (disch := first | assumption | omega) only [f_X10_days, kb_X10_days_29, kb_X10_days_99, kb_X10_days_0, KL, KB, KC, KI, KJ, KZ, bI_0, bI_n, nI00, nI10, ne_eq, Classical.not_not, not_true_eq_false, not_false_eq_true, if_true, if_false, ite_not, ite_self, Bool.false_eq_true, nIne1, O_fp, XO, c_at g m o c hc6, x_hasRoad g m o _ n _ hX en, h1]
      · simp (disch := first | assumption | omega) only [f_X11_days, kb_X11_days_110, kb_X11_days_0, KL, KB, KC, KI, KJ, KZ, bI_0, bI_n, nI00, nI10, ne_eq, Classical.not_not, not_true_eq_false, not_false_eq_true, if_true, if_false, ite_not, ite_self, Bool.false_eq_true, nIne1, O_mo, m_isRoad _ m o c n _ hc6 em, h1]
  · refine ⟨-2, g, m, o, g, ?_, ?_, RT_mono _ _ _ _ hR⟩
    · simp (disch := first | assumption | omega) only [f_X10_days, kb_X10_days_29, kb_X10_days_99, kb_X10_days_0, KL, KB, KC, KI, KJ, KZ, bI_0, bI_n, nI00, nI10, ne_eq, Classical.not_not, not_true_eq_false, not_false_eq_true, if_true, if_false, ite_not, ite_self, Bool.false_eq_true, nIne1, O_fp, c_atN g m o a0 h0]
    · simp (disch := first | assumption | omega) only [f_X11_days, kb_X11_days_110, kb_X11_days_0, KL, KB, KC, KI, KJ, KZ, bI_0, bI_n, nI00, nI10, ne_eq, Classical.not_not, not_true_eq_false, not_false_eq_true, if_true, if_false, ite_not, ite_self, Bool.false_eq_true, nIne1, O_mo, m_isRoadN g m o a0 a1 h0]
