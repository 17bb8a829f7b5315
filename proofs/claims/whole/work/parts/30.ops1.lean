-- ===== agreements: state, land, fault, end =====
theorem WR.rest {g g' : GG} {b w q q' : Nat} (h : WR g b w q) (hq : q ≤ q') (h0 : g' (b + 1) 0 = g' w 0) (h1 : ∀ a, b + 2 ≤ a → a ≤ b + 76 → g' a = g a) (h2 : ∀ i, 1 ≤ i → i < 6870 → g' w i = g w i) : WR g' b w q' := by
  obtain ⟨a1, a2, a3, a4⟩ := h
  refine ⟨h0, fun k hk => ?_, fun k hk => ?_, fun c hc => ?_⟩
  · obtain ⟨v, v1, v2, v3⟩ := a2 k hk
    exact ⟨v, v1, by rw [h1 _ (by omega) (by omega)]; exact v2, by rw [h2 _ (by omega) (by omega)]; exact v3⟩
  · obtain ⟨rl, r1, r2, r3⟩ := a3 k hk
    exact ⟨rl, r1, r2.congr (fun a _ _ => h1 a (by omega) (by omega)), r3.congr r1 hk (fun i _ hi => h2 i (by omega) hi)⟩
  · exact (a4 c hc).congr hq (fun a _ _ => h1 a (by omega) (by omega)) (fun i hi => h2 _ (by omega) (by omega))
theorem WR.cross {g g' : GG} {b w q q' c : Nat} (h : WR g b w q) (hq : q ≤ q') (hc : c < 6) (h1 : ∀ a, b + 1 ≤ a → a ≤ b + 76 → (a < b + 17 + 10 * c ∨ b + 17 + 10 * c + 9 < a) → g' a = g a) (h2 : ∀ i, i < 6870 → (i < 10 + 560 * c ∨ 10 + 560 * c + 560 ≤ i) → g' w i = g w i) (hx : XR g' (b + 17 + 10 * c) w (10 + 560 * c) q') : WR g' b w q' := by
  obtain ⟨a1, a2, a3, a4⟩ := h
  refine ⟨by rw [h1 _ (by omega) (by omega) (by omega), h2 _ (by omega) (by omega)]; exact a1, fun k hk => ?_, fun k hk => ?_, fun d hd => ?_⟩
  · obtain ⟨v, v1, v2, v3⟩ := a2 k hk
    exact ⟨v, v1, by rw [h1 _ (by omega) (by omega) (by omega)]; exact v2, by rw [h2 _ (by omega) (by omega)]; exact v3⟩
  · obtain ⟨rl, r1, r2, r3⟩ := a3 k hk
    exact ⟨rl, r1, r2.congr (fun a _ _ => h1 a (by omega) (by omega) (by omega)), r3.congr r1 hk (fun i _ hi => h2 i hi (by omega))⟩
  · by_cases hdc : d = c
    · subst hdc; exact hx
    · exact (a4 d hd).congr hq (fun a _ _ => h1 a (by omega) (by omega) (by omega)) (fun i hi => h2 _ (by omega) (by omega))
theorem ag_state (a0 : Int32) : Ag RT f_X10_state f_X11_state [.int a0] := by
  intro j g m o hj hR
  have hW := hR.1
  have e0 : g 189 0 = g 1 0 := hW.1.symm
  refine ⟨g 1 0, upd2 g 1 0 a0, m, o, upd2 (upd2 g 1 0 a0) 189 0 a0, ?_, ?_, ?_⟩
  · simp (disch := omega) only [f_X10_state, kb_X10_state_0, KL, KB, O_fp, O_w]
  · simp (disch := omega) only [f_X11_state, kb_X11_state_0, KL, KB, O_mo, AR, upd2_other, e0]
  · refine RT_other hR (hW.rest (by omega) (by simp (disch := omega) only [Nat.zero_add, upd2_same, upd2_other]) (fun a _ _ => ?_) (fun i _ _ => ?_)) (fun a _ _ => ?_) ?_ (fun a _ _ => ?_) ?_ ?_ (fun i _ => ?_)
    all_goals simp (disch := omega) only [upd2_ne, upd2_other]
theorem ag_land (a0 a1 : Int32) : Ag RT f_X10_land f_X11_land [.int a0, .int a1] := by
  intro j g m o hj hR
  have hW := hR.1
  rcases in_cases a0 1 (by decide) with ⟨k, hk, rfl⟩ | h0
  · have hy : (nI 0 ≤ nI k ∧ nI k ≤ nI 1) = True := eq_true (in_yes hk (by decide))
    rcases in_cases a1 3 (by decide) with ⟨r, hr, rfl⟩ | h1
    · have hz : (nI 0 ≤ nI r ∧ nI r ≤ nI 3) = True := eq_true (in_yes hr (by decide))
      refine ⟨nI 1, upd2 g 2 k (nI r), m, o, upd2 (upd2 g 2 k (nI r)) 189 (1 + k) (nI r), ?_, ?_, ?_⟩
      · simp (disch := omega) only [f_X10_land, kb_X10_land_16, kb_X10_land_0, KL, KB, KC, KI, KJ, KZ, bI_0, bI_n, nI00, nI10, ne_eq, Classical.not_not, not_true_eq_false, not_false_eq_true, if_true, if_false, ite_not, ite_self, Bool.false_eq_true, O_fp, O_w, AR, c_within, hy, hz]
      · simp (disch := omega) only [f_X11_land, kb_X11_land_18, kb_X11_land_0, KL, KB, KC, KI, KJ, KZ, bI_0, bI_n, nI00, nI10, ne_eq, Classical.not_not, not_true_eq_false, not_false_eq_true, if_true, if_false, ite_not, ite_self, Bool.false_eq_true, O_mo, AR, m_isIn, hy, hz, nI_add]
      · obtain ⟨w1, w2, w3, w4⟩ := hW
        refine RT_other hR ⟨?_, fun k2 hk2 => ?_, fun k2 hk2 => ?_, fun c hc => ?_⟩ (fun a _ _ => ?_) ?_ (fun a _ _ => ?_) ?_ ?_ (fun i _ => ?_)
        · simp (disch := omega) only [upd2_other, Nat.zero_add]; exact w1
        · by_cases hkk : k2 = k
          · subst hkk
            exact ⟨r, by omega, by simp (disch := omega) only [upd2_other, upd2_same, Nat.zero_add], by simp (disch := omega) only [upd2_same]⟩
          · obtain ⟨v, v1, v2, v3⟩ := w2 k2 hk2
            exact ⟨v, v1, by simp (disch := omega) only [upd2_other, Nat.zero_add]; exact v2, by simp (disch := omega) only [upd2_other]; exact v3⟩
        · obtain ⟨rl, r1, r2, r3⟩ := w3 k2 hk2
          exact ⟨rl, r1, r2.congr (fun a _ _ => by simp (disch := omega) only [upd2_ne]), r3.congr r1 hk2 (fun i _ hi => by simp (disch := omega) only [upd2_other])⟩
        · exact (w4 c hc).congr (by omega) (fun a _ _ => by simp (disch := omega) only [upd2_ne]) (fun i hi => by simp (disch := omega) only [upd2_other])
        all_goals simp (disch := omega) only [upd2_ne, upd2_other]
    · refine ⟨nI 0, g, m, o, g, ?_, ?_, RT_mono _ _ _ _ hR⟩
      · simp (disch := omega) only [f_X10_land, kb_X10_land_16, kb_X10_land_0, KL, KB, KC, KI, KJ, KZ, bI_0, bI_n, nI00, nI10, ne_eq, Classical.not_not, not_true_eq_false, not_false_eq_true, if_true, if_false, ite_not, ite_self, Bool.false_eq_true, O_fp, O_w, AR, c_within, hy, h1]
      · simp (disch := omega) only [f_X11_land, kb_X11_land_18, kb_X11_land_0, KL, KB, KC, KI, KJ, KZ, bI_0, bI_n, nI00, nI10, ne_eq, Classical.not_not, not_true_eq_false, not_false_eq_true, if_true, if_false, ite_not, ite_self, Bool.false_eq_true, O_mo, AR, m_isIn, hy, h1]
  · refine ⟨nI 0, g, m, o, g, ?_, ?_, RT_mono _ _ _ _ hR⟩
    · simp (disch := omega) only [f_X10_land, kb_X10_land_16, kb_X10_land_0, KL, KB, KC, KI, KJ, KZ, bI_0, bI_n, nI00, nI10, ne_eq, Classical.not_not, not_true_eq_false, not_false_eq_true, if_true, if_false, ite_not, ite_self, Bool.false_eq_true, O_fp, O_w, AR, c_within, h0]
    · simp (disch := omega) only [f_X11_land, kb_X11_land_18, kb_X11_land_0, KL, KB, KC, KI, KJ, KZ, bI_0, bI_n, nI00, nI10, ne_eq, Classical.not_not, not_true_eq_false, not_false_eq_true, if_true, if_false, ite_not, ite_self, Bool.false_eq_true, O_mo, AR, m_isIn, h0]
theorem ag_fault (a0 : Int32) : Ag RT f_X10_fault f_X11_fault [.int a0] := by
  intro j g m o hj hR
  have h1 : g 158 2 = g 188 17 := hR.2.2.1
  have h2 : g 158 3 = g 188 19 := hR.2.2.2.1
  by_cases c0 : a0 = 0
  · refine ⟨g 158 2, g, m, o, g, ?_, ?_, RT_mono _ _ _ _ hR⟩
    · simp (disch := omega) only [f_X10_fault, kb_X10_fault_28, kb_X10_fault_0, KL, KB, KC, KI, KJ, KZ, bI_0, bI_n, nI00, nI10, ne_eq, Classical.not_not, not_true_eq_false, not_false_eq_true, if_true, if_false, ite_not, ite_self, Bool.false_eq_true, O_fp, O_rd, c0]
    · simp (disch := omega) only [f_X11_fault, kb_X11_fault_24, kb_X11_fault_0, KL, KB, KC, KI, KJ, KZ, bI_0, bI_n, nI00, nI10, ne_eq, Classical.not_not, not_true_eq_false, not_false_eq_true, if_true, if_false, ite_not, ite_self, Bool.false_eq_true, O_mo, c0, h1]
  · by_cases c1 : a0 = nI 1
    · refine ⟨g 158 3, g, m, o, g, ?_, ?_, RT_mono _ _ _ _ hR⟩
      · simp (disch := omega) only [f_X10_fault, kb_X10_fault_28, kb_X10_fault_0, KL, KB, KC, KI, KJ, KZ, bI_0, bI_n, nI00, nI10, ne_eq, Classical.not_not, not_true_eq_false, not_false_eq_true, if_true, if_false, ite_not, ite_self, Bool.false_eq_true, O_fp, O_rd, c0, c1]
      · simp (disch := omega) only [f_X11_fault, kb_X11_fault_24, kb_X11_fault_0, KL, KB, KC, KI, KJ, KZ, bI_0, bI_n, nI00, nI10, ne_eq, Classical.not_not, not_true_eq_false, not_false_eq_true, if_true, if_false, ite_not, ite_self, Bool.false_eq_true, O_mo, c0, c1, h2]
    · refine ⟨-1, g, m, o, g, ?_, ?_, RT_mono _ _ _ _ hR⟩
      · simp (disch := omega) only [f_X10_fault, kb_X10_fault_28, kb_X10_fault_0, KL, KB, KC, KI, KJ, KZ, bI_0, bI_n, nI00, nI10, ne_eq, Classical.not_not, not_true_eq_false, not_false_eq_true, if_true, if_false, ite_not, ite_self, Bool.false_eq_true, O_fp, O_rd, c0, c1]
      · simp (disch := omega) only [f_X11_fault, kb_X11_fault_24, kb_X11_fault_0, KL, KB, KC, KI, KJ, KZ, bI_0, bI_n, nI00, nI10, ne_eq, Classical.not_not, not_true_eq_false, not_false_eq_true, if_true, if_false, ite_not, ite_self, Bool.false_eq_true, O_mo, c0, c1]
theorem ag_end (a0 : Int32) : Ag RT f_X10_end f_X11_end [.int a0] := by
  intro j g m o hj hR
  obtain ⟨L, hL, e1, e2, e3, e4, e5⟩ := hR.2.1
  rcases in_cases a0 L (by omega) with ⟨k, hk, rfl⟩ | h0
  · have hy : (nI 0 ≤ nI k ∧ nI k ≤ nI L) = True := eq_true (in_yes hk (by omega))

    refine ⟨nI 1, upd2 g 158 1 (nI k), m, o, upd2 (upd2 g 158 1 (nI k)) 188 10 (nI k), ?_, ?_, ?_⟩
    · simp (disch := omega) only [f_X10_end, kb_X10_end_15, kb_X10_end_0, KL, KB, KC, KI, KJ, KZ, bI_0, bI_n, nI00, nI10, ne_eq, Classical.not_not, not_true_eq_false, not_false_eq_true, if_true, if_false, ite_not, ite_self, Bool.false_eq_true, O_fp, O_rd, nIlt0, nIle, hk, e1]
    · simp (disch := omega) only [f_X11_end, kb_X11_end_0, KL, KB, KC, KI, KJ, KZ, bI_0, bI_n, nI00, nI10, ne_eq, Classical.not_not, not_true_eq_false, not_false_eq_true, if_true, if_false, ite_not, ite_self, Bool.false_eq_true, O_mo, AR, m_isIn, upd2_other, e2, hy]
    · have hW := hR.1
      obtain ⟨r1, r2, r3, r4, r5, r6, r7, r8, r9⟩ := hR
      refine ⟨hW.congr (by omega) (fun a _ _ => ?_) (fun i _ => ?_), ⟨k, by omega, ?_, ?_, fun i hi => ?_, ?_, ?_⟩, ?_, ?_, r5.congr (by omega) ?_ ?_ (fun a _ _ => ?_) ?_, r6.congr (fun a _ _ => ?_), ?_, ?_, ?_⟩
      all_goals simp (disch := omega) only [upd2_ne, upd2_other, upd2_same]
      · exact e3 i (by omega)
      · exact e4
      · exact e5
      · exact r3
      · exact r4
      · exact r7
      · exact r8
      · exact r9
  · refine ⟨nI 0, g, m, o, g, ?_, ?_, RT_mono _ _ _ _ hR⟩
    · by_cases c0 : a0 < 0
      · simp (disch := omega) only [f_X10_end, kb_X10_end_15, kb_X10_end_0, KL, KB, KC, KI, KJ, KZ, bI_0, bI_n, nI00, nI10, ne_eq, Classical.not_not, not_true_eq_false, not_false_eq_true, if_true, if_false, ite_not, ite_self, Bool.false_eq_true, O_fp, O_rd, c0, e1]
      · have c1 : ¬ a0 ≤ nI L := fun q => h0 ⟨Int32.not_lt.mp c0, q⟩
        simp (disch := omega) only [f_X10_end, kb_X10_end_15, kb_X10_end_0, KL, KB, KC, KI, KJ, KZ, bI_0, bI_n, nI00, nI10, ne_eq, Classical.not_not, not_true_eq_false, not_false_eq_true, if_true, if_false, ite_not, ite_self, Bool.false_eq_true, O_fp, O_rd, c0, c1, e1]
    · simp (disch := omega) only [f_X11_end, kb_X11_end_0, KL, KB, KC, KI, KJ, KZ, bI_0, bI_n, nI00, nI10, ne_eq, Classical.not_not, not_true_eq_false, not_false_eq_true, if_true, if_false, ite_not, ite_self, Bool.false_eq_true, O_mo, AR, m_isIn, e2, h0]
