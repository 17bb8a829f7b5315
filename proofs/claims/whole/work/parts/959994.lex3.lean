-- ===== tokens: the model's next =====
def cdS (s : Nat) : Nat := if s < 8 then s + 14 else s - 8
theorem cd_tab : (List.range 22).all (fun k => decide (SRn.getD (k + 2) 0 = kwN (cdS (k + 2))) && (List.range (SRn.getD (k + 2) 0)).all (fun j => decide (chI (k + 2) j = kwI (cdS (k + 2)) j))) = true := by decide +kernel
theorem cd_ok {s : Nat} (h2 : 2 ≤ s) (h24 : s < 24) : SRn.getD s 0 = kwN (cdS s) ∧ ∀ j, j < SRn.getD s 0 → chI s j = kwI (cdS s) j := by
  have h := cd_tab
  rw [List.all_eq_true] at h
  have h1 := h (s - 2) (List.mem_range.mpr (by omega))
  rw [show s - 2 + 2 = s by omega, Bool.and_eq_true, List.all_eq_true] at h1
  exact ⟨of_decide_eq_true h1.1, fun j hj => of_decide_eq_true (h1.2 j (List.mem_range.mpr hj))⟩
theorem uq_tab : (List.range 22).all (fun i => (List.range 22).all (fun j => decide (i = j) || decide (kwN i ≠ kwN j) || (List.range (kwN i)).any (fun k => decide (kwI i k ≠ kwI j k)))) = true := by decide +kernel
theorem kw_uq {t : Nat → Nat} {q n i j : Nat} (hi : i < 22) (hj : j < 22) (h1 : kwB t q n i = true) (h2 : kwB t q n j = true) : i = j := by
  have h := uq_tab
  rw [List.all_eq_true] at h
  have h3 := h i (List.mem_range.mpr hi)
  rw [List.all_eq_true] at h3
  have h4 := h3 j (List.mem_range.mpr hj)
  unfold kwB at h1 h2
  rw [Bool.and_eq_true, decide_eq_true_eq, decide_eq_true_eq] at h1 h2
  rw [Bool.or_eq_true, Bool.or_eq_true, decide_eq_true_eq, decide_eq_true_eq, List.any_eq_true] at h4
  rcases h4 with (h4 | h4) | ⟨k, k1, k2⟩
  · exact h4
  · exact (h4 (by omega)).elim
  · have hk := List.mem_range.mp k1
    have := of_decide_eq_true k2
    exact (this ((h1.2 k (by omega)).symm.trans (h2.2 k (by omega)))).elim
theorem kwC_eq {t : Nat → Nat} {q n i : Nat} (hi : i < 22) (h : kwB t q n i = true) : kwC t q n = i := by
  rcases kwF_cases t q n 22 0 with ⟨a, b⟩ | ⟨j, a, b, c, d, f⟩
  · rw [b i (by omega) (by omega)] at h; cases h
  · show kwF t q n 22 0 = i
    rw [c]
    exact kw_uq (by omega) hi d h
theorem kwC_no {t : Nat → Nat} {q n : Nat} (h : ∀ i, i < 22 → kwB t q n i = false) : kwC t q n = 34 := by
  rcases kwF_cases t q n 22 0 with ⟨a, b⟩ | ⟨j, a, b, c, d, f⟩
  · exact a
  · rw [h j (by omega)] at d; cases d
def TPM (g : GG) (t : Nat → Nat) (L : Nat) : Prop := L ≤ 400 ∧ g 188 10 = nI L ∧ ∀ i, i < L → g 193 i = nI (t i) ∧ t i < 256
theorem m_is {g : GG} {m o q e L s : Nat} {t : Nat → Nat} (hT : TPM g t L) (h11 : g 188 11 = nI e) (h13 : g 188 13 = nI q) (hqe : q ≤ e) (heL : e ≤ L) (s2 : 2 ≤ s) (s24 : s < 24) : f_X11_is [.ref 188, .ref (OUT + 2 * s)] (hp g m o) = some (some (.int (bW (kwB t q (e - q) (cdS s)))), hp g m o) := by
  have zt : (bW true = 0) = False := eq_false (by decide)
  have zf : (bW false = 0) = True := eq_true rfl
  obtain ⟨hL, hl1, htp⟩ := hT
  obtain ⟨c1, c2⟩ := cd_ok s2 s24
  have hb := srn_b s24
  have el := fun h => s_length s24 h
  have hkw : kwB t q (e - q) (cdS s) = (decide (SRn.getD s 0 = e - q) && decide (∀ j, j < e - q → nI (t (q + j)) = kwI (cdS s) j)) := by unfold kwB; rw [c1]
  -- the loop, from a truth
  have loop : ∀ b : Bool, b = decide (SRn.getD s 0 = e - q) → kl_X11_is_24 [.ref 188, .ref (OUT + 2 * s), .int (bW b), .int (nI 0)] [] (hp g m o) = some (some (.int (bW (kwB t q (e - q) (cdS s)))), hp g m o) := by
    intro b hb'
    unfold kl_X11_is_24
    refine kFor (SRn.getD s 0) (by unfold FU; omega) (fun k ls h => ls = [.ref 188, .ref (OUT + 2 * s), .int (bW (decide (SRn.getD s 0 = e - q) && decide (∀ j, j < k → nI (t (q + j)) = kwI (cdS s) j))), .int (nI k)] ∧ h = hp g m o) (fun r => r = some (some (.int (bW (kwB t q (e - q) (cdS s)))), hp g m o)) ?_ ?_ 0 _ _ (by omega) ⟨?_, rfl⟩
    · rintro s0 ls h ⟨rfl, rfl⟩
      have hin : (SRn.getD s 0 ≤ SRn.getD s 0) = True := eq_true (Nat.le_refl _)
      have hres : (decide (SRn.getD s 0 = e - q) && decide (∀ j, j < SRn.getD s 0 → nI (t (q + j)) = kwI (cdS s) j)) = kwB t q (e - q) (cdS s) := by
        rw [hkw]
        by_cases c : SRn.getD s 0 = e - q
        · rw [c]
        · rw [decide_eq_false c]; rfl
      rw [hres]
      cases kwB t q (e - q) (cdS s) with
      | true => simp (disch := first | assumption | omega) only [kb_X11_is_67, KL, KB, KC, KI, KJ, KZ, bI_0, bI_n, nI00, nI10, ne_eq, Classical.not_not, not_true_eq_false, not_false_eq_true, if_true, if_false, ite_not, ite_self, Bool.false_eq_true, nIne1, kMask, mask, mask_n, S_rc0, el, nIle, hin, bW_t]
      | false => simp (disch := first | assumption | omega) only [kb_X11_is_67, KL, KB, KC, KI, KJ, KZ, bI_0, bI_n, nI00, nI10, ne_eq, Classical.not_not, not_true_eq_false, not_false_eq_true, if_true, if_false, ite_not, ite_self, Bool.false_eq_true, nIne1, kMask, mask, mask_n, S_rc0, el, nIle, hin, bW_f]
    · rintro s0 k hk ih ls h ⟨rfl, rfl⟩
      have hin : (SRn.getD s 0 ≤ k) = False := eq_false (by omega)
      cases hc : (decide (SRn.getD s 0 = e - q) && decide (∀ j, j < k → nI (t (q + j)) = kwI (cdS s) j)) with
      | false =>
        have hno : kwB t q (e - q) (cdS s) = false := by
          cases hk2 : kwB t q (e - q) (cdS s) with
          | false => rfl
          | true =>
            rw [hkw, Bool.and_eq_true, decide_eq_true_eq, decide_eq_true_eq] at hk2
            rw [decide_eq_true hk2.1, decide_eq_true (fun j hj => hk2.2 j (by omega))] at hc
            cases hc
        rw [hno]
        have zz : (bW false = 0) = True := zf
        simp (disch := first | assumption | omega) only [kb_X11_is_67, KL, KB, KC, KI, KJ, KZ, bI_0, bI_n, nI00, nI10, ne_eq, Classical.not_not, not_true_eq_false, not_false_eq_true, if_true, if_false, ite_not, ite_self, Bool.false_eq_true, nIne1, kMask, mask, mask_n, S_rc0, el, nIle, hin, zz, bW_f, nI00]
      | true =>
        rw [Bool.and_eq_true, decide_eq_true_eq, decide_eq_true_eq] at hc
        have hqk : q + k < e := by omega
        have q400 : q + k < 400 := by omega
        obtain ⟨ht, -⟩ := htp (q + k) (by omega)
        have hch := fun h => s_charAt s24 hk h
        rw [c2 k hk] at hch
        by_cases w : nI (t (q + k)) = kwI (cdS s) k
        · have w' : (nI (t (q + k)) = kwI (cdS s) k) = True := eq_true w
          have hnext : (decide (SRn.getD s 0 = e - q) && decide (∀ j, j < k + 1 → nI (t (q + j)) = kwI (cdS s) j)) = true := by
            rw [decide_eq_true hc.1, decide_eq_true (fun j hj => ?_)]
            · rfl
            · by_cases x : j = k
              · rw [x]; exact w
              · exact hc.2 j (by omega)
          simp (disch := first | assumption | omega) only [kb_X11_is_60, KL, KB, KC, KI, KJ, KZ, bI_0, bI_n, nI00, nI10, ne_eq, Classical.not_not, not_true_eq_false, not_false_eq_true, if_true, if_false, ite_not, ite_self, Bool.false_eq_true, nIne1, kMask, mask, mask_n, O_mo, AR, S_rc0, S_rc1, el, nIle, hin, zt, h13, nI_add, ht, hch, w']
          exact ih _ _ ⟨by rw [hnext]; rfl, rfl⟩
        · have w' : (nI (t (q + k)) = kwI (cdS s) k) = False := eq_false w
          have hnext : (decide (SRn.getD s 0 = e - q) && decide (∀ j, j < k + 1 → nI (t (q + j)) = kwI (cdS s) j)) = false := by
            rw [decide_eq_false (p := ∀ j, j < k + 1 → nI (t (q + j)) = kwI (cdS s) j) (fun x => w (x k (by omega))), Bool.and_false]
          simp (disch := first | assumption | omega) only [kb_X11_is_60, KL, KB, KC, KI, KJ, KZ, bI_0, bI_n, nI00, nI10, ne_eq, Classical.not_not, not_true_eq_false, not_false_eq_true, if_true, if_false, ite_not, ite_self, Bool.false_eq_true, nIne1, kMask, mask, mask_n, O_mo, AR, S_rc0, S_rc1, el, nIle, hin, zt, h13, nI_add, ht, hch, w']
          exact ih _ _ ⟨by rw [hnext]; rfl, rfl⟩
    · rw [hb', decide_eq_true (p := ∀ j, j < 0 → nI (t (q + j)) = kwI (cdS s) j) (fun j hj => absurd hj (Nat.not_lt_zero _)), Bool.and_true]
  by_cases c : SRn.getD s 0 = e - q
  · have c' : (e - q = SRn.getD s 0) = True := eq_true c.symm
    have := loop true (decide_eq_true c).symm
    simp (disch := first | assumption | omega) only [f_X11_is, kb_X11_is_0, kb_X11_is_21, KL, KB, KC, KI, KJ, KZ, bI_0, bI_n, nI00, nI10, ne_eq, Classical.not_not, not_true_eq_false, not_false_eq_true, if_true, if_false, ite_not, ite_self, Bool.false_eq_true, nIne1, O_mo, h11, h13, nI_sub, S_rc0, el, nIeq, c']
    exact this
  · have c' : (e - q = SRn.getD s 0) = False := eq_false (fun x => c x.symm)
    have := loop false (decide_eq_false c).symm
    simp (disch := first | assumption | omega) only [f_X11_is, kb_X11_is_0, kb_X11_is_21, KL, KB, KC, KI, KJ, KZ, bI_0, bI_n, nI00, nI10, ne_eq, Classical.not_not, not_true_eq_false, not_false_eq_true, if_true, if_false, ite_not, ite_self, Bool.false_eq_true, nIne1, O_mo, h11, h13, nI_sub, S_rc0, el, nIeq, c']
    exact this
set_option maxRecDepth 100000 in
theorem m_wordK {g : GG} {m o q e L : Nat} {t : Nat → Nat} (hT : TPM g t L) (h11 : g 188 11 = nI e) (h13 : g 188 13 = nI q) (hqe : q ≤ e) (heL : e ≤ L) : f_X11_word [.ref 188] (hp g m o) = some (some (.int (nI (mTk (kwC t q (e - q))))), hp g m o) := by
  have zt : (bW true = 0) = False := eq_false (by decide)
  have zf : (bW false = 0) = True := eq_true rfl
  have es := fun s (h2 : 2 ≤ s) (h24 : s < 24) => m_is (m := m) (o := o) hT h11 h13 hqe heL h2 h24
  have e2 := es 2 (by decide) (by decide)
  have e3 := es 3 (by decide) (by decide)
  have e4 := es 4 (by decide) (by decide)
  have e5 := es 5 (by decide) (by decide)
  have e6 := es 6 (by decide) (by decide)
  have e7 := es 7 (by decide) (by decide)
  have e8 := es 8 (by decide) (by decide)
  have e9 := es 9 (by decide) (by decide)
  have e10 := es 10 (by decide) (by decide)
  have e11 := es 11 (by decide) (by decide)
  have e12 := es 12 (by decide) (by decide)
  have e13 := es 13 (by decide) (by decide)
  have e14 := es 14 (by decide) (by decide)
  have e15 := es 15 (by decide) (by decide)
  have e16 := es 16 (by decide) (by decide)
  have e17 := es 17 (by decide) (by decide)
  have e18 := es 18 (by decide) (by decide)
  have e19 := es 19 (by decide) (by decide)
  have e20 := es 20 (by decide) (by decide)
  have e21 := es 21 (by decide) (by decide)
  have e22 := es 22 (by decide) (by decide)
  have e23 := es 23 (by decide) (by decide)
  rw [show cdS 2 = 16 from rfl] at e2
  rw [show cdS 3 = 17 from rfl] at e3
  rw [show cdS 4 = 18 from rfl] at e4
  rw [show cdS 5 = 19 from rfl] at e5
  rw [show cdS 6 = 20 from rfl] at e6
  rw [show cdS 7 = 21 from rfl] at e7
  rw [show cdS 8 = 0 from rfl] at e8
  rw [show cdS 9 = 1 from rfl] at e9
  rw [show cdS 10 = 2 from rfl] at e10
  rw [show cdS 11 = 3 from rfl] at e11
  rw [show cdS 12 = 4 from rfl] at e12
  rw [show cdS 13 = 5 from rfl] at e13
  rw [show cdS 14 = 6 from rfl] at e14
  rw [show cdS 15 = 7 from rfl] at e15
  rw [show cdS 16 = 8 from rfl] at e16
  rw [show cdS 17 = 9 from rfl] at e17
  rw [show cdS 18 = 10 from rfl] at e18
  rw [show cdS 19 = 11 from rfl] at e19
  rw [show cdS 20 = 12 from rfl] at e20
  rw [show cdS 21 = 13 from rfl] at e21
  rw [show cdS 22 = 14 from rfl] at e22
  rw [show cdS 23 = 15 from rfl] at e23
  cases b2 : kwB t q (e - q) 16 with
  | true =>
    rw [b2] at e2
    rw [kwC_eq (by decide) b2]
    simp (disch := first | assumption | omega) only [f_X11_word, kb_X11_word_75, kb_X11_word_0, f_X11_nameWord, kb_X11_nameWord_195, kb_X11_nameWord_0, KL, KB, KC, KI, KJ, KZ, bI_0, bI_n, nI00, nI10, ne_eq, Classical.not_not, not_true_eq_false, not_false_eq_true, if_true, if_false, ite_not, ite_self, Bool.false_eq_true, nIne1, O_mo, S_str, e2, zt, zf]
    try rfl
  | false =>
    rw [b2] at e2
    cases b3 : kwB t q (e - q) 17 with
    | true =>
      rw [b3] at e3
      rw [kwC_eq (by decide) b3]
      simp (disch := first | assumption | omega) only [f_X11_word, kb_X11_word_75, kb_X11_word_0, f_X11_nameWord, kb_X11_nameWord_195, kb_X11_nameWord_0, KL, KB, KC, KI, KJ, KZ, bI_0, bI_n, nI00, nI10, ne_eq, Classical.not_not, not_true_eq_false, not_false_eq_true, if_true, if_false, ite_not, ite_self, Bool.false_eq_true, nIne1, O_mo, S_str, e2, e3, zt, zf]
      try rfl
    | false =>
      rw [b3] at e3
      cases b4 : kwB t q (e - q) 18 with
      | true =>
        rw [b4] at e4
        rw [kwC_eq (by decide) b4]
        simp (disch := first | assumption | omega) only [f_X11_word, kb_X11_word_75, kb_X11_word_0, f_X11_nameWord, kb_X11_nameWord_195, kb_X11_nameWord_0, KL, KB, KC, KI, KJ, KZ, bI_0, bI_n, nI00, nI10, ne_eq, Classical.not_not, not_true_eq_false, not_false_eq_true, if_true, if_false, ite_not, ite_self, Bool.false_eq_true, nIne1, O_mo, S_str, e2, e3, e4, zt, zf]
        try rfl
      | false =>
        rw [b4] at e4
        cases b5 : kwB t q (e - q) 19 with
        | true =>
          rw [b5] at e5
          rw [kwC_eq (by decide) b5]
          simp (disch := first | assumption | omega) only [f_X11_word, kb_X11_word_75, kb_X11_word_0, f_X11_nameWord, kb_X11_nameWord_195, kb_X11_nameWord_0, KL, KB, KC, KI, KJ, KZ, bI_0, bI_n, nI00, nI10, ne_eq, Classical.not_not, not_true_eq_false, not_false_eq_true, if_true, if_false, ite_not, ite_self, Bool.false_eq_true, nIne1, O_mo, S_str, e2, e3, e4, e5, zt, zf]
          try rfl
        | false =>
          rw [b5] at e5
          cases b6 : kwB t q (e - q) 20 with
          | true =>
            rw [b6] at e6
            rw [kwC_eq (by decide) b6]
            simp (disch := first | assumption | omega) only [f_X11_word, kb_X11_word_75, kb_X11_word_0, f_X11_nameWord, kb_X11_nameWord_195, kb_X11_nameWord_0, KL, KB, KC, KI, KJ, KZ, bI_0, bI_n, nI00, nI10, ne_eq, Classical.not_not, not_true_eq_false, not_false_eq_true, if_true, if_false, ite_not, ite_self, Bool.false_eq_true, nIne1, O_mo, S_str, e2, e3, e4, e5, e6, zt, zf]
            try rfl
          | false =>
            rw [b6] at e6
            cases b7 : kwB t q (e - q) 21 with
            | true =>
              rw [b7] at e7
              rw [kwC_eq (by decide) b7]
              simp (disch := first | assumption | omega) only [f_X11_word, kb_X11_word_75, kb_X11_word_0, f_X11_nameWord, kb_X11_nameWord_195, kb_X11_nameWord_0, KL, KB, KC, KI, KJ, KZ, bI_0, bI_n, nI00, nI10, ne_eq, Classical.not_not, not_true_eq_false, not_false_eq_true, if_true, if_false, ite_not, ite_self, Bool.false_eq_true, nIne1, O_mo, S_str, e2, e3, e4, e5, e6, e7, zt, zf]
              try rfl
            | false =>
              rw [b7] at e7
              cases b8 : kwB t q (e - q) 0 with
              | true =>
                rw [b8] at e8
                rw [kwC_eq (by decide) b8]
                simp (disch := first | assumption | omega) only [f_X11_word, kb_X11_word_75, kb_X11_word_0, f_X11_nameWord, kb_X11_nameWord_195, kb_X11_nameWord_0, KL, KB, KC, KI, KJ, KZ, bI_0, bI_n, nI00, nI10, ne_eq, Classical.not_not, not_true_eq_false, not_false_eq_true, if_true, if_false, ite_not, ite_self, Bool.false_eq_true, nIne1, O_mo, S_str, e2, e3, e4, e5, e6, e7, e8, zt, zf]
                try rfl
              | false =>
                rw [b8] at e8
                cases b9 : kwB t q (e - q) 1 with
                | true =>
                  rw [b9] at e9
                  rw [kwC_eq (by decide) b9]
                  simp (disch := first | assumption | omega) only [f_X11_word, kb_X11_word_75, kb_X11_word_0, f_X11_nameWord, kb_X11_nameWord_195, kb_X11_nameWord_0, KL, KB, KC, KI, KJ, KZ, bI_0, bI_n, nI00, nI10, ne_eq, Classical.not_not, not_true_eq_false, not_false_eq_true, if_true, if_false, ite_not, ite_self, Bool.false_eq_true, nIne1, O_mo, S_str, e2, e3, e4, e5, e6, e7, e8, e9, zt, zf]
                  try rfl
                | false =>
                  rw [b9] at e9
                  cases b10 : kwB t q (e - q) 2 with
                  | true =>
                    rw [b10] at e10
                    rw [kwC_eq (by decide) b10]
                    simp (disch := first | assumption | omega) only [f_X11_word, kb_X11_word_75, kb_X11_word_0, f_X11_nameWord, kb_X11_nameWord_195, kb_X11_nameWord_0, KL, KB, KC, KI, KJ, KZ, bI_0, bI_n, nI00, nI10, ne_eq, Classical.not_not, not_true_eq_false, not_false_eq_true, if_true, if_false, ite_not, ite_self, Bool.false_eq_true, nIne1, O_mo, S_str, e2, e3, e4, e5, e6, e7, e8, e9, e10, zt, zf]
                    try rfl
                  | false =>
                    rw [b10] at e10
                    cases b11 : kwB t q (e - q) 3 with
                    | true =>
                      rw [b11] at e11
                      rw [kwC_eq (by decide) b11]
                      simp (disch := first | assumption | omega) only [f_X11_word, kb_X11_word_75, kb_X11_word_0, f_X11_nameWord, kb_X11_nameWord_195, kb_X11_nameWord_0, KL, KB, KC, KI, KJ, KZ, bI_0, bI_n, nI00, nI10, ne_eq, Classical.not_not, not_true_eq_false, not_false_eq_true, if_true, if_false, ite_not, ite_self, Bool.false_eq_true, nIne1, O_mo, S_str, e2, e3, e4, e5, e6, e7, e8, e9, e10, e11, zt, zf]
                      try rfl
                    | false =>
                      rw [b11] at e11
                      cases b12 : kwB t q (e - q) 4 with
                      | true =>
                        rw [b12] at e12
                        rw [kwC_eq (by decide) b12]
                        simp (disch := first | assumption | omega) only [f_X11_word, kb_X11_word_75, kb_X11_word_0, f_X11_nameWord, kb_X11_nameWord_195, kb_X11_nameWord_0, KL, KB, KC, KI, KJ, KZ, bI_0, bI_n, nI00, nI10, ne_eq, Classical.not_not, not_true_eq_false, not_false_eq_true, if_true, if_false, ite_not, ite_self, Bool.false_eq_true, nIne1, O_mo, S_str, e2, e3, e4, e5, e6, e7, e8, e9, e10, e11, e12, zt, zf]
                        try rfl
                      | false =>
                        rw [b12] at e12
                        cases b13 : kwB t q (e - q) 5 with
                        | true =>
                          rw [b13] at e13
                          rw [kwC_eq (by decide) b13]
                          simp (disch := first | assumption | omega) only [f_X11_word, kb_X11_word_75, kb_X11_word_0, f_X11_nameWord, kb_X11_nameWord_195, kb_X11_nameWord_0, KL, KB, KC, KI, KJ, KZ, bI_0, bI_n, nI00, nI10, ne_eq, Classical.not_not, not_true_eq_false, not_false_eq_true, if_true, if_false, ite_not, ite_self, Bool.false_eq_true, nIne1, O_mo, S_str, e2, e3, e4, e5, e6, e7, e8, e9, e10, e11, e12, e13, zt, zf]
                          try rfl
                        | false =>
                          rw [b13] at e13
                          cases b14 : kwB t q (e - q) 6 with
                          | true =>
                            rw [b14] at e14
                            rw [kwC_eq (by decide) b14]
                            simp (disch := first | assumption | omega) only [f_X11_word, kb_X11_word_75, kb_X11_word_0, f_X11_nameWord, kb_X11_nameWord_195, kb_X11_nameWord_0, KL, KB, KC, KI, KJ, KZ, bI_0, bI_n, nI00, nI10, ne_eq, Classical.not_not, not_true_eq_false, not_false_eq_true, if_true, if_false, ite_not, ite_self, Bool.false_eq_true, nIne1, O_mo, S_str, e2, e3, e4, e5, e6, e7, e8, e9, e10, e11, e12, e13, e14, zt, zf]
                            try rfl
                          | false =>
                            rw [b14] at e14
                            cases b15 : kwB t q (e - q) 7 with
                            | true =>
                              rw [b15] at e15
                              rw [kwC_eq (by decide) b15]
                              simp (disch := first | assumption | omega) only [f_X11_word, kb_X11_word_75, kb_X11_word_0, f_X11_nameWord, kb_X11_nameWord_195, kb_X11_nameWord_0, KL, KB, KC, KI, KJ, KZ, bI_0, bI_n, nI00, nI10, ne_eq, Classical.not_not, not_true_eq_false, not_false_eq_true, if_true, if_false, ite_not, ite_self, Bool.false_eq_true, nIne1, O_mo, S_str, e2, e3, e4, e5, e6, e7, e8, e9, e10, e11, e12, e13, e14, e15, zt, zf]
                              try rfl
                            | false =>
                              rw [b15] at e15
                              cases b16 : kwB t q (e - q) 8 with
                              | true =>
                                rw [b16] at e16
                                rw [kwC_eq (by decide) b16]
                                simp (disch := first | assumption | omega) only [f_X11_word, kb_X11_word_75, kb_X11_word_0, f_X11_nameWord, kb_X11_nameWord_195, kb_X11_nameWord_0, KL, KB, KC, KI, KJ, KZ, bI_0, bI_n, nI00, nI10, ne_eq, Classical.not_not, not_true_eq_false, not_false_eq_true, if_true, if_false, ite_not, ite_self, Bool.false_eq_true, nIne1, O_mo, S_str, e2, e3, e4, e5, e6, e7, e8, e9, e10, e11, e12, e13, e14, e15, e16, zt, zf]
                                try rfl
                              | false =>
                                rw [b16] at e16
                                cases b17 : kwB t q (e - q) 9 with
                                | true =>
                                  rw [b17] at e17
                                  rw [kwC_eq (by decide) b17]
                                  simp (disch := first | assumption | omega) only [f_X11_word, kb_X11_word_75, kb_X11_word_0, f_X11_nameWord, kb_X11_nameWord_195, kb_X11_nameWord_0, KL, KB, KC, KI, KJ, KZ, bI_0, bI_n, nI00, nI10, ne_eq, Classical.not_not, not_true_eq_false, not_false_eq_true, if_true, if_false, ite_not, ite_self, Bool.false_eq_true, nIne1, O_mo, S_str, e2, e3, e4, e5, e6, e7, e8, e9, e10, e11, e12, e13, e14, e15, e16, e17, zt, zf]
                                  try rfl
                                | false =>
                                  rw [b17] at e17
                                  cases b18 : kwB t q (e - q) 10 with
                                  | true =>
                                    rw [b18] at e18
                                    rw [kwC_eq (by decide) b18]
                                    simp (disch := first | assumption | omega) only [f_X11_word, kb_X11_word_75, kb_X11_word_0, f_X11_nameWord, kb_X11_nameWord_195, kb_X11_nameWord_0, KL, KB, KC, KI, KJ, KZ, bI_0, bI_n, nI00, nI10, ne_eq, Classical.not_not, not_true_eq_false, not_false_eq_true, if_true, if_false, ite_not, ite_self, Bool.false_eq_true, nIne1, O_mo, S_str, e2, e3, e4, e5, e6, e7, e8, e9, e10, e11, e12, e13, e14, e15, e16, e17, e18, zt, zf]
                                    try rfl
                                  | false =>
                                    rw [b18] at e18
                                    cases b19 : kwB t q (e - q) 11 with
                                    | true =>
                                      rw [b19] at e19
                                      rw [kwC_eq (by decide) b19]
                                      simp (disch := first | assumption | omega) only [f_X11_word, kb_X11_word_75, kb_X11_word_0, f_X11_nameWord, kb_X11_nameWord_195, kb_X11_nameWord_0, KL, KB, KC, KI, KJ, KZ, bI_0, bI_n, nI00, nI10, ne_eq, Classical.not_not, not_true_eq_false, not_false_eq_true, if_true, if_false, ite_not, ite_self, Bool.false_eq_true, nIne1, O_mo, S_str, e2, e3, e4, e5, e6, e7, e8, e9, e10, e11, e12, e13, e14, e15, e16, e17, e18, e19, zt, zf]
                                      try rfl
                                    | false =>
                                      rw [b19] at e19
                                      cases b20 : kwB t q (e - q) 12 with
                                      | true =>
                                        rw [b20] at e20
                                        rw [kwC_eq (by decide) b20]
                                        simp (disch := first | assumption | omega) only [f_X11_word, kb_X11_word_75, kb_X11_word_0, f_X11_nameWord, kb_X11_nameWord_195, kb_X11_nameWord_0, KL, KB, KC, KI, KJ, KZ, bI_0, bI_n, nI00, nI10, ne_eq, Classical.not_not, not_true_eq_false, not_false_eq_true, if_true, if_false, ite_not, ite_self, Bool.false_eq_true, nIne1, O_mo, S_str, e2, e3, e4, e5, e6, e7, e8, e9, e10, e11, e12, e13, e14, e15, e16, e17, e18, e19, e20, zt, zf]
                                        try rfl
                                      | false =>
                                        rw [b20] at e20
                                        cases b21 : kwB t q (e - q) 13 with
                                        | true =>
                                          rw [b21] at e21
                                          rw [kwC_eq (by decide) b21]
                                          simp (disch := first | assumption | omega) only [f_X11_word, kb_X11_word_75, kb_X11_word_0, f_X11_nameWord, kb_X11_nameWord_195, kb_X11_nameWord_0, KL, KB, KC, KI, KJ, KZ, bI_0, bI_n, nI00, nI10, ne_eq, Classical.not_not, not_true_eq_false, not_false_eq_true, if_true, if_false, ite_not, ite_self, Bool.false_eq_true, nIne1, O_mo, S_str, e2, e3, e4, e5, e6, e7, e8, e9, e10, e11, e12, e13, e14, e15, e16, e17, e18, e19, e20, e21, zt, zf]
                                          try rfl
                                        | false =>
                                          rw [b21] at e21
                                          cases b22 : kwB t q (e - q) 14 with
                                          | true =>
                                            rw [b22] at e22
                                            rw [kwC_eq (by decide) b22]
                                            simp (disch := first | assumption | omega) only [f_X11_word, kb_X11_word_75, kb_X11_word_0, f_X11_nameWord, kb_X11_nameWord_195, kb_X11_nameWord_0, KL, KB, KC, KI, KJ, KZ, bI_0, bI_n, nI00, nI10, ne_eq, Classical.not_not, not_true_eq_false, not_false_eq_true, if_true, if_false, ite_not, ite_self, Bool.false_eq_true, nIne1, O_mo, S_str, e2, e3, e4, e5, e6, e7, e8, e9, e10, e11, e12, e13, e14, e15, e16, e17, e18, e19, e20, e21, e22, zt, zf]
                                            try rfl
                                          | false =>
                                            rw [b22] at e22
                                            cases b23 : kwB t q (e - q) 15 with
                                            | true =>
                                              rw [b23] at e23
                                              rw [kwC_eq (by decide) b23]
                                              simp (disch := first | assumption | omega) only [f_X11_word, kb_X11_word_75, kb_X11_word_0, f_X11_nameWord, kb_X11_nameWord_195, kb_X11_nameWord_0, KL, KB, KC, KI, KJ, KZ, bI_0, bI_n, nI00, nI10, ne_eq, Classical.not_not, not_true_eq_false, not_false_eq_true, if_true, if_false, ite_not, ite_self, Bool.false_eq_true, nIne1, O_mo, S_str, e2, e3, e4, e5, e6, e7, e8, e9, e10, e11, e12, e13, e14, e15, e16, e17, e18, e19, e20, e21, e22, e23, zt, zf]
                                              try rfl
                                            | false =>
                                              rw [b23] at e23
                                              rw [kwC_no (fun i hi => by
                                                rcases (by omega : i = 16 ∨ i = 17 ∨ i = 18 ∨ i = 19 ∨ i = 20 ∨ i = 21 ∨ i = 0 ∨ i = 1 ∨ i = 2 ∨ i = 3 ∨ i = 4 ∨ i = 5 ∨ i = 6 ∨ i = 7 ∨ i = 8 ∨ i = 9 ∨ i = 10 ∨ i = 11 ∨ i = 12 ∨ i = 13 ∨ i = 14 ∨ i = 15) with rfl | rfl | rfl | rfl | rfl | rfl | rfl | rfl | rfl | rfl | rfl | rfl | rfl | rfl | rfl | rfl | rfl | rfl | rfl | rfl | rfl | rfl
                                                · exact b2
                                                · exact b3
                                                · exact b4
                                                · exact b5
                                                · exact b6
                                                · exact b7
                                                · exact b8
                                                · exact b9
                                                · exact b10
                                                · exact b11
                                                · exact b12
                                                · exact b13
                                                · exact b14
                                                · exact b15
                                                · exact b16
                                                · exact b17
                                                · exact b18
                                                · exact b19
                                                · exact b20
                                                · exact b21
                                                · exact b22
                                                · exact b23)]
                                              simp (disch := first | assumption | omega) only [f_X11_word, kb_X11_word_75, kb_X11_word_0, f_X11_nameWord, kb_X11_nameWord_195, kb_X11_nameWord_0, KL, KB, KC, KI, KJ, KZ, bI_0, bI_n, nI00, nI10, ne_eq, Classical.not_not, not_true_eq_false, not_false_eq_true, if_true, if_false, ite_not, ite_self, Bool.false_eq_true, nIne1, O_mo, S_str, e2, e3, e4, e5, e6, e7, e8, e9, e10, e11, e12, e13, e14, e15, e16, e17, e18, e19, e20, e21, e22, e23, zf]
                                              try rfl
/-- the marks, as next0 asks for them -/
def MCH : KK := kIld 1 (kConst (nI 59) (kIf2 (fun x y => x = y) ((kb_X11_next0_284)) (kIld 1 (kConst (nI 43) (kIf2 (fun x y => x = y) ((kb_X11_next0_284)) (kIld 1 (kConst (nI 45) (kIf2 (fun x y => x = y) ((kb_X11_next0_284)) (kIld 1 (kConst (nI 42) (kIf2 (fun x y => x = y) ((kb_X11_next0_284)) (kIld 1 (kConst (nI 47) (kIf2 (fun x y => x = y) ((kb_X11_next0_284)) (kIld 1 (kConst (nI 40) (kIf2 (fun x y => x = y) ((kb_X11_next0_284)) (kIld 1 (kConst (nI 41) (kIf2 (fun x y => x = y) ((kb_X11_next0_284)) (kIld 1 (kConst (nI 60) (kIf2 (fun x y => x = y) ((kb_X11_next0_284)) (kIld 1 (kConst (nI 61) (kIf2 (fun x y => x = y) ((kb_X11_next0_284)) (kIld 1 (kConst (nI 62) (kIf2 (fun x y => x ≠ y) (kConst (nI 0) ((kb_X11_next0_289))) ((kb_X11_next0_284)))))))))))))))))))))))))))))))
theorem m_marks {g : GG} {m o c : Nat} (hc : c < 256) : MCH [.ref 188, .int (nI c)] [] (hp g m o) = some (none, hp (upd2 g 188 12 (nI (mTk (mkC c)))) m o) := by
  have z00 : (nI 0 = 0) = True := eq_true rfl
  have z10 : (nI 1 = 0) = False := eq_false (by decide)
  by_cases c59 : c = 59
  · have h59 : (c = 59) = True := eq_true c59
    have hm : mTk (mkC c) = 100 + c := by rw [c59]; rfl
    rw [hm]
    simp (disch := first | assumption | omega) only [MCH, kb_X11_next0_284, kb_X11_next0_289, kb_X11_next0_303, kb_X11_next0_306, KL, KB, KC, KI, KJ, KZ, bI_0, bI_n, nI00, nI10, ne_eq, Classical.not_not, not_true_eq_false, not_false_eq_true, if_true, if_false, ite_not, ite_self, Bool.false_eq_true, nIne1, O_mo, nIeq, h59, z10, nI_add]
  · have h59 : (c = 59) = False := eq_false c59
    by_cases c43 : c = 43
    · have h43 : (c = 43) = True := eq_true c43
      have hm : mTk (mkC c) = 100 + c := by rw [c43]; rfl
      rw [hm]
      simp (disch := first | assumption | omega) only [MCH, kb_X11_next0_284, kb_X11_next0_289, kb_X11_next0_303, kb_X11_next0_306, KL, KB, KC, KI, KJ, KZ, bI_0, bI_n, nI00, nI10, ne_eq, Classical.not_not, not_true_eq_false, not_false_eq_true, if_true, if_false, ite_not, ite_self, Bool.false_eq_true, nIne1, O_mo, nIeq, h59, h43, z10, nI_add]
    · have h43 : (c = 43) = False := eq_false c43
      by_cases c45 : c = 45
      · have h45 : (c = 45) = True := eq_true c45
        have hm : mTk (mkC c) = 100 + c := by rw [c45]; rfl
        rw [hm]
        simp (disch := first | assumption | omega) only [MCH, kb_X11_next0_284, kb_X11_next0_289, kb_X11_next0_303, kb_X11_next0_306, KL, KB, KC, KI, KJ, KZ, bI_0, bI_n, nI00, nI10, ne_eq, Classical.not_not, not_true_eq_false, not_false_eq_true, if_true, if_false, ite_not, ite_self, Bool.false_eq_true, nIne1, O_mo, nIeq, h59, h43, h45, z10, nI_add]
      · have h45 : (c = 45) = False := eq_false c45
        by_cases c42 : c = 42
        · have h42 : (c = 42) = True := eq_true c42
          have hm : mTk (mkC c) = 100 + c := by rw [c42]; rfl
          rw [hm]
          simp (disch := first | assumption | omega) only [MCH, kb_X11_next0_284, kb_X11_next0_289, kb_X11_next0_303, kb_X11_next0_306, KL, KB, KC, KI, KJ, KZ, bI_0, bI_n, nI00, nI10, ne_eq, Classical.not_not, not_true_eq_false, not_false_eq_true, if_true, if_false, ite_not, ite_self, Bool.false_eq_true, nIne1, O_mo, nIeq, h59, h43, h45, h42, z10, nI_add]
        · have h42 : (c = 42) = False := eq_false c42
          by_cases c47 : c = 47
          · have h47 : (c = 47) = True := eq_true c47
            have hm : mTk (mkC c) = 100 + c := by rw [c47]; rfl
            rw [hm]
            simp (disch := first | assumption | omega) only [MCH, kb_X11_next0_284, kb_X11_next0_289, kb_X11_next0_303, kb_X11_next0_306, KL, KB, KC, KI, KJ, KZ, bI_0, bI_n, nI00, nI10, ne_eq, Classical.not_not, not_true_eq_false, not_false_eq_true, if_true, if_false, ite_not, ite_self, Bool.false_eq_true, nIne1, O_mo, nIeq, h59, h43, h45, h42, h47, z10, nI_add]
          · have h47 : (c = 47) = False := eq_false c47
            by_cases c40 : c = 40
            · have h40 : (c = 40) = True := eq_true c40
              have hm : mTk (mkC c) = 100 + c := by rw [c40]; rfl
              rw [hm]
              simp (disch := first | assumption | omega) only [MCH, kb_X11_next0_284, kb_X11_next0_289, kb_X11_next0_303, kb_X11_next0_306, KL, KB, KC, KI, KJ, KZ, bI_0, bI_n, nI00, nI10, ne_eq, Classical.not_not, not_true_eq_false, not_false_eq_true, if_true, if_false, ite_not, ite_self, Bool.false_eq_true, nIne1, O_mo, nIeq, h59, h43, h45, h42, h47, h40, z10, nI_add]
            · have h40 : (c = 40) = False := eq_false c40
              by_cases c41 : c = 41
              · have h41 : (c = 41) = True := eq_true c41
                have hm : mTk (mkC c) = 100 + c := by rw [c41]; rfl
                rw [hm]
                simp (disch := first | assumption | omega) only [MCH, kb_X11_next0_284, kb_X11_next0_289, kb_X11_next0_303, kb_X11_next0_306, KL, KB, KC, KI, KJ, KZ, bI_0, bI_n, nI00, nI10, ne_eq, Classical.not_not, not_true_eq_false, not_false_eq_true, if_true, if_false, ite_not, ite_self, Bool.false_eq_true, nIne1, O_mo, nIeq, h59, h43, h45, h42, h47, h40, h41, z10, nI_add]
              · have h41 : (c = 41) = False := eq_false c41
                by_cases c60 : c = 60
                · have h60 : (c = 60) = True := eq_true c60
                  have hm : mTk (mkC c) = 100 + c := by rw [c60]; rfl
                  rw [hm]
                  simp (disch := first | assumption | omega) only [MCH, kb_X11_next0_284, kb_X11_next0_289, kb_X11_next0_303, kb_X11_next0_306, KL, KB, KC, KI, KJ, KZ, bI_0, bI_n, nI00, nI10, ne_eq, Classical.not_not, not_true_eq_false, not_false_eq_true, if_true, if_false, ite_not, ite_self, Bool.false_eq_true, nIne1, O_mo, nIeq, h59, h43, h45, h42, h47, h40, h41, h60, z10, nI_add]
                · have h60 : (c = 60) = False := eq_false c60
                  by_cases c61 : c = 61
                  · have h61 : (c = 61) = True := eq_true c61
                    have hm : mTk (mkC c) = 100 + c := by rw [c61]; rfl
                    rw [hm]
                    simp (disch := first | assumption | omega) only [MCH, kb_X11_next0_284, kb_X11_next0_289, kb_X11_next0_303, kb_X11_next0_306, KL, KB, KC, KI, KJ, KZ, bI_0, bI_n, nI00, nI10, ne_eq, Classical.not_not, not_true_eq_false, not_false_eq_true, if_true, if_false, ite_not, ite_self, Bool.false_eq_true, nIne1, O_mo, nIeq, h59, h43, h45, h42, h47, h40, h41, h60, h61, z10, nI_add]
                  · have h61 : (c = 61) = False := eq_false c61
                    by_cases c62 : c = 62
                    · have h62 : (c = 62) = True := eq_true c62
                      have hm : mTk (mkC c) = 100 + c := by rw [c62]; rfl
                      rw [hm]
                      simp (disch := first | assumption | omega) only [MCH, kb_X11_next0_284, kb_X11_next0_289, kb_X11_next0_303, kb_X11_next0_306, KL, KB, KC, KI, KJ, KZ, bI_0, bI_n, nI00, nI10, ne_eq, Classical.not_not, not_true_eq_false, not_false_eq_true, if_true, if_false, ite_not, ite_self, Bool.false_eq_true, nIne1, O_mo, nIeq, h59, h43, h45, h42, h47, h40, h41, h60, h61, h62, z10, nI_add]
                    · have h62 : (c = 62) = False := eq_false c62
                      have hm : mTk (mkC c) = 1 := by
                        have : mkC c = 34 := by unfold mkC; rw [if_neg c59, if_neg c43, if_neg c45, if_neg c42, if_neg c47, if_neg c40, if_neg c41, if_neg c60, if_neg c61, if_neg c62]
                        rw [this]; rfl
                      rw [hm]
                      simp (disch := first | assumption | omega) only [MCH, kb_X11_next0_284, kb_X11_next0_289, kb_X11_next0_303, kb_X11_next0_306, KL, KB, KC, KI, KJ, KZ, bI_0, bI_n, nI00, nI10, ne_eq, Classical.not_not, not_true_eq_false, not_false_eq_true, if_true, if_false, ite_not, ite_self, Bool.false_eq_true, nIne1, O_mo, nIeq, h59, h43, h45, h42, h47, h40, h41, h60, h61, h62, z00]
