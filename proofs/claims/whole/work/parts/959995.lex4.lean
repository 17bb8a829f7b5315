-- ===== tokens: the model's next =====
theorem next0_eq : kl_X11_next0_0 = kFix (fun s0 => kMask [true] (kAld 0 (kAld 0 (kGetI 11 49 11 (kRecv 11 49 1 (kCall 2 f_X11_see (kConst (nI 32) (kIf2 (fun x y => x = y) ((kb_X11_next0_26 s0)) (kAld 0 (kAld 0 (kGetI 11 49 11 (kRecv 11 49 1 (kCall 2 f_X11_see (kConst (nI 10) (kIf2 (fun x y => x ≠ y) (kAld 0 (kAld 0 (kGetI 11 49 11 (kPutI 11 49 13 (kAld 0 (kAld 0 (kGetI 11 49 11 (kRecv 11 49 1 (kCall 2 f_X11_see (kIst 1 (kIld 1 (kConst (-1) (kIf2 (fun x y => x ≠ y) (kIld 1 (kCall 1 f_X11_isLetter (kIf (fun x => x = 0) (kIld 1 (kCall 1 f_X11_isDigit (kIf (fun x => x = 0) (kAld 0 (kDup (kGetI 11 49 11 (kConst (nI 1) (kBin (fun x y => x + y) (kPutI 11 49 11 (MCH))))))) (kAld 0 (kConst (nI 0) (kPutI 11 49 14 ((kl_X11_next0_126)))))))) ((kl_X11_next0_76))))) (kAld 0 (kConst (nI 0) (kPutI 11 49 12 ((kb_X11_next0_306)))))))))))))))))) ((kb_X11_next0_26 s0))))))))))))))))) FU := rfl
theorem m_see_in {g : GG} {m o L i : Nat} {t : Nat → Nat} (hT : TPM g t L) (hi : i < L) : f_X11_see [.ref 188, .int (nI i)] (hp g m o) = some (some (.int (nI (t i))), hp g m o) := by
  obtain ⟨hL, hl1, htp⟩ := hT
  have hin : (L ≤ i) = False := eq_false (by omega)
  have i400 : i < 400 := by omega
  obtain ⟨ht, -⟩ := htp i hi
  simp (disch := first | assumption | omega) only [f_X11_see, kb_X11_see_18, kb_X11_see_0, KL, KB, KC, KI, KJ, KZ, bI_0, bI_n, nI00, nI10, ne_eq, Classical.not_not, not_true_eq_false, not_false_eq_true, if_true, if_false, ite_not, ite_self, Bool.false_eq_true, nIne1, O_mo, AR, hl1, nIle, hin, ht]
theorem m_see_out {g : GG} {m o L i : Nat} {t : Nat → Nat} (hT : TPM g t L) (hi : L ≤ i) (hi2 : i < 1000) : f_X11_see [.ref 188, .int (nI i)] (hp g m o) = some (some (.int (-1)), hp g m o) := by
  obtain ⟨hL, hl1, htp⟩ := hT
  have hin : (L ≤ i) = True := eq_true (by omega)
  simp (disch := first | assumption | omega) only [f_X11_see, kb_X11_see_18, kb_X11_see_0, KL, KB, KC, KI, KJ, KZ, bI_0, bI_n, nI00, nI10, ne_eq, Classical.not_not, not_true_eq_false, not_false_eq_true, if_true, if_false, ite_not, ite_self, Bool.false_eq_true, nIne1, O_mo, AR, hl1, nIle, hin]
theorem bI_bW (p : Prop) [Decidable p] : bI p = bW (decide p) := by
  by_cases h : p
  · rw [bI_t h, decide_eq_true h, bW_t]
  · rw [bI_f h, decide_eq_false h, bW_f]
theorem m_isLetter (c : Nat) (hc : c < 256) (h : HP) : f_X11_isLetter [.int (nI c)] h = some (some (.int (bW (leB c))), h) := by
  unfold leB
  by_cases a : 97 ≤ c ∧ c ≤ 122
  · have a' : (97 ≤ c ∧ c ≤ 122) = True := eq_true a
    rw [decide_eq_true (Or.inl a)]
    simp (disch := first | assumption | omega) only [f_X11_isLetter, kb_X11_isLetter_27, kb_X11_isLetter_22, kb_X11_isLetter_0, KL, KB, KC, KI, KJ, KZ, bI_0, bI_n, nI00, nI10, ne_eq, Classical.not_not, not_true_eq_false, not_false_eq_true, if_true, if_false, ite_not, ite_self, Bool.false_eq_true, nIne1, m_isIn, nIle, a', bW_t]
  · have a' : (97 ≤ c ∧ c ≤ 122) = False := eq_false a
    by_cases b : 65 ≤ c ∧ c ≤ 90
    · have b' : (65 ≤ c ∧ c ≤ 90) = True := eq_true b
      rw [decide_eq_true (Or.inr b)]
      simp (disch := first | assumption | omega) only [f_X11_isLetter, kb_X11_isLetter_27, kb_X11_isLetter_22, kb_X11_isLetter_0, KL, KB, KC, KI, KJ, KZ, bI_0, bI_n, nI00, nI10, ne_eq, Classical.not_not, not_true_eq_false, not_false_eq_true, if_true, if_false, ite_not, ite_self, Bool.false_eq_true, nIne1, m_isIn, nIle, a', b', bW_t]
    · have b' : (65 ≤ c ∧ c ≤ 90) = False := eq_false b
      rw [decide_eq_false (fun q => q.elim a b)]
      simp (disch := first | assumption | omega) only [f_X11_isLetter, kb_X11_isLetter_27, kb_X11_isLetter_22, kb_X11_isLetter_0, KL, KB, KC, KI, KJ, KZ, bI_0, bI_n, nI00, nI10, ne_eq, Classical.not_not, not_true_eq_false, not_false_eq_true, if_true, if_false, ite_not, ite_self, Bool.false_eq_true, nIne1, m_isIn, nIle, a', b', bW_f]
theorem m_isDigit (c : Nat) (hc : c < 256) (h : HP) : f_X11_isDigit [.int (nI c)] h = some (some (.int (bW (diB c))), h) := by
  unfold diB
  rw [← bI_bW]
  simp (disch := first | assumption | omega) only [f_X11_isDigit, kb_X11_isDigit_0, KL, KB, KC, KI, KJ, KZ, bI_0, bI_n, nI00, nI10, ne_eq, Classical.not_not, not_true_eq_false, not_false_eq_true, if_true, if_false, ite_not, ite_self, Bool.false_eq_true, nIne1, m_isIn, nIle]
theorem m_noLetter (h : HP) : f_X11_isLetter [.int (-1)] h = some (some (.int (nI 0)), h) := by
  have a' : (nI 97 ≤ (-1 : Int32)) = False := eq_false (by decide)
  have b' : (nI 65 ≤ (-1 : Int32)) = False := eq_false (by decide)
  simp (disch := first | assumption | omega) only [f_X11_isLetter, kb_X11_isLetter_27, kb_X11_isLetter_22, kb_X11_isLetter_0, KL, KB, KC, KI, KJ, KZ, bI_0, bI_n, nI00, nI10, ne_eq, Classical.not_not, not_true_eq_false, not_false_eq_true, if_true, if_false, ite_not, ite_self, Bool.false_eq_true, nIne1, m_isIn, a', b', false_and]
theorem m_noDigit (h : HP) : f_X11_isDigit [.int (-1)] h = some (some (.int (nI 0)), h) := by
  have a' : (nI 48 ≤ (-1 : Int32)) = False := eq_false (by decide)
  simp (disch := first | assumption | omega) only [f_X11_isDigit, kb_X11_isDigit_0, KL, KB, KC, KI, KJ, KZ, bI_0, bI_n, nI00, nI10, ne_eq, Classical.not_not, not_true_eq_false, not_false_eq_true, if_true, if_false, ite_not, ite_self, Bool.false_eq_true, nIne1, m_isIn, a', false_and]
  rfl
def TKM (t : Nat → Nat) (L q : Nat) (g : GG) : Prop := g 188 11 = nI (lxE t L q) ∧ g 188 12 = nI (mTk (lxK t L q)) ∧ g 188 13 = nI q ∧ (lxK t L q = 32 → g 188 14 = nI (lxV t L q))
def SCM (g g' : GG) : Prop := (∀ a, a ≠ 188 → g' a = g a) ∧ ∀ i, i ≠ 11 → i ≠ 12 → i ≠ 13 → i ≠ 14 → g' 188 i = g 188 i
theorem SCM.rfl' {g : GG} : SCM g g := ⟨fun _ _ => rfl, fun _ _ _ _ _ => rfl⟩
theorem SCM.put {g g' : GG} {i : Nat} {v : Int32} (h : SCM g g') (hi : i = 11 ∨ i = 12 ∨ i = 13 ∨ i = 14) : SCM g (upd2 g' 188 i v) := ⟨fun a ha => by rw [uN ha]; exact h.1 a ha, fun j a b c d => by rw [uO (by omega)]; exact h.2 j a b c d⟩
theorem TPM.scm {g g' : GG} {t : Nat → Nat} {L : Nat} (h : TPM g t L) (hf : SCM g g') : TPM g' t L := ⟨h.1, by rw [hf.2 10 (by omega) (by omega) (by omega) (by omega)]; exact h.2.1, fun i hi => by rw [hf.1 193 (by omega)]; exact h.2.2 i hi⟩
theorem mTk_kw {t : Nat → Nat} {q n : Nat} : mTk (kwC t q n) = mTk (kwC t q n) := rfl
theorem m_next0 {g : GG} {m o L p : Nat} {t : Nat → Nat} (hT : TPM g t L) (h11 : g 188 11 = nI p) (hp' : p ≤ L) : ∃ g', f_X11_next0 [.ref 188] (hp g m o) = some (none, hp g' m o) ∧ SCM g g' ∧ TKM t L (stE blB t L p) g' := by
  have zt : (bW true = 0) = False := eq_false (by decide)
  have zf : (bW false = 0) = True := eq_true rfl
  have hL := hT.1
  obtain ⟨b1, b2, b3, b4⟩ := stE_prop blB t hp'
  generalize hq : stE blB t L p = q at *
  -- letters
  have lett : ∀ (g1 : GG) (u : List Value), SCM g g1 → g1 188 11 = nI q → g1 188 13 = nI q → q < L → leB (t q) = true → ∃ g', kl_X11_next0_76 (.ref 188 :: u) [] (hp g1 m o) = some (none, hp g' m o) ∧ SCM g g' ∧ TKM t L q g' := by
    intro g1 u hf i11 i13 hqL hle
    obtain ⟨c1, c2, c3, c4⟩ := stE_prop leB t (show q ≤ L by omega)
    have eE : lxE t L q = stE leB t L q := by unfold lxE; rw [if_neg (by omega), if_pos hle]
    have eK : lxK t L q = kwC t q (stE leB t L q - q) := by unfold lxK; rw [if_neg (by omega), if_pos hle]
    generalize stE leB t L q = e at *
    unfold kl_X11_next0_76
    refine kFor e (by unfold FU; omega) (fun i ls h => ∃ (g' : GG) (u : List Value), ls = .ref 188 :: u ∧ h = hp g' m o ∧ q ≤ i ∧ SCM g g' ∧ g' 188 11 = nI i ∧ g' 188 13 = nI q) (fun r => ∃ g', r = some (none, hp g' m o) ∧ SCM g g' ∧ TKM t L q g') ?_ ?_ q _ _ c1 ⟨g1, u, rfl, rfl, Nat.le_refl _, hf, i11, i13⟩
    · rintro s ls h ⟨g', u, rfl, rfl, -, w1, w2, w3⟩
      have hT' := hT.scm w1
      have ek := m_wordK (m := m) (o := o) hT' w2 w3 c1 c2
      have out : SCM g (upd2 g' 188 12 (nI (mTk (kwC t q (e - q))))) ∧ TKM t L q (upd2 g' 188 12 (nI (mTk (kwC t q (e - q))))) := by
        refine ⟨w1.put (by omega), by rw [eE, uO (by omega)]; exact w2, by rw [eK]; exact uS, by rw [uO (by omega)]; exact w3, fun hk => ?_⟩
        rw [eK] at hk
        rcases kwC_ne t q (e - q) with h | h <;> omega
      by_cases he : e < L
      · obtain ⟨ht, ht2⟩ := hT'.2.2 e he
        have es := m_see_in (m := m) (o := o) hT' he
        have el := fun h => m_isLetter (t e) ht2 h
        rw [c4 he] at el
        simp (disch := first | assumption | omega) only [kb_X11_next0_306, KL, KB, KC, KI, KJ, KZ, bI_0, bI_n, nI00, nI10, ne_eq, Classical.not_not, not_true_eq_false, not_false_eq_true, if_true, if_false, ite_not, ite_self, Bool.false_eq_true, nIne1, kMask, mask, mask_n, O_mo, w2, es, el, zf, ek]
        exact ⟨_, rfl, out⟩
      · have es := m_see_out (m := m) (o := o) hT' (show L ≤ e by omega) (by omega)
        simp (disch := first | assumption | omega) only [kb_X11_next0_306, KL, KB, KC, KI, KJ, KZ, bI_0, bI_n, nI00, nI10, ne_eq, Classical.not_not, not_true_eq_false, not_false_eq_true, if_true, if_false, ite_not, ite_self, Bool.false_eq_true, nIne1, kMask, mask, mask_n, O_mo, w2, es, m_noLetter, ek]
        exact ⟨_, rfl, out⟩
    · rintro s i hi ih ls h ⟨g', u, rfl, rfl, w0, w1, w2, w3⟩
      have hT' := hT.scm w1
      obtain ⟨ht, ht2⟩ := hT'.2.2 i (by omega)
      have es := m_see_in (m := m) (o := o) hT' (show i < L by omega)
      have el := fun h => m_isLetter (t i) ht2 h
      rw [c3 i w0 hi] at el
      simp (disch := first | assumption | omega) only [KL, KB, KC, KI, KJ, KZ, bI_0, bI_n, nI00, nI10, ne_eq, Classical.not_not, not_true_eq_false, not_false_eq_true, if_true, if_false, ite_not, ite_self, Bool.false_eq_true, nIne1, kMask, mask, mask_n, O_mo, w2, es, el, zt, nI_add]
      exact ih _ _ ⟨_, _, rfl, rfl, by omega, w1.put (by omega), uS, by rw [uO (by omega)]; exact w3⟩
  -- digits
  have digs : ∀ (g1 : GG) (u : List Value), SCM g g1 → g1 188 11 = nI q → g1 188 13 = nI q → g1 188 14 = nI 0 → q < L → leB (t q) = false → diB (t q) = true → ∃ g', kl_X11_next0_126 (.ref 188 :: u) [] (hp g1 m o) = some (none, hp g' m o) ∧ SCM g g' ∧ TKM t L q g' := by
    intro g1 u hf i11 i13 i14 hqL hle hdi
    obtain ⟨c1, c2, c3, c4⟩ := stE_prop diB t (show q ≤ L by omega)
    have eE : lxE t L q = stE diB t L q := by unfold lxE; rw [if_neg (by omega), if_neg (by rw [hle]; decide), if_pos hdi]
    have eK : lxK t L q = if stE diB t L q - q ≤ 4 then 32 else 34 := by unfold lxK; rw [if_neg (by omega), if_neg (by rw [hle]; decide), if_pos hdi]
    have eV : lxV t L q = numV t q (stE diB t L q - q) := rfl
    generalize stE diB t L q = e at *
    unfold kl_X11_next0_126
    refine kFor e (by unfold FU; omega) (fun i ls h => ∃ (g' : GG) (u : List Value), ls = .ref 188 :: u ∧ h = hp g' m o ∧ q ≤ i ∧ SCM g g' ∧ g' 188 11 = nI i ∧ g' 188 13 = nI q ∧ (i - q ≤ 4 → g' 188 14 = nI (numV t q (i - q)))) (fun r => ∃ g', r = some (none, hp g' m o) ∧ SCM g g' ∧ TKM t L q g') ?_ ?_ q _ _ c1 ⟨g1, u, rfl, rfl, Nat.le_refl _, hf, i11, i13, fun _ => by rw [Nat.sub_self]; exact i14⟩
    · rintro s ls h ⟨g', u, rfl, rfl, -, w1, w2, w3, w4⟩
      have hT' := hT.scm w1
      have out : ∀ v : Nat, v = mTk (lxK t L q) → SCM g (upd2 g' 188 12 (nI v)) ∧ TKM t L q (upd2 g' 188 12 (nI v)) := by
        intro v hv
        refine ⟨w1.put (by omega), by rw [eE, uO (by omega)]; exact w2, by rw [hv]; exact uS, by rw [uO (by omega)]; exact w3, fun hk => ?_⟩
        rw [eV, uO (by omega)]
        refine w4 (Nat.le_of_not_lt (fun hh => ?_))
        rw [eK, if_neg (by omega)] at hk
        omega
      by_cases c : e - q ≤ 4
      · have c' : (5 ≤ e - q) = False := eq_false (by omega)
        have out2 := out 2 (by rw [eK, if_pos c]; rfl)
        by_cases he : e < L
        · obtain ⟨ht, ht2⟩ := hT'.2.2 e he
          have es := m_see_in (m := m) (o := o) hT' he
          have el := fun h => m_isDigit (t e) ht2 h
          rw [c4 he] at el
          simp (disch := first | assumption | omega) only [kb_X11_next0_208, kb_X11_next0_306, KL, KB, KC, KI, KJ, KZ, bI_0, bI_n, nI00, nI10, ne_eq, Classical.not_not, not_true_eq_false, not_false_eq_true, if_true, if_false, ite_not, ite_self, Bool.false_eq_true, nIne1, kMask, mask, mask_n, O_mo, w2, w3, es, el, zf, nI_sub, nIle, c']
          exact ⟨_, rfl, out2⟩
        · have es := m_see_out (m := m) (o := o) hT' (show L ≤ e by omega) (by omega)
          simp (disch := first | assumption | omega) only [kb_X11_next0_208, kb_X11_next0_306, KL, KB, KC, KI, KJ, KZ, bI_0, bI_n, nI00, nI10, ne_eq, Classical.not_not, not_true_eq_false, not_false_eq_true, if_true, if_false, ite_not, ite_self, Bool.false_eq_true, nIne1, kMask, mask, mask_n, O_mo, w2, w3, es, m_noDigit, nI_sub, nIle, c']
          exact ⟨_, rfl, out2⟩
      · have c' : (5 ≤ e - q) = True := eq_true (by omega)
        have out2 := out 1 (by rw [eK, if_neg c]; rfl)
        by_cases he : e < L
        · obtain ⟨ht, ht2⟩ := hT'.2.2 e he
          have es := m_see_in (m := m) (o := o) hT' he
          have el := fun h => m_isDigit (t e) ht2 h
          rw [c4 he] at el
          simp (disch := first | assumption | omega) only [kb_X11_next0_208, kb_X11_next0_306, KL, KB, KC, KI, KJ, KZ, bI_0, bI_n, nI00, nI10, ne_eq, Classical.not_not, not_true_eq_false, not_false_eq_true, if_true, if_false, ite_not, ite_self, Bool.false_eq_true, nIne1, kMask, mask, mask_n, O_mo, w2, w3, es, el, zf, nI_sub, nIle, c']
          exact ⟨_, rfl, out2⟩
        · have es := m_see_out (m := m) (o := o) hT' (show L ≤ e by omega) (by omega)
          simp (disch := first | assumption | omega) only [kb_X11_next0_208, kb_X11_next0_306, KL, KB, KC, KI, KJ, KZ, bI_0, bI_n, nI00, nI10, ne_eq, Classical.not_not, not_true_eq_false, not_false_eq_true, if_true, if_false, ite_not, ite_self, Bool.false_eq_true, nIne1, kMask, mask, mask_n, O_mo, w2, w3, es, m_noDigit, nI_sub, nIle, c']
          exact ⟨_, rfl, out2⟩
    · rintro s i hi ih ls h ⟨g', u, rfl, rfl, w0, w1, w2, w3, w4⟩
      have hT' := hT.scm w1
      obtain ⟨ht, ht2⟩ := hT'.2.2 i (by omega)
      have es := m_see_in (m := m) (o := o) hT' (show i < L by omega)
      have el := fun h => m_isDigit (t i) ht2 h
      rw [c3 i w0 hi] at el
      have hdig := of_decide_eq_true (c3 i w0 hi)
      by_cases c : i < q + 4
      · have c' : (q + 4 ≤ i) = False := eq_false (by omega)
        have w5 := w4 (by omega)
        have hnum : nI 10 * nI (numV t q (i - q)) + nI (t i) - nI 48 = nI (numV t q (i + 1 - q)) := by
          rw [show i + 1 - q = (i - q) + 1 by omega, nI_mul, nI_add, nI_sub (by omega)]
          show _ = nI (10 * numV t q (i - q) + (t (q + (i - q)) - 48))
          congr 1
          rw [show q + (i - q) = i by omega]
          omega
        have e11 : upd2 g' 188 14 (nI (numV t q (i + 1 - q))) 188 11 = nI i := by rw [uO (by omega)]; exact w2
        simp (disch := first | assumption | omega) only [kb_X11_next0_176, KL, KB, KC, KI, KJ, KZ, bI_0, bI_n, nI00, nI10, ne_eq, Classical.not_not, not_true_eq_false, not_false_eq_true, if_true, if_false, ite_not, ite_self, Bool.false_eq_true, nIne1, kMask, mask, mask_n, O_mo, w2, w3, w5, es, el, zt, nI_add, nIle, c']
        rw [hnum]
        simp (disch := first | assumption | omega) only [e11, nI_add]
        exact ih _ _ ⟨_, _, rfl, rfl, by omega, (w1.put (by omega)).put (by omega), uS, by rw [uO (by omega), uO (by omega)]; exact w3, fun _ => by rw [uO (by omega)]; exact uS⟩
      · have c' : (q + 4 ≤ i) = True := eq_true (by omega)
        simp (disch := first | assumption | omega) only [kb_X11_next0_176, KL, KB, KC, KI, KJ, KZ, bI_0, bI_n, nI00, nI10, ne_eq, Classical.not_not, not_true_eq_false, not_false_eq_true, if_true, if_false, ite_not, ite_self, Bool.false_eq_true, nIne1, kMask, mask, mask_n, O_mo, w2, w3, es, el, zt, nI_add, nIle, c']
        exact ih _ _ ⟨_, _, rfl, rfl, by omega, w1.put (by omega), uS, by rw [uO (by omega)]; exact w3, fun hh => by omega⟩
  have key : ∃ g', kl_X11_next0_0 [.ref 188] [] (hp g m o) = some (none, hp g' m o) ∧ SCM g g' ∧ TKM t L q g' := by
    rw [next0_eq]
    refine kFor q (by unfold FU; omega) (fun i ls h => ∃ (g' : GG), ls = [.ref 188] ∧ h = hp g' m o ∧ p ≤ i ∧ SCM g g' ∧ g' 188 11 = nI i) (fun r => ∃ g', r = some (none, hp g' m o) ∧ SCM g g' ∧ TKM t L q g') ?_ ?_ p _ _ b1 ⟨g, rfl, rfl, Nat.le_refl _, SCM.rfl', h11⟩
    · rintro s ls h ⟨g', rfl, rfl, -, w1, w2⟩
      have hT' := hT.scm w1
      have f2 : SCM g (upd2 g' 188 13 (nI q)) := w1.put (by omega)
      have hT2 := hT.scm f2
      have i11 : upd2 g' 188 13 (nI q) 188 11 = nI q := by rw [uO (by omega)]; exact w2
      have i13 : upd2 g' 188 13 (nI q) 188 13 = nI q := uS
      by_cases he : q < L
      · obtain ⟨ht, ht2⟩ := hT'.2.2 q he
        have es := m_see_in (m := m) (o := o) hT' he
        have es2 := m_see_in (m := m) (o := o) hT2 he
        have hnb := of_decide_eq_false (b4 he)
        have n32 : (t q = 32) = False := eq_false (fun e => hnb (Or.inl e))
        have n10 : (t q = 10) = False := eq_false (fun e => hnb (Or.inr e))
        have el := fun h => m_isLetter (t q) ht2 h
        cases hle : leB (t q) with
        | true =>
          rw [hle] at el
          obtain ⟨g3, e3, w⟩ := lett (upd2 g' 188 13 (nI q)) [.int (nI (t q))] f2 i11 i13 he hle
          refine ⟨g3, ?_, w⟩
          simp (disch := first | assumption | omega) only [KL, KB, KC, KI, KJ, KZ, bI_0, bI_n, nI00, nI10, ne_eq, Classical.not_not, not_true_eq_false, not_false_eq_true, if_true, if_false, ite_not, ite_self, Bool.false_eq_true, nIne1, kMask, mask, mask_n, O_mo, w2, i11, es, es2, nIeq, n32, n10, el, zt]
          exact e3
        | false =>
          rw [hle] at el
          have ed := fun h => m_isDigit (t q) ht2 h
          cases hdi : diB (t q) with
          | true =>
            rw [hdi] at ed
            obtain ⟨g3, e3, w⟩ := digs (upd2 (upd2 g' 188 13 (nI q)) 188 14 (nI 0)) [.int (nI (t q))] (f2.put (by omega)) (by rw [uO (by omega)]; exact i11) (by rw [uO (by omega)]; exact i13) uS he hle hdi
            refine ⟨g3, ?_, w⟩
            simp (disch := first | assumption | omega) only [KL, KB, KC, KI, KJ, KZ, bI_0, bI_n, nI00, nI10, ne_eq, Classical.not_not, not_true_eq_false, not_false_eq_true, if_true, if_false, ite_not, ite_self, Bool.false_eq_true, nIne1, kMask, mask, mask_n, O_mo, w2, i11, es, es2, nIeq, n32, n10, el, zf, ed, zt]
            exact e3
          | false =>
            rw [hdi] at ed
            have eE : lxE t L q = q + 1 := by unfold lxE; rw [if_neg (by omega), if_neg (by rw [hle]; decide), if_neg (by rw [hdi]; decide)]
            have eK : lxK t L q = mkC (t q) := by unfold lxK; rw [if_neg (by omega), if_neg (by rw [hle]; decide), if_neg (by rw [hdi]; decide)]
            have em := m_marks (g := upd2 (upd2 g' 188 13 (nI q)) 188 11 (nI (q + 1))) (m := m) (o := o) ht2
            refine ⟨upd2 (upd2 (upd2 g' 188 13 (nI q)) 188 11 (nI (q + 1))) 188 12 (nI (mTk (mkC (t q)))), ?_, (f2.put (by omega)).put (by omega), by rw [eE, uO (by omega)]; exact uS, by rw [eK]; exact uS, by rw [uO (by omega), uO (by omega)]; exact i13, fun hk => ?_⟩
            · simp (disch := first | assumption | omega) only [KL, KB, KC, KI, KJ, KZ, bI_0, bI_n, nI00, nI10, ne_eq, Classical.not_not, not_true_eq_false, not_false_eq_true, if_true, if_false, ite_not, ite_self, Bool.false_eq_true, nIne1, kMask, mask, mask_n, O_mo, w2, i11, es, es2, nIeq, n32, n10, el, zf, ed, nI_add]
              exact em
            · rw [eK] at hk
              rcases mkC_lt (t q) with h | h <;> omega
      · have es := m_see_out (m := m) (o := o) hT' (show L ≤ q by omega) (by omega)
        have es2 := m_see_out (m := m) (o := o) hT2 (show L ≤ q by omega) (by omega)
        have n32 : ((-1 : Int32) = nI 32) = False := eq_false (by decide)
        have n10 : ((-1 : Int32) = nI 10) = False := eq_false (by decide)
        have eE : lxE t L q = q := by unfold lxE; rw [if_pos (by omega)]
        have eK : lxK t L q = 33 := by unfold lxK; rw [if_pos (by omega)]
        refine ⟨upd2 (upd2 g' 188 13 (nI q)) 188 12 (nI 0), ?_, f2.put (by omega), by rw [eE, uO (by omega)]; exact i11, by rw [eK]; exact uS, by rw [uO (by omega)]; exact i13, fun hk => by rw [eK] at hk; omega⟩
        simp (disch := first | assumption | omega) only [kb_X11_next0_306, KL, KB, KC, KI, KJ, KZ, bI_0, bI_n, nI00, nI10, ne_eq, Classical.not_not, not_true_eq_false, not_false_eq_true, if_true, if_false, ite_not, ite_self, Bool.false_eq_true, nIne1, kMask, mask, mask_n, O_mo, w2, i11, es, es2, n32, n10, eq_self]
    · rintro s i hi ih ls h ⟨g', rfl, rfl, w0, w1, w2⟩
      have hT' := hT.scm w1
      obtain ⟨ht, ht2⟩ := hT'.2.2 i (by omega)
      have es := m_see_in (m := m) (o := o) hT' (show i < L by omega)
      rcases of_decide_eq_true (b3 i w0 hi) with c | c
      · have n32 : (t i = 32) = True := eq_true c
        simp (disch := first | assumption | omega) only [kb_X11_next0_26, KL, KB, KC, KI, KJ, KZ, bI_0, bI_n, nI00, nI10, ne_eq, Classical.not_not, not_true_eq_false, not_false_eq_true, if_true, if_false, ite_not, ite_self, Bool.false_eq_true, nIne1, kMask, mask, mask_n, O_mo, w2, es, nIeq, n32, nI_add]
        exact ih _ _ ⟨_, rfl, rfl, by omega, w1.put (by omega), uS⟩
      · have n32 : (t i = 32) = False := eq_false (by omega)
        have n10 : (t i = 10) = True := eq_true c
        simp (disch := first | assumption | omega) only [kb_X11_next0_26, KL, KB, KC, KI, KJ, KZ, bI_0, bI_n, nI00, nI10, ne_eq, Classical.not_not, not_true_eq_false, not_false_eq_true, if_true, if_false, ite_not, ite_self, Bool.false_eq_true, nIne1, kMask, mask, mask_n, O_mo, w2, es, nIeq, n32, n10, nI_add]
        exact ih _ _ ⟨_, rfl, rfl, by omega, w1.put (by omega), uS⟩
  exact key
