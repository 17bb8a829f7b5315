-- ===== tokens: the class scans =====
def TK (t : Nat → Nat) (L q : Nat) (g : GG) : Prop := g 158 11 = nI (lxE t L q) ∧ g 158 12 = nI (lxK t L q) ∧ g 158 13 = nI q ∧ (lxK t L q = 32 → g 158 14 = nI (lxV t L q))
def SCF (g g' : GG) : Prop := (∀ a, a ≠ 158 → g' a = g a) ∧ ∀ i, i ≠ 11 → i ≠ 12 → i ≠ 13 → i ≠ 14 → g' 158 i = g 158 i
theorem SCF.rfl' {g : GG} : SCF g g := ⟨fun _ _ => rfl, fun _ _ _ _ _ => rfl⟩
theorem SCF.put {g g' : GG} {i : Nat} {v : Int32} (h : SCF g g') (hi : i = 11 ∨ i = 12 ∨ i = 13 ∨ i = 14) : SCF g (upd2 g' 158 i v) := ⟨fun a ha => by rw [uN ha]; exact h.1 a ha, fun j a b c d => by rw [uO (by omega)]; exact h.2 j a b c d⟩
theorem TPC.scf {g g' : GG} {t : Nat → Nat} {L : Nat} (h : TPC g t L) (hf : SCF g g') : TPC g' t L := ⟨h.1, by rw [hf.2 1 (by omega) (by omega) (by omega) (by omega)]; exact h.2.1, fun i hi => by rw [hf.1 159 (by omega)]; exact h.2.2 i hi⟩
theorem mkC_lt (c : Nat) : mkC c = 34 ∨ (22 ≤ mkC c ∧ mkC c ≤ 31) := by unfold mkC; (repeat' split) <;> omega
theorem kwC_ne (t : Nat → Nat) (q n : Nat) : kwC t q n = 34 ∨ kwC t q n < 22 := by
  rcases kwF_cases t q n 22 0 with ⟨a, -⟩ | ⟨j, a, b, c, d, f⟩
  · exact Or.inl a
  · right; show kwF t q n 22 0 < 22; rw [c]; omega
theorem c_scan {g : GG} {m o L p : Nat} {t : Nat → Nat} (hT : TPC g t L) (h11 : g 158 11 = nI p) (hp' : p ≤ L) : ∃ g', f_X5_scan [.ref 158] (hp g m o) = some (none, hp g' m o) ∧ SCF g g' ∧ TK t L (stE blB t L p) g' := by
  have zt : (bW true = 0) = False := eq_false (by decide)
  have zf : (bW false = 0) = True := eq_true rfl
  have hL := hT.1
  obtain ⟨b1, b2, b3, b4⟩ := stE_prop blB t hp'
  generalize hq : stE blB t L p = q at *
  -- letters
  have lett : ∀ g1 : GG, SCF g g1 → g1 158 11 = nI q → g1 158 13 = nI q → q < L → leB (t q) = true → ∃ g', kl_X5_scan_95 [.ref 158] [] (hp g1 m o) = some (none, hp g' m o) ∧ SCF g g' ∧ TK t L q g' := by
    intro g1 hf i11 i13 hqL hle
    obtain ⟨c1, c2, c3, c4⟩ := stE_prop leB t (show q ≤ L by omega)
    have eE : lxE t L q = stE leB t L q := by unfold lxE; rw [if_neg (by omega), if_pos hle]
    have eK : lxK t L q = kwC t q (stE leB t L q - q) := by unfold lxK; rw [if_neg (by omega), if_pos hle]
    generalize stE leB t L q = e at *
    unfold kl_X5_scan_95
    refine kFor e (by unfold FU; omega) (fun i ls h => ∃ g', ls = [.ref 158] ∧ h = hp g' m o ∧ q ≤ i ∧ SCF g g' ∧ g' 158 11 = nI i ∧ g' 158 13 = nI q) (fun r => ∃ g', r = some (none, hp g' m o) ∧ SCF g g' ∧ TK t L q g') ?_ ?_ q _ _ c1 ⟨g1, rfl, rfl, Nat.le_refl _, hf, i11, i13⟩
    · rintro s ls h ⟨g', rfl, rfl, -, w1, w2, w3⟩
      have hT' := hT.scf w1
      have ek := c_keyword (m := m) (o := o) hT' w2 w3 c1 c2 c3
      have hl1 := hT'.2.1
      have out : ∃ g'', kb_X5_scan_134 [.ref 158] [] (hp g' m o) = some (none, hp g'' m o) ∧ SCF g g'' ∧ TK t L q g'' := by
        refine ⟨upd2 g' 158 12 (nI (kwC t q (e - q))), ?_, w1.put (by omega), by rw [eE, uO (by omega)]; exact w2, by rw [eK]; exact uS, by rw [uO (by omega)]; exact w3, fun hk => ?_⟩
        · simp (disch := first | assumption | omega) only [kb_X5_scan_134, kb_X5_scan_298, KL, KB, KC, KI, KJ, KZ, bI_0, bI_n, nI00, nI10, ne_eq, Classical.not_not, not_true_eq_false, not_false_eq_true, if_true, if_false, ite_not, ite_self, Bool.false_eq_true, nIne1, O_rd, ek]
        · rw [eK] at hk
          rcases kwC_ne t q (e - q) with h | h <;> omega
      by_cases he : e < L
      · have hin : (L ≤ e) = False := eq_false (by omega)
        have e400 : e < 400 := by omega
        obtain ⟨ht, ht2⟩ := hT'.2.2 e he
        have el := fun h => c_isLetter (t e) ht2 h
        rw [c4 he] at el
        simp (disch := first | assumption | omega) only [KL, KB, KC, KI, KJ, KZ, bI_0, bI_n, nI00, nI10, ne_eq, Classical.not_not, not_true_eq_false, not_false_eq_true, if_true, if_false, ite_not, ite_self, Bool.false_eq_true, nIne1, kMask, mask, mask_n, O_rd, AR, w2, hl1, nIle, hin, ht, el, zf]
        exact out
      · have hin : (L ≤ e) = True := eq_true (by omega)
        simp (disch := first | assumption | omega) only [KL, KB, KC, KI, KJ, KZ, bI_0, bI_n, nI00, nI10, ne_eq, Classical.not_not, not_true_eq_false, not_false_eq_true, if_true, if_false, ite_not, ite_self, Bool.false_eq_true, nIne1, kMask, mask, mask_n, O_rd, AR, w2, hl1, nIle, hin]
        exact out
    · rintro s i hi ih ls h ⟨g', rfl, rfl, w0, w1, w2, w3⟩
      have hT' := hT.scf w1
      have hl1 := hT'.2.1
      have hin : (L ≤ i) = False := eq_false (by omega)
      have i400 : i < 400 := by omega
      obtain ⟨ht, ht2⟩ := hT'.2.2 i (by omega)
      have el := fun h => c_isLetter (t i) ht2 h
      rw [c3 i w0 hi] at el
      simp (disch := first | assumption | omega) only [KL, KB, KC, KI, KJ, KZ, bI_0, bI_n, nI00, nI10, ne_eq, Classical.not_not, not_true_eq_false, not_false_eq_true, if_true, if_false, ite_not, ite_self, Bool.false_eq_true, nIne1, kMask, mask, mask_n, O_rd, AR, w2, hl1, nIle, hin, ht, el, zt, nI_add]
      exact ih _ _ ⟨_, rfl, rfl, by omega, w1.put (by omega), uS, by rw [uO (by omega)]; exact w3⟩
  -- digits
  have digs : ∀ g1 : GG, SCF g g1 → g1 158 11 = nI q → g1 158 13 = nI q → g1 158 14 = nI 0 → q < L → leB (t q) = false → diB (t q) = true → ∃ g', kl_X5_scan_165 [.ref 158] [] (hp g1 m o) = some (none, hp g' m o) ∧ SCF g g' ∧ TK t L q g' := by
    intro g1 hf i11 i13 i14 hqL hle hdi
    obtain ⟨c1, c2, c3, c4⟩ := stE_prop diB t (show q ≤ L by omega)
    have eE : lxE t L q = stE diB t L q := by unfold lxE; rw [if_neg (by omega), if_neg (by rw [hle]; decide), if_pos hdi]
    have eK : lxK t L q = if stE diB t L q - q ≤ 4 then 32 else 34 := by unfold lxK; rw [if_neg (by omega), if_neg (by rw [hle]; decide), if_pos hdi]
    have eV : lxV t L q = numV t q (stE diB t L q - q) := rfl
    generalize stE diB t L q = e at *
    unfold kl_X5_scan_165
    refine kFor e (by unfold FU; omega) (fun i ls h => ∃ g', ls = [.ref 158] ∧ h = hp g' m o ∧ q ≤ i ∧ SCF g g' ∧ g' 158 11 = nI i ∧ g' 158 13 = nI q ∧ g' 158 14 = nI (numV t q (i - q))) (fun r => ∃ g', r = some (none, hp g' m o) ∧ SCF g g' ∧ TK t L q g') ?_ ?_ q _ _ c1 ⟨g1, rfl, rfl, Nat.le_refl _, hf, i11, i13, by rw [Nat.sub_self]; exact i14⟩
    · rintro s ls h ⟨g', rfl, rfl, -, w1, w2, w3, w4⟩
      have hT' := hT.scf w1
      have hl1 := hT'.2.1
      have out : ∃ g'', kb_X5_scan_228 [.ref 158] [] (hp g' m o) = some (none, hp g'' m o) ∧ SCF g g'' ∧ TK t L q g'' := by
        refine ⟨upd2 g' 158 12 (nI (if e - q ≤ 4 then 32 else 34)), ?_, w1.put (by omega), by rw [eE, uO (by omega)]; exact w2, by rw [eK]; exact uS, by rw [uO (by omega)]; exact w3, fun hk => by rw [eV, uO (by omega)]; exact w4⟩
        by_cases c : e - q ≤ 4
        · have c' : (4 < e - q) = False := eq_false (by omega)
          rw [if_pos c]
          simp (disch := first | assumption | omega) only [kb_X5_scan_228, kb_X5_scan_249, kb_X5_scan_298, KL, KB, KC, KI, KJ, KZ, bI_0, bI_n, nI00, nI10, ne_eq, Classical.not_not, not_true_eq_false, not_false_eq_true, if_true, if_false, ite_not, ite_self, Bool.false_eq_true, nIne1, O_rd, w2, w3, nI_sub, nIlt, c']
        · have c' : (4 < e - q) = True := eq_true (by omega)
          rw [if_neg c]
          simp (disch := first | assumption | omega) only [kb_X5_scan_228, kb_X5_scan_249, kb_X5_scan_298, KL, KB, KC, KI, KJ, KZ, bI_0, bI_n, nI00, nI10, ne_eq, Classical.not_not, not_true_eq_false, not_false_eq_true, if_true, if_false, ite_not, ite_self, Bool.false_eq_true, nIne1, O_rd, w2, w3, nI_sub, nIlt, c']
      by_cases he : e < L
      · have hin : (L ≤ e) = False := eq_false (by omega)
        have e400 : e < 400 := by omega
        obtain ⟨ht, ht2⟩ := hT'.2.2 e he
        have el := fun h => c_isDigit (t e) ht2 h
        rw [c4 he] at el
        simp (disch := first | assumption | omega) only [KL, KB, KC, KI, KJ, KZ, bI_0, bI_n, nI00, nI10, ne_eq, Classical.not_not, not_true_eq_false, not_false_eq_true, if_true, if_false, ite_not, ite_self, Bool.false_eq_true, nIne1, kMask, mask, mask_n, O_rd, AR, w2, hl1, nIle, hin, ht, el, zf]
        exact out
      · have hin : (L ≤ e) = True := eq_true (by omega)
        simp (disch := first | assumption | omega) only [KL, KB, KC, KI, KJ, KZ, bI_0, bI_n, nI00, nI10, ne_eq, Classical.not_not, not_true_eq_false, not_false_eq_true, if_true, if_false, ite_not, ite_self, Bool.false_eq_true, nIne1, kMask, mask, mask_n, O_rd, AR, w2, hl1, nIle, hin]
        exact out
    · rintro s i hi ih ls h ⟨g', rfl, rfl, w0, w1, w2, w3, w4⟩
      have hT' := hT.scf w1
      have hl1 := hT'.2.1
      have hin : (L ≤ i) = False := eq_false (by omega)
      have i400 : i < 400 := by omega
      obtain ⟨ht, ht2⟩ := hT'.2.2 i (by omega)
      have el := fun h => c_isDigit (t i) ht2 h
      rw [c3 i w0 hi] at el
      have hdig := of_decide_eq_true (c3 i w0 hi)
      have hnum : nI (numV t q (i - q)) * nI 10 + nI (t i) - nI 48 = nI (numV t q (i + 1 - q)) := by
        rw [show i + 1 - q = (i - q) + 1 by omega, nI_mul, nI_add, nI_sub (by omega)]
        show _ = nI (10 * numV t q (i - q) + (t (q + (i - q)) - 48))
        congr 1
        rw [show q + (i - q) = i by omega]
        omega
      simp (disch := first | assumption | omega) only [KL, KB, KC, KI, KJ, KZ, bI_0, bI_n, nI00, nI10, ne_eq, Classical.not_not, not_true_eq_false, not_false_eq_true, if_true, if_false, ite_not, ite_self, Bool.false_eq_true, nIne1, kMask, mask, mask_n, O_rd, AR, w2, w4, hl1, nIle, hin, ht, el, zt, hnum, upd2_ne]
      have e11 : upd2 g' 158 14 (nI (numV t q (i + 1 - q))) 158 11 = nI i := by rw [uO (by omega)]; exact w2
      simp (disch := first | assumption | omega) only [e11, nI_add]
      exact ih _ _ ⟨_, rfl, rfl, by omega, (w1.put (by omega)).put (by omega), uS, by rw [uO (by omega), uO (by omega)]; exact w3, by rw [uO (by omega)]; exact uS⟩
  -- behind the blanks
  have tok : ∀ g1 : GG, SCF g g1 → g1 158 11 = nI q → ∃ g', kb_X5_scan_52 [.ref 158] [] (hp g1 m o) = some (none, hp g' m o) ∧ SCF g g' ∧ TK t L q g' := by
    intro g1 hf i11
    have hT' := hT.scf hf
    have hl1 := hT'.2.1
    have hf2 : SCF g (upd2 g1 158 13 (nI q)) := hf.put (by omega)
    have i11' : upd2 g1 158 13 (nI q) 158 11 = nI q := by rw [uO (by omega)]; exact i11
    have il : upd2 g1 158 13 (nI q) 158 1 = nI L := by rw [uO (by omega)]; exact hl1
    have i13 : upd2 g1 158 13 (nI q) 158 13 = nI q := uS
    by_cases hqL : q < L
    · have hlt : (q < L) = True := eq_true hqL
      have q400 : q < 400 := by omega
      obtain ⟨ht, ht2⟩ := hT'.2.2 q hqL
      have ht' : upd2 g1 158 13 (nI q) 159 q = nI (t q) := by rw [uN (by omega)]; exact ht
      have el := fun h => c_isLetter (t q) ht2 h
      cases hle : leB (t q) with
      | true =>
        rw [hle] at el
        obtain ⟨g', e, w⟩ := lett _ hf2 i11' i13 hqL hle
        refine ⟨g', ?_, w⟩
        simp (disch := first | assumption | omega) only [kb_X5_scan_52, KL, KB, KC, KI, KJ, KZ, bI_0, bI_n, nI00, nI10, ne_eq, Classical.not_not, not_true_eq_false, not_false_eq_true, if_true, if_false, ite_not, ite_self, Bool.false_eq_true, nIne1, O_rd, AR, i11, i11', il, nIlt, hlt, ht', el, zt]
        exact e
      | false =>
        rw [hle] at el
        have ed := fun h => c_isDigit (t q) ht2 h
        cases hdi : diB (t q) with
        | true =>
          rw [hdi] at ed
          obtain ⟨g', e, w⟩ := digs (upd2 (upd2 g1 158 13 (nI q)) 158 14 (nI 0)) (hf2.put (by omega)) (by rw [uO (by omega)]; exact i11') (by rw [uO (by omega)]; exact i13) uS hqL hle hdi
          refine ⟨g', ?_, w⟩
          simp (disch := first | assumption | omega) only [kb_X5_scan_52, KL, KB, KC, KI, KJ, KZ, bI_0, bI_n, nI00, nI10, ne_eq, Classical.not_not, not_true_eq_false, not_false_eq_true, if_true, if_false, ite_not, ite_self, Bool.false_eq_true, nIne1, O_rd, AR, i11, i11', il, nIlt, hlt, ht', el, zf, ed, zt]
          exact e
        | false =>
          rw [hdi] at ed
          have hch : ((nI (t q)).toUInt32 % 65536).toInt32 = nI (t q) := by
            have : ∀ c : Fin 256, ((nI c.val).toUInt32 % 65536).toInt32 = nI c.val := by decide +kernel
            exact this ⟨t q, ht2⟩
          have ei := fun h => s_index ht2 h
          have rc := fun (k : KK) (ls st : List Value) (h : HP) (v : Value) => S_rc1 (i := 1) (by decide) k ls st h v
          have eE : lxE t L q = q + 1 := by unfold lxE; rw [if_neg (by omega), if_neg (by rw [hle]; decide), if_neg (by rw [hdi]; decide)]
          have eK : lxK t L q = mkC (t q) := by unfold lxK; rw [if_neg (by omega), if_neg (by rw [hle]; decide), if_neg (by rw [hdi]; decide)]
          have fin : ∃ g', kb_X5_scan_285 [.ref 158, .int (if mkC (t q) = 34 then -1 else nI (mkC (t q) - 22))] [.int (nI (mkC (t q))), .ref 158] (hp (upd2 g1 158 13 (nI q)) m o) = some (none, hp g' m o) ∧ SCF g g' ∧ TK t L q g' := by
            have i11b : upd2 (upd2 g1 158 13 (nI q)) 158 12 (nI (mkC (t q))) 158 11 = nI q := by rw [uO (by omega)]; exact i11'
            refine ⟨upd2 (upd2 (upd2 g1 158 13 (nI q)) 158 12 (nI (mkC (t q)))) 158 11 (nI (q + 1)), ?_, (hf2.put (by omega)).put (by omega), by rw [eE]; exact uS, by rw [eK, uO (by omega)]; exact uS, by rw [uO (by omega), uO (by omega)]; exact i13, fun hk => ?_⟩
            · simp (disch := first | assumption | omega) only [kb_X5_scan_285, kb_X5_scan_298, KL, KB, KC, KI, KJ, KZ, bI_0, bI_n, nI00, nI10, ne_eq, Classical.not_not, not_true_eq_false, not_false_eq_true, if_true, if_false, ite_not, ite_self, Bool.false_eq_true, nIne1, O_rd, i11b, nI_add]
            · rw [eK] at hk
              rcases mkC_lt (t q) with h | h <;> omega
          obtain ⟨g', e, w⟩ := fin
          refine ⟨g', ?_, w⟩
          by_cases c : mkC (t q) = 34
          · rw [if_pos c] at ei e
            rw [c] at e
            have hneg : ((0 : Int32) ≤ -1) = False := eq_false (by decide)
            simp (disch := first | assumption | omega) only [kb_X5_scan_52, KL, KB, KC, KI, KJ, KZ, bI_0, bI_n, nI00, nI10, ne_eq, Classical.not_not, not_true_eq_false, not_false_eq_true, if_true, if_false, ite_not, ite_self, Bool.false_eq_true, nIne1, O_rd, AR, i11, i11', il, nIlt, hlt, ht', el, zf, ed, S_str, S_uc, hch, rc, ei, hneg]
            exact e
          · rw [if_neg c] at ei e
            have hm := mkC_lt (t q)
            have hneg : ((0 : Int32) ≤ nI (mkC (t q) - 22)) = True := eq_true (nI_pos' (by omega))
            have hsum : nI 22 + nI (mkC (t q) - 22) = nI (mkC (t q)) := by rw [nI_add]; congr 1; omega
            simp (disch := first | assumption | omega) only [kb_X5_scan_52, KL, KB, KC, KI, KJ, KZ, bI_0, bI_n, nI00, nI10, ne_eq, Classical.not_not, not_true_eq_false, not_false_eq_true, if_true, if_false, ite_not, ite_self, Bool.false_eq_true, nIne1, O_rd, AR, i11, i11', il, nIlt, hlt, ht', el, zf, ed, S_str, S_uc, hch, rc, ei, hneg, hsum]
            exact e
    · have hlt : (q < L) = False := eq_false hqL
      have eE : lxE t L q = q := by unfold lxE; rw [if_pos (by omega)]
      have eK : lxK t L q = 33 := by unfold lxK; rw [if_pos (by omega)]
      refine ⟨upd2 (upd2 g1 158 13 (nI q)) 158 12 (nI 33), ?_, hf2.put (by omega), by rw [eE, uO (by omega)]; exact i11', by rw [eK]; exact uS, by rw [uO (by omega)]; exact i13, fun hk => by rw [eK] at hk; omega⟩
      simp (disch := first | assumption | omega) only [kb_X5_scan_52, kb_X5_scan_298, KL, KB, KC, KI, KJ, KZ, bI_0, bI_n, nI00, nI10, ne_eq, Classical.not_not, not_true_eq_false, not_false_eq_true, if_true, if_false, ite_not, ite_self, Bool.false_eq_true, nIne1, O_rd, AR, i11, i11', il, nIlt, hlt]
  have key : ∃ g', kl_X5_scan_0 [.ref 158] [] (hp g m o) = some (none, hp g' m o) ∧ SCF g g' ∧ TK t L q g' := by
    unfold kl_X5_scan_0
    refine kFor q (by unfold FU; omega) (fun i ls h => ∃ g', ls = [.ref 158] ∧ h = hp g' m o ∧ p ≤ i ∧ SCF g g' ∧ g' 158 11 = nI i) (fun r => ∃ g', r = some (none, hp g' m o) ∧ SCF g g' ∧ TK t L q g') ?_ ?_ p _ _ b1 ⟨g, rfl, rfl, Nat.le_refl _, SCF.rfl', h11⟩
    · rintro s ls h ⟨g', rfl, rfl, -, w1, w2⟩
      have hT' := hT.scf w1
      have hl1 := hT'.2.1
      have ht := tok g' w1 w2
      by_cases he : q < L
      · have hin : (L ≤ q) = False := eq_false (by omega)
        have e400 : q < 400 := by omega
        obtain ⟨ht1, ht2⟩ := hT'.2.2 q he
        have hnb := of_decide_eq_false (b4 he)
        have n32 : (t q = 32) = False := eq_false (fun e => hnb (Or.inl e))
        have n10 : (t q = 10) = False := eq_false (fun e => hnb (Or.inr e))
        simp (disch := first | assumption | omega) only [KL, KB, KC, KI, KJ, KZ, bI_0, bI_n, nI00, nI10, ne_eq, Classical.not_not, not_true_eq_false, not_false_eq_true, if_true, if_false, ite_not, ite_self, Bool.false_eq_true, nIne1, kMask, mask, mask_n, O_rd, AR, w2, hl1, nIle, hin, ht1, nIeq, n32, n10]
        exact ht
      · have hin : (L ≤ q) = True := eq_true (by omega)
        simp (disch := first | assumption | omega) only [KL, KB, KC, KI, KJ, KZ, bI_0, bI_n, nI00, nI10, ne_eq, Classical.not_not, not_true_eq_false, not_false_eq_true, if_true, if_false, ite_not, ite_self, Bool.false_eq_true, nIne1, kMask, mask, mask_n, O_rd, AR, w2, hl1, nIle, hin]
        exact ht
    · rintro s i hi ih ls h ⟨g', rfl, rfl, w0, w1, w2⟩
      have hT' := hT.scf w1
      have hl1 := hT'.2.1
      have hin : (L ≤ i) = False := eq_false (by omega)
      have i400 : i < 400 := by omega
      obtain ⟨ht, ht2⟩ := hT'.2.2 i (by omega)
      rcases of_decide_eq_true (b3 i w0 hi) with c | c
      · have n32 : (t i = 32) = True := eq_true c
        simp (disch := first | assumption | omega) only [kb_X5_scan_39, KL, KB, KC, KI, KJ, KZ, bI_0, bI_n, nI00, nI10, ne_eq, Classical.not_not, not_true_eq_false, not_false_eq_true, if_true, if_false, ite_not, ite_self, Bool.false_eq_true, nIne1, kMask, mask, mask_n, O_rd, AR, w2, hl1, nIle, hin, ht, nIeq, n32, nI_add]
        exact ih _ _ ⟨_, rfl, rfl, by omega, w1.put (by omega), uS⟩
      · have n32 : (t i = 32) = False := eq_false (by omega)
        have n10 : (t i = 10) = True := eq_true c
        simp (disch := first | assumption | omega) only [kb_X5_scan_39, KL, KB, KC, KI, KJ, KZ, bI_0, bI_n, nI00, nI10, ne_eq, Classical.not_not, not_true_eq_false, not_false_eq_true, if_true, if_false, ite_not, ite_self, Bool.false_eq_true, nIne1, kMask, mask, mask_n, O_rd, AR, w2, hl1, nIle, hin, ht, nIeq, n32, n10, nI_add]
        exact ih _ _ ⟨_, rfl, rfl, by omega, w1.put (by omega), uS⟩
  obtain ⟨g', e, w⟩ := key
  exact ⟨g', e, w⟩
