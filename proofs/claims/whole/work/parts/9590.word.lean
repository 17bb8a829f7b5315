-- ===== words and wordings: the class =====
def wdB (F : Nat → Int32) (w : Nat) : Bool := match w with
  | 0 => decide (F 0 = nI 1)
  | 1 => decide (F 1 = nI 1)
  | 2 => decide (F 14 = nI 1)
  | 3 => decide (¬ F 3 ≤ F 2)
  | 4 => decide (F 5 = 0) && decide (¬ F 4 = 0)
  | 5 => decide (F 4 = nI 2) && decide (¬ F 5 = nI 2)
  | 6 => decide (¬ F 7 ≤ F 6)
  | _ => decide (F 13 = 0) && decide (¬ F 12 = 0)
theorem wd116 (g : GG) (m o : Nat) (F : Nat → Int32) (hF : ∀ i, i < 16 → g 78 i = F i) (A : Nat) : kb_X4_wordsSo_116 [.ref 77, .int (nI A)] [] (hp g m o) = some (some (.int (nI (A ||| if wdB F 7 = true then 128 else 0))), hp g m o) := by
  have h12 := hF 12 (by omega)
  have h13 := hF 13 (by omega)
  by_cases a : F 13 = 0
  · have a' : (F 13 = 0) = True := eq_true a
    by_cases b : F 12 = 0
    · have b' : (F 12 = 0) = True := eq_true b
      have e : wdB F 7 = false := by show (decide (F 13 = 0) && decide (¬ F 12 = 0)) = false; rw [decide_eq_false (p := ¬ F 12 = 0) (fun q => q b), Bool.and_false]
      rw [e, if_neg (by decide), Nat.or_zero]
      simp (disch := first | assumption | omega) only [kb_X4_wordsSo_116, kb_X4_wordsSo_142, KL, KB, KC, KI, KJ, KZ, bI_0, bI_n, nI00, nI10, ne_eq, Classical.not_not, not_true_eq_false, not_false_eq_true, if_true, if_false, ite_not, ite_self, Bool.false_eq_true, nIne1, O_pr, AR, h12, h13, a', b']
    · have b' : (F 12 = 0) = False := eq_false b
      have e : wdB F 7 = true := by show (decide (F 13 = 0) && decide (¬ F 12 = 0)) = true; rw [decide_eq_true b, decide_eq_true a]; rfl
      rw [e, if_pos rfl]
      simp (disch := first | assumption | omega) only [kb_X4_wordsSo_116, kb_X4_wordsSo_142, KL, KB, KC, KI, KJ, KZ, bI_0, bI_n, nI00, nI10, ne_eq, Classical.not_not, not_true_eq_false, not_false_eq_true, if_true, if_false, ite_not, ite_self, Bool.false_eq_true, nIne1, O_pr, AR, h12, h13, a', b', nI_or]
  · have a' : (F 13 = 0) = False := eq_false a
    have e : wdB F 7 = false := by show (decide (F 13 = 0) && decide (¬ F 12 = 0)) = false; rw [decide_eq_false a, Bool.false_and]
    rw [e, if_neg (by decide), Nat.or_zero]
    simp (disch := first | assumption | omega) only [kb_X4_wordsSo_116, kb_X4_wordsSo_142, KL, KB, KC, KI, KJ, KZ, bI_0, bI_n, nI00, nI10, ne_eq, Classical.not_not, not_true_eq_false, not_false_eq_true, if_true, if_false, ite_not, ite_self, Bool.false_eq_true, nIne1, O_pr, AR, h12, h13, a']
theorem wd94 (g : GG) (m o : Nat) (F : Nat → Int32) (hF : ∀ i, i < 16 → g 78 i = F i) (A : Nat) : kb_X4_wordsSo_94 [.ref 77, .int (nI A)] [] (hp g m o) = some (some (.int (nI ((A ||| if wdB F 6 = true then 64 else 0) ||| if wdB F 7 = true then 128 else 0))), hp g m o) := by
  have h12 := hF 6 (by omega)
  have h13 := hF 7 (by omega)
  by_cases a : F 7 ≤ F 6
  · have a' : (F 7 ≤ F 6) = True := eq_true a
    have e : wdB F 6 = false := decide_eq_false (fun q => q a)
    rw [e, if_neg (by decide), Nat.or_zero]
    simp (disch := first | assumption | omega) only [kb_X4_wordsSo_94, KL, KB, KC, KI, KJ, KZ, bI_0, bI_n, nI00, nI10, ne_eq, Classical.not_not, not_true_eq_false, not_false_eq_true, if_true, if_false, ite_not, ite_self, Bool.false_eq_true, nIne1, O_pr, AR, h12, h13, a']
    exact wd116 g m o F hF _
  · have a' : (F 7 ≤ F 6) = False := eq_false a
    have e : wdB F 6 = true := decide_eq_true a
    rw [e, if_pos (rfl : true = true)]
    simp (disch := first | assumption | omega) only [kb_X4_wordsSo_94, KL, KB, KC, KI, KJ, KZ, bI_0, bI_n, nI00, nI10, ne_eq, Classical.not_not, not_true_eq_false, not_false_eq_true, if_true, if_false, ite_not, ite_self, Bool.false_eq_true, nIne1, O_pr, AR, h12, h13, a', nI_or]
    exact wd116 g m o F hF _
theorem wd69 (g : GG) (m o : Nat) (F : Nat → Int32) (hF : ∀ i, i < 16 → g 78 i = F i) (A : Nat) : kb_X4_wordsSo_69 [.ref 77, .int (nI A)] [] (hp g m o) = some (some (.int (nI (((A ||| if wdB F 5 = true then 32 else 0) ||| if wdB F 6 = true then 64 else 0) ||| if wdB F 7 = true then 128 else 0))), hp g m o) := by
  have h4 := hF 4 (by omega)
  have h5 := hF 5 (by omega)
  by_cases a : F 4 = nI 2
  · have a' : (F 4 = nI 2) = True := eq_true a
    by_cases b : F 5 = nI 2
    · have b' : (F 5 = nI 2) = True := eq_true b
      have e : wdB F 5 = false := by show (decide (F 4 = nI 2) && decide (¬ F 5 = nI 2)) = false; rw [decide_eq_false (p := ¬ F 5 = nI 2) (fun q => q b), Bool.and_false]
      rw [e, if_neg (by decide), Nat.or_zero]
      simp (disch := first | assumption | omega) only [kb_X4_wordsSo_69, KL, KB, KC, KI, KJ, KZ, bI_0, bI_n, nI00, nI10, ne_eq, Classical.not_not, not_true_eq_false, not_false_eq_true, if_true, if_false, ite_not, ite_self, Bool.false_eq_true, nIne1, O_pr, AR, h4, h5, a', b']
      exact wd94 g m o F hF _
    · have b' : (F 5 = nI 2) = False := eq_false b
      have e : wdB F 5 = true := by show (decide (F 4 = nI 2) && decide (¬ F 5 = nI 2)) = true; rw [decide_eq_true b, decide_eq_true a]; rfl
      rw [e, if_pos (rfl : true = true)]
      simp (disch := first | assumption | omega) only [kb_X4_wordsSo_69, KL, KB, KC, KI, KJ, KZ, bI_0, bI_n, nI00, nI10, ne_eq, Classical.not_not, not_true_eq_false, not_false_eq_true, if_true, if_false, ite_not, ite_self, Bool.false_eq_true, nIne1, O_pr, AR, h4, h5, a', b', nI_or]
      exact wd94 g m o F hF _
  · have a' : (F 4 = nI 2) = False := eq_false a
    have e : wdB F 5 = false := by show (decide (F 4 = nI 2) && decide (¬ F 5 = nI 2)) = false; rw [decide_eq_false a, Bool.false_and]
    rw [e, if_neg (by decide), Nat.or_zero]
    simp (disch := first | assumption | omega) only [kb_X4_wordsSo_69, KL, KB, KC, KI, KJ, KZ, bI_0, bI_n, nI00, nI10, ne_eq, Classical.not_not, not_true_eq_false, not_false_eq_true, if_true, if_false, ite_not, ite_self, Bool.false_eq_true, nIne1, O_pr, AR, h4, h5, a']
    exact wd94 g m o F hF _
theorem wd46 (g : GG) (m o : Nat) (F : Nat → Int32) (hF : ∀ i, i < 16 → g 78 i = F i) (A : Nat) : kb_X4_wordsSo_46 [.ref 77, .int (nI A)] [] (hp g m o) = some (some (.int (nI ((((A ||| if wdB F 4 = true then 16 else 0) ||| if wdB F 5 = true then 32 else 0) ||| if wdB F 6 = true then 64 else 0) ||| if wdB F 7 = true then 128 else 0))), hp g m o) := by
  have h4 := hF 4 (by omega)
  have h5 := hF 5 (by omega)
  by_cases a : F 5 = 0
  · have a' : (F 5 = 0) = True := eq_true a
    by_cases b : F 4 = 0
    · have b' : (F 4 = 0) = True := eq_true b
      have e : wdB F 4 = false := by show (decide (F 5 = 0) && decide (¬ F 4 = 0)) = false; rw [decide_eq_false (p := ¬ F 4 = 0) (fun q => q b), Bool.and_false]
      rw [e, if_neg (by decide), Nat.or_zero]
      simp (disch := first | assumption | omega) only [kb_X4_wordsSo_46, KL, KB, KC, KI, KJ, KZ, bI_0, bI_n, nI00, nI10, ne_eq, Classical.not_not, not_true_eq_false, not_false_eq_true, if_true, if_false, ite_not, ite_self, Bool.false_eq_true, nIne1, O_pr, AR, h4, h5, a', b']
      exact wd69 g m o F hF _
    · have b' : (F 4 = 0) = False := eq_false b
      have e : wdB F 4 = true := by show (decide (F 5 = 0) && decide (¬ F 4 = 0)) = true; rw [decide_eq_true b, decide_eq_true a]; rfl
      rw [e, if_pos (rfl : true = true)]
      simp (disch := first | assumption | omega) only [kb_X4_wordsSo_46, KL, KB, KC, KI, KJ, KZ, bI_0, bI_n, nI00, nI10, ne_eq, Classical.not_not, not_true_eq_false, not_false_eq_true, if_true, if_false, ite_not, ite_self, Bool.false_eq_true, nIne1, O_pr, AR, h4, h5, a', b', nI_or]
      exact wd69 g m o F hF _
  · have a' : (F 5 = 0) = False := eq_false a
    have e : wdB F 4 = false := by show (decide (F 5 = 0) && decide (¬ F 4 = 0)) = false; rw [decide_eq_false a, Bool.false_and]
    rw [e, if_neg (by decide), Nat.or_zero]
    simp (disch := first | assumption | omega) only [kb_X4_wordsSo_46, KL, KB, KC, KI, KJ, KZ, bI_0, bI_n, nI00, nI10, ne_eq, Classical.not_not, not_true_eq_false, not_false_eq_true, if_true, if_false, ite_not, ite_self, Bool.false_eq_true, nIne1, O_pr, AR, h4, h5, a']
    exact wd69 g m o F hF _
theorem wd_b {F : Nat → Int32} {i : Nat} {b : Bool} (h : F i = bW b) : decide (F i = nI 1) = b := by
  cases b with
  | true => exact decide_eq_true (by rw [h]; rfl)
  | false => exact decide_eq_false (by rw [h]; decide)
theorem c_wordsSo (g : GG) (m o : Nat) (F : Nat → Int32) (hF : ∀ i, i < 16 → g 78 i = F i) (b0 b1 b2 : Bool) (h0 : F 0 = bW b0) (h1 : F 1 = bW b1) (h2 : F 14 = bW b2) : f_X4_wordsSo [.ref 77] (hp g m o) = some (some (.int (nI (setN (wdB F) 8))), hp g m o) := by
  have f0 : g 78 0 = nI (bN b0) := by rw [hF 0 (by omega), h0, bW_bN]
  have f1 : g 78 1 = nI (bN b1) := by rw [hF 1 (by omega), h1, bW_bN]
  have f14 : g 78 14 = nI (bN b2) := by rw [hF 14 (by omega), h2, bW_bN]
  have f2 := hF 2 (by omega)
  have f3 := hF 3 (by omega)
  have w0 : wdB F 0 = b0 := wd_b h0
  have w1 : wdB F 1 = b1 := wd_b h1
  have w2 : wdB F 2 = b2 := wd_b h2
  have hA : (bN b0 ||| bN b1 <<< 1) ||| bN b2 <<< 2 = setN (wdB F) 3 := by
    show _ = ((0 ||| (if wdB F 0 = true then 1 <<< 0 else 0)) ||| (if wdB F 1 = true then 1 <<< 1 else 0)) ||| (if wdB F 2 = true then 1 <<< 2 else 0)
    rw [w0, w1, w2]
    cases b0 <;> cases b1 <;> cases b2 <;> rfl
  have h8 : setN (wdB F) 8 = ((((setN (wdB F) 3 ||| if wdB F 3 = true then 8 else 0) ||| if wdB F 4 = true then 16 else 0) ||| if wdB F 5 = true then 32 else 0) ||| if wdB F 6 = true then 64 else 0) ||| if wdB F 7 = true then 128 else 0 := rfl
  rw [h8]
  by_cases a : F 3 ≤ F 2
  · have a' : (F 3 ≤ F 2) = True := eq_true a
    have e : wdB F 3 = false := decide_eq_false (fun q => q a)
    rw [e, if_neg (by decide), Nat.or_zero]
    simp (disch := first | assumption | omega) only [f_X4_wordsSo, kb_X4_wordsSo_0, KL, KB, KC, KI, KJ, KZ, bI_0, bI_n, nI00, nI10, ne_eq, Classical.not_not, not_true_eq_false, not_false_eq_true, if_true, if_false, ite_not, ite_self, Bool.false_eq_true, nIne1, O_pr, AR, f0, f1, f14, f2, f3, nI_shl, nI_or, hA, a']
    exact wd46 g m o F hF _
  · have a' : (F 3 ≤ F 2) = False := eq_false a
    have e : wdB F 3 = true := decide_eq_true a
    rw [e, if_pos (rfl : true = true)]
    simp (disch := first | assumption | omega) only [f_X4_wordsSo, kb_X4_wordsSo_0, KL, KB, KC, KI, KJ, KZ, bI_0, bI_n, nI00, nI10, ne_eq, Classical.not_not, not_true_eq_false, not_false_eq_true, if_true, if_false, ite_not, ite_self, Bool.false_eq_true, nIne1, O_pr, AR, f0, f1, f14, f2, f3, nI_shl, nI_or, hA, a']
    exact wd46 g m o F hF _
/-- the words that are so, of a later one and above them of a first one -/
def wsN (F : Nat → Int32) : Nat := setN (wdB (fvS F (nI 0))) 8 ||| setN (wdB (fvS F (nI 1))) 8 <<< 8
theorem c_byWords (g : GG) (m o : Nat) (F : Nat → Int32) (hF : ∀ i, i < 16 → i ≠ 14 → g 78 i = F i) (b0 b1 : Bool) (h0 : F 0 = bW b0) (h1 : F 1 = bW b1) : ∃ g', f_X0_byWords [.ref 164] (hp g m o) = some (some (.int (nI (wsN F))), hp g' m o) ∧ ∀ a, a ≠ 78 → g' a = g a := by
  have hF0 : ∀ i, i < 16 → upd2 g 78 14 (nI 0) 78 i = fvS F (nI 0) i := fun i hi => by
    by_cases q : i = 14
    · subst q; rw [uS]; rfl
    · rw [uO (Or.inr q), hF i hi q]; exact (if_neg q).symm
  have hF1 : ∀ i, i < 16 → upd2 (upd2 g 78 14 (nI 0)) 78 14 (nI 1) 78 i = fvS F (nI 1) i := fun i hi => by
    by_cases q : i = 14
    · subst q; rw [uS]; rfl
    · rw [uO (Or.inr q), uO (Or.inr q), hF i hi q]; exact (if_neg q).symm
  have e1 := c_wordsSo _ m o _ hF0 b0 b1 false h0 h1 rfl
  have e2 := c_wordsSo _ m o _ hF1 b0 b1 true h0 h1 rfl
  refine ⟨upd2 (upd2 g 78 14 (nI 0)) 78 14 (nI 1), ?_, fun a ha => by rw [uN ha, uN ha]⟩
  simp (disch := first | assumption | omega) only [f_X0_byWords, kb_X0_byWords_0, KL, KB, KC, KI, KJ, KZ, bI_0, bI_n, nI00, nI10, ne_eq, Classical.not_not, not_true_eq_false, not_false_eq_true, if_true, if_false, ite_not, ite_self, Bool.false_eq_true, nIne1, O_co, O_pr, AR, e1, e2, nI_shl, nI_or]
  rfl
/-- a wording's answer, by which words are so -/
def wgB (p : Nat → Bool) (w : Nat) : Bool := if 0 < w / 17 ∧ p ((w / 17 - 1) % 8) = true then decide (w / 17 < 9) else p ((w % 17 - 1) % 8) && decide (w % 17 < 9)
abbrev okW (w : Nat) : Prop := 1 ≤ w ∧ w ≤ 288 ∧ w % 17 ≠ 0
theorem c_byWording (S w : Nat) (p : Nat → Bool) (hS : S < 2147483648) (hp' : ∀ i, i < 8 → S.testBit i = p i) (hw : okW w) (h : HP) : f_X0_byWording [.int (nI S), .int (nI w)] h = some (some (.int (bW (wgB p w))), h) := by
  obtain ⟨w1, w2, w3⟩ := hw
  have hbit : ∀ a, a < 8 → ((nI ((S >>> a) &&& 1) = 0) = (p a = false)) := fun a ha => by rw [bit0, Nat.testBit_shiftRight, Nat.add_zero, hp' a ha]
  have l8 : ∀ a, a % 8 < 8 := fun a => Nat.mod_lt _ (by decide)
  have hd : ∀ a b : Nat, a < 1000 → b < 1000 → nI a / nI b = nI (a / b) := fun a b ha hb => nI_div a b (by omega) (by omega)
  have sh : ∀ a : Nat, nI S >>> (nI (a % 8) &&& 31) = nI (S >>> (a % 8)) := fun a => nI_shr S (a % 8) hS (by have := l8 a; omega)
  by_cases q : w ≤ 16
  · have q' : (w ≤ 16) = True := eq_true q
    have e1 : w / 17 = 0 := by omega
    have e2 : w % 17 = w := by omega
    have hb := hbit ((w - 1) % 8) (l8 _)
    unfold wgB
    rw [if_neg (by rw [e1]; omega), e2]
    cases hp0 : p ((w - 1) % 8) with
    | false =>
      have hp1 : (p ((w - 1) % 8) = false) = True := eq_true hp0
      simp (disch := first | assumption | omega) only [f_X0_byWording, kb_X0_byWording_82, kb_X0_byWording_81, kb_X0_byWording_41, kb_X0_byWording_18, kb_X0_byWording_0, KL, KB, KC, KI, KJ, KZ, bI_0, bI_n, nI00, nI10, ne_eq, Classical.not_not, not_true_eq_false, not_false_eq_true, if_true, if_false, ite_not, ite_self, Bool.false_eq_true, nIne1, nIle, q', nI_sub, hd, nI_rem2, sh, nI_and, hb, hp1, nIlt0]
      rfl
    | true =>
      have hp1 : (p ((w - 1) % 8) = false) = False := eq_false (by rw [hp0]; decide)
      by_cases t : w < 9
      · have t' : (8 ≤ w - 1) = False := eq_false (by omega)
        rw [decide_eq_true t]
        simp (disch := first | assumption | omega) only [f_X0_byWording, kb_X0_byWording_82, kb_X0_byWording_81, kb_X0_byWording_41, kb_X0_byWording_18, kb_X0_byWording_0, KL, KB, KC, KI, KJ, KZ, bI_0, bI_n, nI00, nI10, ne_eq, Classical.not_not, not_true_eq_false, not_false_eq_true, if_true, if_false, ite_not, ite_self, Bool.false_eq_true, nIne1, nIle, q', nI_sub, hd, nI_rem2, sh, nI_and, hb, hp1, t']
        rfl
      · have t' : (8 ≤ w - 1) = True := eq_true (by omega)
        rw [decide_eq_false t]
        simp (disch := first | assumption | omega) only [f_X0_byWording, kb_X0_byWording_82, kb_X0_byWording_81, kb_X0_byWording_41, kb_X0_byWording_18, kb_X0_byWording_0, KL, KB, KC, KI, KJ, KZ, bI_0, bI_n, nI00, nI10, ne_eq, Classical.not_not, not_true_eq_false, not_false_eq_true, if_true, if_false, ite_not, ite_self, Bool.false_eq_true, nIne1, nIle, q', nI_sub, hd, nI_rem2, sh, nI_and, hb, hp1, t']
        rfl
  · have q' : (w ≤ 16) = False := eq_false q
    have e1 : 0 < w / 17 := by omega
    have e1' : 1 ≤ w / 17 := e1
    have e17 : w / 17 < 20 := by omega
    have hb := hbit ((w / 17 - 1) % 8) (l8 _)
    have hb2 := hbit ((w % 17 - 1) % 8) (l8 _)
    have m1 : 1 ≤ w % 17 := by omega
    have m17 : w % 17 < 17 := Nat.mod_lt _ (by decide)
    unfold wgB
    cases hp0 : p ((w / 17 - 1) % 8) with
    | true =>
      have hp1 : (p ((w / 17 - 1) % 8) = false) = False := eq_false (by rw [hp0]; decide)
      rw [if_pos ⟨e1, rfl⟩]
      by_cases t : w / 17 < 9
      · have t' : (8 ≤ w / 17 - 1) = False := eq_false (by omega)
        rw [decide_eq_true t]
        simp (disch := first | assumption | omega) only [f_X0_byWording, kb_X0_byWording_82, kb_X0_byWording_81, kb_X0_byWording_41, kb_X0_byWording_18, kb_X0_byWording_0, KL, KB, KC, KI, KJ, KZ, bI_0, bI_n, nI00, nI10, ne_eq, Classical.not_not, not_true_eq_false, not_false_eq_true, if_true, if_false, ite_not, ite_self, Bool.false_eq_true, nIne1, nIle, q', nI_sub, hd, nI_rem2, sh, nI_and, hb, hp1, t']
        rfl
      · have t' : (8 ≤ w / 17 - 1) = True := eq_true (by omega)
        rw [decide_eq_false t]
        simp (disch := first | assumption | omega) only [f_X0_byWording, kb_X0_byWording_82, kb_X0_byWording_81, kb_X0_byWording_41, kb_X0_byWording_18, kb_X0_byWording_0, KL, KB, KC, KI, KJ, KZ, bI_0, bI_n, nI00, nI10, ne_eq, Classical.not_not, not_true_eq_false, not_false_eq_true, if_true, if_false, ite_not, ite_self, Bool.false_eq_true, nIne1, nIle, q', nI_sub, hd, nI_rem2, sh, nI_and, hb, hp1, t']
        rfl
    | false =>
      have hp1 : (p ((w / 17 - 1) % 8) = false) = True := eq_true hp0
      rw [if_neg (fun x => by cases x.2)]
      cases hq0 : p ((w % 17 - 1) % 8) with
      | false =>
        have hq1 : (p ((w % 17 - 1) % 8) = false) = True := eq_true hq0
        simp (disch := first | assumption | omega) only [f_X0_byWording, kb_X0_byWording_82, kb_X0_byWording_81, kb_X0_byWording_41, kb_X0_byWording_18, kb_X0_byWording_0, KL, KB, KC, KI, KJ, KZ, bI_0, bI_n, nI00, nI10, ne_eq, Classical.not_not, not_true_eq_false, not_false_eq_true, if_true, if_false, ite_not, ite_self, Bool.false_eq_true, nIne1, nIle, q', nI_sub, hd, nI_rem2, sh, nI_and, hb, hp1, nIlt0, hb2, hq1]
        rfl
      | true =>
        have hq1 : (p ((w % 17 - 1) % 8) = false) = False := eq_false (by rw [hq0]; decide)
        by_cases t : w % 17 < 9
        · have t' : (8 ≤ w % 17 - 1) = False := eq_false (by omega)
          rw [decide_eq_true t]
          simp (disch := first | assumption | omega) only [f_X0_byWording, kb_X0_byWording_82, kb_X0_byWording_81, kb_X0_byWording_41, kb_X0_byWording_18, kb_X0_byWording_0, KL, KB, KC, KI, KJ, KZ, bI_0, bI_n, nI00, nI10, ne_eq, Classical.not_not, not_true_eq_false, not_false_eq_true, if_true, if_false, ite_not, ite_self, Bool.false_eq_true, nIne1, nIle, q', nI_sub, hd, nI_rem2, sh, nI_and, hb, hp1, nIlt0, hb2, hq1, t']
          rfl
        · have t' : (8 ≤ w % 17 - 1) = True := eq_true (by omega)
          rw [decide_eq_false t]
          simp (disch := first | assumption | omega) only [f_X0_byWording, kb_X0_byWording_82, kb_X0_byWording_81, kb_X0_byWording_41, kb_X0_byWording_18, kb_X0_byWording_0, KL, KB, KC, KI, KJ, KZ, bI_0, bI_n, nI00, nI10, ne_eq, Classical.not_not, not_true_eq_false, not_false_eq_true, if_true, if_false, ite_not, ite_self, Bool.false_eq_true, nIne1, nIle, q', nI_sub, hd, nI_rem2, sh, nI_and, hb, hp1, nIlt0, hb2, hq1, t']
          rfl
theorem wsN_bits (F : Nat → Int32) : wsN F < 65536 ∧ (∀ i, i < 8 → (wsN F).testBit i = wdB (fvS F (nI 0)) i) ∧ wsN F >>> 8 < 65536 ∧ ∀ i, i < 8 → (wsN F >>> 8).testBit i = wdB (fvS F (nI 1)) i := by
  have h1 := setN_lt (wdB (fvS F (nI 0))) 8
  have h2 := setN_lt (wdB (fvS F (nI 1))) 8
  have hl : wsN F < 2 ^ 16 := by
    unfold wsN
    refine Nat.or_lt_two_pow (by omega) ?_
    rw [Nat.shiftLeft_eq]
    omega
  refine ⟨by omega, fun i hi => ?_, ?_, fun i hi => ?_⟩
  · unfold wsN
    rw [Nat.testBit_or, setN_bit, decide_eq_true hi, Bool.true_and, Nat.testBit_shiftLeft, decide_eq_false (by omega), Bool.false_and, Bool.or_false]
  · have : wsN F >>> 8 ≤ wsN F := by rw [Nat.shiftRight_eq_div_pow]; exact Nat.div_le_self _ _
    omega
  · unfold wsN
    rw [Nat.testBit_shiftRight, Nat.testBit_or, setN_bit, decide_eq_false (by omega), Bool.false_and, Bool.false_or, Nat.testBit_shiftLeft, decide_eq_true (by omega), Bool.true_and, setN_bit, show 8 + i - 8 = i by omega, decide_eq_true hi, Bool.true_and]
theorem c_verdict3 (g : GG) (m o x y w : Nat) (F : Nat → Int32) (hx : x < 12) (hy : y < 12) (hw : okW w) (h : g 166 (x * 12 + y) = nI (wsN F)) : f_X0_verdicts [.ref 164, .int (nI 3), .int (nI w), .int (nI x), .int (nI y)] (hp g m o) = some (some (.int (nI (bN (wgB (wdB (fvS F (nI 0))) w) ||| bN (wgB (wdB (fvS F (nI 1))) w) <<< 1))), hp g m o) := by
  have hix : x * 12 + y < 144 := by omega
  obtain ⟨s1, s2, s3, s4⟩ := wsN_bits F
  have v1 := fun h => c_byWording (wsN F) w _ (by omega) s2 hw h
  have v2 := fun h => c_byWording (wsN F >>> 8) w _ (by omega) s4 hw h
  obtain ⟨w1, w2, w3⟩ := hw
  simp (disch := first | assumption | omega) only [f_X0_verdicts, kb_X0_verdicts_0, KL, KB, KC, KI, KJ, KZ, bI_0, bI_n, nI00, nI10, ne_eq, Classical.not_not, not_true_eq_false, not_false_eq_true, if_true, if_false, ite_not, ite_self, Bool.false_eq_true, nIne1, O_co, AR, nI_mul, nI_add, nI_shr, nd2, nI_and, TW3, h, v1, v2, bW_bN, nI_shl, nI_or]
