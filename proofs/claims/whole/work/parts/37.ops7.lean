-- ===== count, look =====
def sumF (F : Nat → Int32) : Int32 → Nat → Nat → Int32
  | acc, _, 0 => acc
  | acc, i, k + 1 => sumF F (acc + F i) (i + 1) k
theorem sumF_congr {F G : Nat → Int32} : ∀ (k : Nat) (acc : Int32) (i : Nat), (∀ t, t < k → F (i + t) = G (i + t)) → sumF F acc i k = sumF G acc i k := by
  intro k
  induction k with
  | zero => intro acc i _; rfl
  | succ k ih =>
    intro acc i h
    show sumF F (acc + F i) (i + 1) k = sumF G (acc + G i) (i + 1) k
    have h0 := h 0 (by omega)
    rw [Nat.add_zero] at h0
    rw [h0]
    exact ih _ _ (fun t ht => by have := h (t + 1) (by omega); rwa [show i + 1 + t = i + (t + 1) by omega])
theorem sumF_split {F : Nat → Int32} : ∀ (a b : Nat) (acc : Int32) (i : Nat), sumF F acc i (a + b) = sumF F (sumF F acc i a) (i + a) b := by
  intro a
  induction a with
  | zero => intro b acc i; rw [Nat.zero_add]; rfl
  | succ a ih =>
    intro b acc i
    rw [show a + 1 + b = (a + b) + 1 by omega]
    show sumF F (acc + F i) (i + 1) (a + b) = sumF F (sumF F (acc + F i) (i + 1) a) (i + (a + 1)) b
    rw [ih, show i + 1 + a = i + (a + 1) by omega]
theorem sumF_zero {F : Nat → Int32} : ∀ (k : Nat) (acc : Int32) (i : Nat), (∀ t, t < k → F (i + t) = 0) → sumF F acc i k = acc := by
  intro k
  induction k with
  | zero => intro acc i _; rfl
  | succ k ih =>
    intro acc i h
    show sumF F (acc + F i) (i + 1) k = acc
    have h0 := h 0 (by omega)
    rw [Nat.add_zero] at h0
    rw [h0, Int32.add_zero]
    exact ih _ _ (fun t ht => by have := h (t + 1) (by omega); rwa [show i + 1 + t = i + (t + 1) by omega])
theorem count_c (g : GG) (m o X n : Nat) (hX : isX X) (en : g X 0 = nI n) (n6 : n ≤ 6) (a b c : Value) (acc : Int32) : kl_X10_count_38 [a, b, c, .ref X, .int acc, .int (nI 0)] [] (hp g m o) = some (some (.int (sumF (g (X + 7)) acc 0 n)), hp g m o) := by
  unfold kl_X10_count_38
  refine kFix_rule (fun k ls st h => ∃ (i : Nat) (acc' : Int32) (a b c : Value), i + k = n ∧ ls = [a, b, c, .ref X, .int acc', .int (nI i)] ∧ st = [] ∧ h = hp g m o ∧ sumF (g (X + 7)) acc' i k = sumF (g (X + 7)) acc 0 n) (fun r => r = some (some (.int (sumF (g (X + 7)) acc 0 n)), hp g m o)) ?_ FU n (by show n < 10000; omega) _ _ _ ⟨0, acc, a, b, c, by omega, rfl, rfl, rfl, rfl⟩
  rintro s k ih ls st h ⟨i, acc', a, b, c, hk, rfl, rfl, rfl, hs⟩
  cases k with
  | zero =>
    have hin : (n ≤ i) = True := eq_true (by omega)
    simp (disch := first | assumption | omega) only [KL, KB, KC, KI, KJ, KZ, bI_0, bI_n, nI00, nI10, ne_eq, Classical.not_not, not_true_eq_false, not_false_eq_true, if_true, if_false, ite_not, ite_self, Bool.false_eq_true, nIne1, kMask, mask, XO, en, nIle, hin]
    show some (some (Value.int acc'), hp g m o) = _
    rw [← hs]; rfl
  | succ k =>
    have hin : (n ≤ i) = False := eq_false (by omega)
    simp (disch := first | assumption | omega) only [KL, KB, KC, KI, KJ, KZ, bI_0, bI_n, nI00, nI10, ne_eq, Classical.not_not, not_true_eq_false, not_false_eq_true, if_true, if_false, ite_not, ite_self, Bool.false_eq_true, nIne1, kMask, mask, XO, en, nIle, hin, nI_add, Nat.zero_add]
    exact ih k (by omega) _ _ _ ⟨i + 1, acc' + g (X + 7) i, _, _, _, by omega, rfl, rfl, rfl, hs⟩
theorem count_m (g : GG) (m o c : Nat) (hc : c < 6) (b : Value) (acc : Int32) : kl_X11_count_39 [.ref 188, .int (nI c), b, .int acc, .int (nI 0)] [] (hp g m o) = some (some (.int (sumF (fun r => g 189 (10 + 560 * c + 92 * r + 86)) acc 0 6)), hp g m o) := by
  unfold kl_X11_count_39
  refine kFix_rule (fun k ls st h => ∃ (i : Nat) (acc' : Int32) (b : Value), i + k = 6 ∧ ls = [.ref 188, .int (nI c), b, .int acc', .int (nI i)] ∧ st = [] ∧ h = hp g m o ∧ sumF (fun r => g 189 (10 + 560 * c + 92 * r + 86)) acc' i k = sumF (fun r => g 189 (10 + 560 * c + 92 * r + 86)) acc 0 6) (fun r => r = some (some (.int (sumF (fun r => g 189 (10 + 560 * c + 92 * r + 86)) acc 0 6)), hp g m o)) ?_ FU 6 (by decide) _ _ _ ⟨0, acc, b, by omega, rfl, rfl, rfl, rfl⟩
  rintro s k ih ls st h ⟨i, acc', b, hk, rfl, rfl, rfl, hs⟩
  cases k with
  | zero =>
    have hin : (6 ≤ i) = True := eq_true (by omega)
    simp (disch := first | assumption | omega) only [KL, KB, KC, KI, KJ, KZ, bI_0, bI_n, nI00, nI10, ne_eq, Classical.not_not, not_true_eq_false, not_false_eq_true, if_true, if_false, ite_not, ite_self, Bool.false_eq_true, nIne1, kMask, mask, nIle, hin]
    show some (some (Value.int acc'), hp g m o) = _
    rw [← hs]; rfl
  | succ k =>
    have hin : (6 ≤ i) = False := eq_false (by omega)
    simp (disch := first | assumption | omega) only [KL, KB, KC, KI, KJ, KZ, bI_0, bI_n, nI00, nI10, ne_eq, Classical.not_not, not_true_eq_false, not_false_eq_true, if_true, if_false, ite_not, ite_self, Bool.false_eq_true, nIne1, kMask, mask, O_mo, m_get, nIle, hin, nI_add]
    exact ih k (by omega) _ _ _ ⟨i + 1, acc' + g 189 (10 + 560 * c + 92 * i + 86), _, by omega, rfl, rfl, rfl, hs⟩
theorem ag_count (a0 a1 : Int32) : Ag RT f_X10_count f_X11_count [.int a0, .int a1] := by
  intro j g m o hj hR
  rcases in_cases a0 5 (by decide) with ⟨c, hc, rfl⟩ | h0
  · have hc6 : c < 6 := by omega
    have hX := isX_live c hc6
    have hyc : (nI 0 ≤ nI c ∧ nI c ≤ nI 5) = True := eq_true (in_yes hc (by omega))
    obtain ⟨n, hx⟩ := hR.at hc6
    obtain ⟨n3, n6, en, em, fFa, fCa, fCo, fRo, fCt, fTo, fLi⟩ := id hx
    rcases in_cases a1 3 (by decide) with ⟨t, ht, rfl⟩ | h1
    · have hyt : (nI 0 ≤ nI t ∧ nI t ≤ nI 3) = True := eq_true (in_yes ht (by omega))
      by_cases ht3 : t = 3
      · subst ht3
        have hle : (nI 3 ≤ nI 3) = True := eq_true (by decide)
        have hle0 : (nI 0 ≤ nI 3) = True := eq_true (by decide)
        have hsum : sumF (g (17 + 10 * c + 7)) (nI 0) 0 n = sumF (fun r => g 189 (10 + 560 * c + 92 * r + 86)) (nI 0) 0 6 := by
          rw [show (6 : Nat) = n + (6 - n) by omega, sumF_split]
          have e1 : sumF (fun r => g 189 (10 + 560 * c + 92 * r + 86)) (nI 0) 0 n = sumF (g (17 + 10 * c + 7)) (nI 0) 0 n := sumF_congr n _ _ (fun r hr => by
            obtain ⟨v, -, -, p1, p2⟩ := fCt 0 (by omega) (0 + r) (by omega)
            rw [Nat.mul_zero, Nat.zero_add (0 + r)] at p1
            rw [Nat.add_zero] at p2
            show g 189 _ = _
            rw [p1, p2])
          rw [e1]
          exact (sumF_zero _ _ _ (fun r hr => by
            obtain ⟨v, -, p0, p1, p2⟩ := fCt 0 (by omega) (0 + n + r) (by omega)
            rw [Nat.add_zero, p0 (by omega)] at p2
            exact p2)).symm
        refine ⟨sumF (g (17 + 10 * c + 7)) (nI 0) 0 n, g, m, o, g, ?_, ?_, RT_mono _ _ _ _ hR⟩
        · simp (disch := first | assumption | omega) only [f_X10_count, kb_X10_count_18, kb_X10_count_0, KL, KB, KC, KI, KJ, KZ, bI_0, bI_n, nI00, nI10, ne_eq, Classical.not_not, not_true_eq_false, not_false_eq_true, if_true, if_false, ite_not, ite_self, Bool.false_eq_true, nIne1, O_fp, XO, c_at g m o c hc6, c_within, hyt, nIeq, count_c g m o _ n hX en n6]
        · simp (disch := first | assumption | omega) only [f_X11_count, kb_X11_count_16, kb_X11_count_0, KL, KB, KC, KI, KJ, KZ, bI_0, bI_n, nI00, nI10, ne_eq, Classical.not_not, not_true_eq_false, not_false_eq_true, if_true, if_false, ite_not, ite_self, Bool.false_eq_true, nIne1, O_mo, m_isCrossing, m_isIn, hyc, hle0, hle, and_true, count_m, hsum]
      · have hle : (nI 3 ≤ nI t) = False := by rw [nIle (by omega) (by omega)]; exact eq_false (by omega)
        obtain ⟨v, -, p1, p2⟩ := fTo t (by omega)
        rw [Nat.add_assoc] at p2
        refine ⟨nI v, g, m, o, g, ?_, ?_, RT_mono _ _ _ _ hR⟩
        · simp (disch := first | assumption | omega) only [f_X10_count, kb_X10_count_18, kb_X10_count_0, KL, KB, KC, KI, KJ, KZ, bI_0, bI_n, nI00, nI10, ne_eq, Classical.not_not, not_true_eq_false, not_false_eq_true, if_true, if_false, ite_not, ite_self, Bool.false_eq_true, nIne1, O_fp, XO, c_at g m o c hc6, c_within, hyt, nIeq, ht3, p1]
        · simp (disch := first | assumption | omega) only [f_X11_count, kb_X11_count_16, kb_X11_count_0, KL, KB, KC, KI, KJ, KZ, bI_0, bI_n, nI00, nI10, ne_eq, Classical.not_not, not_true_eq_false, not_false_eq_true, if_true, if_false, ite_not, ite_self, Bool.false_eq_true, nIne1, O_mo, m_isCrossing, m_isIn, hyc, hyt, hle, nI_add, m_own, p2]
    · refine ⟨-1, g, m, o, g, ?_, ?_, RT_mono _ _ _ _ hR⟩
      · simp (disch := first | assumption | omega) only [f_X10_count, kb_X10_count_18, kb_X10_count_0, KL, KB, KC, KI, KJ, KZ, bI_0, bI_n, nI00, nI10, ne_eq, Classical.not_not, not_true_eq_false, not_false_eq_true, if_true, if_false, ite_not, ite_self, Bool.false_eq_true, nIne1, O_fp, XO, c_at g m o c hc6, c_within, h1]
      · simp (disch := first | assumption | omega) only [f_X11_count, kb_X11_count_16, kb_X11_count_0, KL, KB, KC, KI, KJ, KZ, bI_0, bI_n, nI00, nI10, ne_eq, Classical.not_not, not_true_eq_false, not_false_eq_true, if_true, if_false, ite_not, ite_self, Bool.false_eq_true, nIne1, O_mo, m_isCrossing, m_isIn, hyc, h1]
  · refine ⟨-1, g, m, o, g, ?_, ?_, RT_mono _ _ _ _ hR⟩
    · simp (disch := first | assumption | omega) only [f_X10_count, kb_X10_count_18, kb_X10_count_0, KL, KB, KC, KI, KJ, KZ, bI_0, bI_n, nI00, nI10, ne_eq, Classical.not_not, not_true_eq_false, not_false_eq_true, if_true, if_false, ite_not, ite_self, Bool.false_eq_true, nIne1, O_fp, c_atN g m o a0 h0]
    · simp (disch := first | assumption | omega) only [f_X11_count, kb_X11_count_16, kb_X11_count_0, KL, KB, KC, KI, KJ, KZ, bI_0, bI_n, nI00, nI10, ne_eq, Classical.not_not, not_true_eq_false, not_false_eq_true, if_true, if_false, ite_not, ite_self, Bool.false_eq_true, nIne1, O_mo, m_isCrossing, h0]
theorem SH_rule : ∀ k, k < 4 → SH (5 + 3 * k) = (40 + 7, 5) := by
  intro k hk
  have : k = 0 ∨ k = 1 ∨ k = 2 ∨ k = 3 := by omega
  rcases this with rfl | rfl | rfl | rfl <;> rfl
theorem lines_c (g : GG) (m o : Nat) (a : Value) (acc : Int32) : kl_X9_linesInAll_13 [a, .int acc, .ref 3, .int (nI 4), .int (nI 0)] [] (hp g m o) = some (some (.int (sumF (fun k => g (5 + 3 * k) 0) acc 0 4)), hp g m o) := by
  have key : ∀ ls, (∃ (a : Value) (t : List Value), ls = [a, .int acc, .ref 3, .int (nI 4), .int (nI 0)] ++ t) → kl_X9_linesInAll_13 ls [] (hp g m o) = some (some (.int (sumF (fun k => g (5 + 3 * k) 0) acc 0 4)), hp g m o) := by
    rintro ls ⟨a, t, rfl⟩
    unfold kl_X9_linesInAll_13
    refine kFix_rule (fun k ls st h => ∃ (i : Nat) (acc' : Int32) (a : Value) (t : List Value), i + k = 4 ∧ ls = [a, .int acc', .ref 3, .int (nI 4), .int (nI i)] ++ t ∧ st = [] ∧ h = hp g m o ∧ sumF (fun k => g (5 + 3 * k) 0) acc' i k = sumF (fun k => g (5 + 3 * k) 0) acc 0 4) (fun r => r = some (some (.int (sumF (fun k => g (5 + 3 * k) 0) acc 0 4)), hp g m o)) ?_ FU 4 (by decide) _ _ _ ⟨0, acc, a, t, by omega, rfl, rfl, rfl, rfl⟩
    rintro s k ih ls st h ⟨i, acc', a, t, hk, rfl, rfl, rfl, hs⟩
    cases k with
    | zero =>
      have hin : (4 ≤ i) = True := eq_true (by omega)
      simp (disch := first | assumption | omega) only [KL, KB, KC, KI, KJ, KZ, bI_0, bI_n, nI00, nI10, ne_eq, Classical.not_not, not_true_eq_false, not_false_eq_true, if_true, if_false, ite_not, ite_self, Bool.false_eq_true, nIne1, List.cons_append, List.nil_append, kMask, mask, nIle, hin]
      show some (some (Value.int acc'), hp g m o) = _
      rw [← hs]; rfl
    | succ k =>
      have hin : (4 ≤ i) = False := eq_false (by omega)
      have hG : ∀ (k : KK) (ls st : List Value), kGetI 7 5 0 k ls (.ref (5 + 3 * i) :: st) (hp g m o) = k ls (.int (g (5 + 3 * i) 0) :: st) (hp g m o) := fun k ls st => gi_at (SH_rule i (by omega)) k ls st
      simp (disch := first | assumption | omega) only [KL, KB, KC, KI, KJ, KZ, bI_0, bI_n, nI00, nI10, ne_eq, Classical.not_not, not_true_eq_false, not_false_eq_true, if_true, if_false, ite_not, ite_self, Bool.false_eq_true, nIne1, List.cons_append, List.nil_append, kMask, mask, nIle, hin, nI_add, aalR, hG]
      exact ih k (by omega) _ _ _ ⟨i + 1, acc' + g (5 + 3 * i) 0, _, _, by omega, rfl, rfl, rfl, hs⟩
  exact key _ ⟨a, [], rfl⟩
