-- ===== the class's waitsFor (begun) =====
def firstW (F : Nat → Int32) : ARule → Bool
  | [] => false
  | q :: l => if q.2 = [] ∨ lineV F q.2 = nI 1 then q.1 else firstW F l
theorem firstI_spec (F : Nat → Int32) : ∀ (l : ARule) (i : Nat), (firstI F l i = -1 ∧ firstW F l = false) ∨ ∃ (t : Nat) (z : Bool × List (Nat × Nat)), l[t]? = some z ∧ firstI F l i = nI (i + t) ∧ firstW F l = z.1 := by
  intro l
  induction l with
  | nil => intro i; exact Or.inl ⟨rfl, rfl⟩
  | cons q l ih =>
    intro i
    by_cases h : q.2 = [] ∨ lineV F q.2 = nI 1
    · right
      exact ⟨0, q, rfl, by show (if _ then _ else _) = _; rw [if_pos h]; rfl, by show (if _ then _ else _) = _; rw [if_pos h]⟩
    · have e1 : firstI F (q :: l) i = firstI F l (i + 1) := if_neg h
      have e2 : firstW F (q :: l) = firstW F l := if_neg h
      rw [e1, e2]
      rcases ih (i + 1) with ⟨a, b⟩ | ⟨t, z, a, b, c⟩
      · exact Or.inl ⟨a, b⟩
      · exact Or.inr ⟨t + 1, z, by rw [List.getElem?_cons_succ]; exact a, by rw [b]; congr 1; omega, c⟩
theorem wtN_lt : ∀ rl : ARule, wtN rl < 2 ^ rl.length
  | [] => by decide
  | q :: l => by
    have h := wtN_lt l
    show (if q.1 = true then 1 else 0) + 2 * wtN l < 2 ^ (l.length + 1)
    rw [Nat.pow_succ]
    split <;> omega
theorem wtN_bit : ∀ (rl : ARule) (t : Nat) (z : Bool × List (Nat × Nat)), rl[t]? = some z → (wtN rl).testBit t = z.1
  | [], t, z, h => by simp at h
  | q :: l, 0, z, h => by
    have e : q = z := by simpa using h
    subst e
    show ((if q.1 = true then 1 else 0) + 2 * wtN l).testBit 0 = q.1
    rw [Nat.testBit_zero]
    cases q.1 with
    | true => rw [if_pos rfl, show (1 + 2 * wtN l) % 2 = 1 by omega]; rfl
    | false => rw [if_neg (by decide), show (0 + 2 * wtN l) % 2 = 0 by omega]; rfl
  | q :: l, t + 1, z, h => by
    have e : l[t]? = some z := by simpa using h
    show ((if q.1 = true then 1 else 0) + 2 * wtN l).testBit (t + 1) = z.1
    rw [Nat.testBit_succ, ← wtN_bit l t z e]
    congr 1
    split <;> omega
theorem wtN_app : ∀ (rl : ARule) (b : Bool) (c : List (Nat × Nat)), wtN (rl ++ [(b, c)]) = wtN rl + (if b = true then 2 ^ rl.length else 0)
  | [], b, c => by cases b <;> rfl
  | q :: l, b, c => by
    have h := wtN_app l b c
    show (if q.1 = true then 1 else 0) + 2 * wtN (l ++ [(b, c)]) = (if q.1 = true then 1 else 0) + 2 * wtN l + (if b = true then 2 ^ (l.length + 1) else 0)
    rw [h, Nat.pow_succ]
    cases b with
    | true => rw [if_pos rfl, if_pos rfl]; omega
    | false =>
      have e1 : (if false = true then 2 ^ l.length else 0) = 0 := rfl
      have e2 : (if false = true then 2 ^ l.length * 2 else 0) = 0 := rfl
      rw [e1, e2]; omega
theorem wtN_or (rl : ARule) (b : Bool) (c : List (Nat × Nat)) : wtN rl ||| (if b = true then 1 <<< rl.length else 0) = wtN (rl ++ [(b, c)]) := by
  rw [wtN_app]
  cases b with
  | true =>
    rw [if_pos rfl, if_pos rfl, Nat.one_shiftLeft, Nat.or_comm]
    have h := Nat.two_pow_add_eq_or_of_lt (wtN_lt rl) 1
    rw [Nat.mul_one] at h
    rw [← h, Nat.add_comm]
  | false => rw [if_neg (by decide), if_neg (by decide), Nat.or_zero, Nat.add_zero]
theorem c_isWait (g : GG) (m o X : Nat) (rl : ARule) (F : Nat → Int32) (hX : isR X) (hC : ruleC g X rl) (hw : wfR rl) : f_X7_isWait [.ref X, .int (firstI F rl 0)] (hp g m o) = some (some (.int (if firstW F rl = true then nI 1 else nI 0)), hp g m o) := by
  obtain ⟨s0, s1, s2, sR⟩ := id hX
  have gi0 : ∀ (k : KK) (ls st : List Value) (j : Nat), kGetI 7 5 j k ls (.ref X :: st) (hp g m o) = k ls (.int (g X j) :: st) (hp g m o) := fun k ls st j => gi_at s0 k ls st
  obtain ⟨c0, c1, c2, c3, c4⟩ := hC
  obtain ⟨w1, w2, w3⟩ := hw
  rcases firstI_spec F rl 0 with ⟨a, b⟩ | ⟨t, z, a, b, c⟩
  · have h1 : ((-1 : Int32) < 0) = True := eq_true (by decide)
    rw [a, b]
    simp (disch := first | assumption | omega) only [f_X7_isWait, kb_X7_isWait_28, kb_X7_isWait_27, kb_X7_isWait_0, KL, KB, KC, KI, KJ, KZ, bI_0, bI_n, nI00, nI10, ne_eq, Classical.not_not, not_true_eq_false, not_false_eq_true, if_true, if_false, ite_not, ite_self, Bool.false_eq_true, nIne1, h1]
  · have ht := (List.getElem?_eq_some_iff.mp a).1
    have hz := wtN_bit rl t z a
    have hlt := wtN_lt rl
    have hpw : 2 ^ rl.length ≤ 2 ^ 16 := Nat.pow_le_pow_right (by omega) w1
    rw [b, c, Nat.zero_add]
    have q1 : (nI t < 0) = False := nIlt0 (by omega)
    have q2 : (nI rl.length ≤ nI t) = False := by rw [nIle (by omega) (by omega)]; exact eq_false (by omega)
    have q3 : (nI (wtN rl) >>> (nI t &&& 31) &&& nI 1 = 0) = (z.1 = false) := by
      rw [nI_shr _ _ (by omega) (by omega), nI_and, bit0, Nat.testBit_shiftRight, Nat.add_zero, hz]
    cases hz1 : z.1 with
    | true =>
      have q4 : (nI (wtN rl) >>> (nI t &&& 31) &&& nI 1 = 0) = False := by rw [q3, hz1]; exact eq_false (by decide)
      simp (disch := first | assumption | omega) only [f_X7_isWait, kb_X7_isWait_28, kb_X7_isWait_27, kb_X7_isWait_0, KL, KB, KC, KI, KJ, KZ, bI_0, bI_n, nI00, nI10, ne_eq, Classical.not_not, not_true_eq_false, not_false_eq_true, if_true, if_false, ite_not, ite_self, Bool.false_eq_true, nIne1, q1, gi0, c0, q2, c2, q4]
    | false =>
      have q4 : (nI (wtN rl) >>> (nI t &&& 31) &&& nI 1 = 0) = True := by rw [q3, hz1]; exact eq_true rfl
      simp (disch := first | assumption | omega) only [f_X7_isWait, kb_X7_isWait_28, kb_X7_isWait_27, kb_X7_isWait_0, KL, KB, KC, KI, KJ, KZ, bI_0, bI_n, nI00, nI10, ne_eq, Classical.not_not, not_true_eq_false, not_false_eq_true, if_true, if_false, ite_not, ite_self, Bool.false_eq_true, nIne1, q1, gi0, c0, q2, c2, q4]
def firstB (mean rx ry sx sy : Nat) : Bool := match mean with
  | 0 => decide (ry < rx)
  | 1 => decide (sx < sy)
  | 2 => false
  | _ => decide (ry ≤ rx)
theorem TW0 (k0 k1 k2 kd : KK) (ls st : List Value) (h : HP) : kSw 1 [k0, k1, k2] kd ls (.int (nI 0) :: st) h = kd ls st h := rfl
theorem TW1 (k0 k1 k2 kd : KK) (ls st : List Value) (h : HP) : kSw 1 [k0, k1, k2] kd ls (.int (nI 1) :: st) h = k0 ls st h := rfl
theorem TW2 (k0 k1 k2 kd : KK) (ls st : List Value) (h : HP) : kSw 1 [k0, k1, k2] kd ls (.int (nI 2) :: st) h = k1 ls st h := rfl
theorem TW3 (k0 k1 k2 kd : KK) (ls st : List Value) (h : HP) : kSw 1 [k0, k1, k2] kd ls (.int (nI 3) :: st) h = k2 ls st h := rfl
theorem c_isFirst (g : GG) (m o X x y rx ry sx sy mean : Nat) (hX : isX X) (hx : x < 6) (hy : y < 6) (hm : mean < 4) (b1 : rx ≤ 99) (b2 : ry ≤ 99) (b3 : sx < 1000000) (b4 : sy < 1000000) (e1 : g (X + 2) (18 + x) = nI rx) (e2 : g (X + 2) (18 + y) = nI ry) (e3 : g (X + 2) (30 + x) = nI sx) (e4 : g (X + 2) (30 + y) = nI sy) : f_X8_isFirst [.ref X, .int (nI x), .int (nI y), .int (nI mean)] (hp g m o) = some (some (.int (if firstB mean rx ry sx sy = true then nI 1 else nI 0)), hp g m o) := by
  have hm' : mean = 0 ∨ mean = 1 ∨ mean = 2 ∨ mean = 3 := by omega
  rcases hm' with rfl | rfl | rfl | rfl
  · simp (disch := first | assumption | omega) only [f_X8_isFirst, kb_X8_isFirst_102, kb_X8_isFirst_74, kb_X8_isFirst_89, kb_X8_isFirst_0, KL, KB, KC, KI, KJ, KZ, bI_0, bI_n, nI00, nI10, ne_eq, Classical.not_not, not_true_eq_false, not_false_eq_true, if_true, if_false, ite_not, ite_self, Bool.false_eq_true, nIne1, XO, nI_add, e1, e2, TW0, nIle, firstB, decide_eq_true_eq]
    by_cases h : ry < rx
    · rw [if_neg (by omega), if_pos h]
    · rw [if_pos (by omega), if_neg h]
  · simp (disch := first | assumption | omega) only [f_X8_isFirst, kb_X8_isFirst_102, kb_X8_isFirst_74, kb_X8_isFirst_89, kb_X8_isFirst_0, KL, KB, KC, KI, KJ, KZ, bI_0, bI_n, nI00, nI10, ne_eq, Classical.not_not, not_true_eq_false, not_false_eq_true, if_true, if_false, ite_not, ite_self, Bool.false_eq_true, nIne1, XO, nI_add, e1, e2, e3, e4, TW1, nIle, firstB, decide_eq_true_eq]
    by_cases h : sx < sy
    · rw [if_neg (by omega), if_pos h]
    · rw [if_pos (by omega), if_neg h]
  · simp (disch := first | assumption | omega) only [f_X8_isFirst, kb_X8_isFirst_102, kb_X8_isFirst_74, kb_X8_isFirst_89, kb_X8_isFirst_0, KL, KB, KC, KI, KJ, KZ, bI_0, bI_n, nI00, nI10, ne_eq, Classical.not_not, not_true_eq_false, not_false_eq_true, if_true, if_false, ite_not, ite_self, Bool.false_eq_true, nIne1, XO, nI_add, e1, e2, TW2, firstB]
  · simp (disch := first | assumption | omega) only [f_X8_isFirst, kb_X8_isFirst_102, kb_X8_isFirst_74, kb_X8_isFirst_89, kb_X8_isFirst_0, KL, KB, KC, KI, KJ, KZ, bI_0, bI_n, nI00, nI10, ne_eq, Classical.not_not, not_true_eq_false, not_false_eq_true, if_true, if_false, ite_not, ite_self, Bool.false_eq_true, nIne1, XO, nI_add, e1, e2, TW3, nIlt, firstB, decide_eq_true_eq]
    by_cases h : ry ≤ rx
    · rw [if_neg (by omega), if_pos h]
    · rw [if_pos (by omega), if_neg h]
