-- ===== sets of roads as numbers; loops that count up =====
theorem nI_and (a b : Nat) : nI a &&& nI b = nI (a &&& b) := by
  apply bv_eq
  show BitVec.ofNat 32 a &&& BitVec.ofNat 32 b = BitVec.ofNat 32 (a &&& b)
  exact (BitVec.ofNat_and ..).symm
theorem nI_or (a b : Nat) : nI a ||| nI b = nI (a ||| b) := by
  apply bv_eq
  show BitVec.ofNat 32 a ||| BitVec.ofNat 32 b = BitVec.ofNat 32 (a ||| b)
  exact (BitVec.ofNat_or ..).symm
theorem nI_andn (a b : Nat) : nI a &&& (nI b ^^^ -1) = nI (a ^^^ (a &&& b)) := by
  apply bv_eq
  show BitVec.ofNat 32 a &&& (BitVec.ofNat 32 b ^^^ (-1#32)) = BitVec.ofNat 32 (a ^^^ (a &&& b))
  apply BitVec.eq_of_getLsbD_eq
  intro i hi
  have h1 : (-1#32 : BitVec 32).getLsbD i = true := by
    rw [show (-1#32 : BitVec 32) = BitVec.allOnes 32 from rfl, BitVec.getLsbD_allOnes]
    exact decide_eq_true hi
  simp only [BitVec.getLsbD_and, BitVec.getLsbD_xor, BitVec.getLsbD_ofNat, hi, decide_true, Bool.true_and, h1, Nat.testBit_xor, Nat.testBit_and]
  cases a.testBit i <;> cases b.testBit i <;> rfl
theorem shc (i : Nat) (hi : i < 32) : ((nI i &&& 31 : Int32)).toBitVec = BitVec.ofNat 32 i := by
  show BitVec.ofNat 32 i &&& 31#32 = BitVec.ofNat 32 i
  apply BitVec.eq_of_toNat_eq
  rw [BitVec.toNat_and, BitVec.toNat_ofNat, BitVec.toNat_ofNat]
  show i % 4294967296 &&& (2 ^ 5 - 1) = i % 4294967296
  rw [Nat.and_two_pow_sub_one_eq_mod]
  omega
theorem nI_shl (a i : Nat) (hi : i < 32) : nI a <<< (nI i &&& 31) = nI (a <<< i) := by
  apply bv_eq
  rw [Int32.toBitVec_shiftLeft, shc i hi]
  show BitVec.ofNat 32 a <<< ((BitVec.ofNat 32 i).smod 32#32) = BitVec.ofNat 32 (a <<< i)
  have hm : ((BitVec.ofNat 32 i).smod 32#32) = BitVec.ofNat 32 i := by
    have : ∀ i : Fin 32, (BitVec.ofNat 32 i.val).smod 32#32 = BitVec.ofNat 32 i.val := by decide +kernel
    exact this ⟨i, hi⟩
  rw [hm, BitVec.shiftLeft_eq', BitVec.toNat_ofNat]
  rw [Nat.mod_eq_of_lt (by omega)]
  apply BitVec.eq_of_toNat_eq
  simp [BitVec.toNat_shiftLeft, Nat.shiftLeft_eq]
theorem nI_shr (a i : Nat) (ha : a < 2147483648) (hi : i < 32) : nI a >>> (nI i &&& 31) = nI (a >>> i) := by
  apply bv_eq
  rw [Int32.toBitVec_shiftRight, shc i hi]
  have hm : ((BitVec.ofNat 32 i).smod 32#32) = BitVec.ofNat 32 i := by
    have : ∀ i : Fin 32, (BitVec.ofNat 32 i.val).smod 32#32 = BitVec.ofNat 32 i.val := by decide +kernel
    exact this ⟨i, hi⟩
  show (BitVec.ofNat 32 a).sshiftRight' ((BitVec.ofNat 32 i).smod 32#32) = BitVec.ofNat 32 (a >>> i)
  rw [hm]
  show (BitVec.ofNat 32 a).sshiftRight (BitVec.ofNat 32 i).toNat = BitVec.ofNat 32 (a >>> i)
  rw [BitVec.toNat_ofNat, Nat.mod_eq_of_lt (by omega)]
  rw [BitVec.sshiftRight_eq_of_msb_false (by rw [BitVec.msb_eq_decide, BitVec.toNat_ofNat]; exact decide_eq_false (by omega))]
  apply BitVec.eq_of_toNat_eq
  rw [BitVec.toNat_ushiftRight, BitVec.toNat_ofNat, BitVec.toNat_ofNat]
  have h1 : a >>> i ≤ a := by rw [Nat.shiftRight_eq_div_pow]; exact Nat.div_le_self _ _
  rw [Nat.mod_eq_of_lt (by omega), Nat.mod_eq_of_lt (by omega)]
theorem and1 (a : Nat) : a &&& 1 = if a.testBit 0 then 1 else 0 := by
  rw [Nat.and_one_is_mod, Nat.testBit_zero]
  by_cases h : a % 2 = 1
  · rw [h]; rfl
  · rw [show a % 2 = 0 by omega]; rfl
theorem bit0 (a : Nat) : (nI (a &&& 1) = 0) = (a.testBit 0 = false) := by
  rw [and1]
  cases a.testBit 0 <;> simp [nI]
theorem bit1 (a : Nat) : (nI (a &&& 1) = nI 1) = (a.testBit 0 = true) := by
  rw [and1]
  cases a.testBit 0 <;> simp [nI]
/-- a truth as an int -/
def bW (b : Bool) : Int32 := if b = true then nI 1 else nI 0
theorem bW_0 (b : Bool) : (bW b = 0) = (b = false) := by cases b <;> simp [bW, nI]
theorem bW_1 (b : Bool) : (bW b = nI 1) = (b = true) := by cases b <;> simp [bW, nI]
theorem bW_t : bW true = nI 1 := rfl
theorem bW_f : bW false = nI 0 := rfl
theorem bW_or (b : Bool) : bW b = nI 0 ∨ bW b = nI 1 := by cases b <;> simp [bW]
/-- the set of those below n for which p -/
def setN (p : Nat → Bool) : Nat → Nat
  | 0 => 0
  | k + 1 => setN p k ||| (if p k = true then 1 <<< k else 0)
theorem setN_bit (p : Nat → Bool) : ∀ n i, (setN p n).testBit i = (decide (i < n) && p i) := by
  intro n
  induction n with
  | zero => intro i; simp [setN]
  | succ k ih =>
    intro i
    show (setN p k ||| (if p k = true then 1 <<< k else 0)).testBit i = _
    rw [Nat.testBit_or, ih]
    by_cases h : p k = true
    · rw [if_pos h, Nat.one_shiftLeft, Nat.testBit_two_pow]
      by_cases q : i = k
      · subst q; simp [h]
      · rw [decide_eq_false (by omega : ¬ k = i)]
        by_cases r : i < k
        · rw [decide_eq_true r, decide_eq_true (by omega : i < k + 1)]; simp
        · rw [decide_eq_false r, decide_eq_false (by omega : ¬ i < k + 1)]; simp
    · rw [if_neg h, Nat.zero_testBit, Bool.or_false]
      by_cases q : i = k
      · subst q; simp [h]
      · by_cases r : i < k
        · rw [decide_eq_true r, decide_eq_true (by omega : i < k + 1)]
        · rw [decide_eq_false r, decide_eq_false (by omega : ¬ i < k + 1)]
theorem setN_lt (p : Nat → Bool) (n : Nat) : setN p n < 2 ^ n := by
  apply Nat.lt_pow_two_of_testBit
  intro i hi
  rw [setN_bit, decide_eq_false (by omega), Bool.false_and]
theorem setN_lt64 (p : Nat → Bool) {n : Nat} (h : n ≤ 6) : setN p n < 64 :=
  Nat.lt_of_lt_of_le (setN_lt p n) (Nat.pow_le_pow_right (by omega) h)
theorem setN_congr {p q : Nat → Bool} {n : Nat} (h : ∀ i, i < n → p i = q i) : setN p n = setN q n := by
  apply Nat.eq_of_testBit_eq
  intro i
  rw [setN_bit, setN_bit]
  by_cases hi : i < n
  · rw [h i hi]
  · rw [decide_eq_false hi, Bool.false_and, Bool.false_and]
theorem setN_self {s n : Nat} (h : s < 2 ^ n) : setN (fun i => s.testBit i) n = s := by
  apply Nat.eq_of_testBit_eq
  intro i
  rw [setN_bit]
  by_cases hi : i < n
  · rw [decide_eq_true hi, Bool.true_and]
  · rw [decide_eq_false hi, Bool.false_and, Nat.testBit_lt_two_pow (Nat.lt_of_lt_of_le h (Nat.pow_le_pow_right (by omega) (by omega)))]
/-- the first of k from i on for which p, else none -/
def firstJ (p : Nat → Bool) : Nat → Nat → Int32
  | 0, _ => -1
  | k + 1, i => if p i = true then nI i else firstJ p k (i + 1)
theorem firstJ_cases (p : Nat → Bool) : ∀ k i, (firstJ p k i = -1 ∧ ∀ t, i ≤ t → t < i + k → p t = false) ∨ ∃ t, i ≤ t ∧ t < i + k ∧ p t = true ∧ firstJ p k i = nI t ∧ ∀ u, i ≤ u → u < t → p u = false := by
  intro k
  induction k with
  | zero => intro i; exact Or.inl ⟨rfl, fun t h1 h2 => by omega⟩
  | succ k ih =>
    intro i
    by_cases h : p i = true
    · exact Or.inr ⟨i, by omega, by omega, h, if_pos h, fun u h1 h2 => by omega⟩
    · have e : firstJ p (k + 1) i = firstJ p k (i + 1) := if_neg h
      rw [e]
      rcases ih (i + 1) with ⟨a, b⟩ | ⟨t, a, b, c, d, f⟩
      · refine Or.inl ⟨a, fun t h1 h2 => ?_⟩
        by_cases q : t = i
        · subst q; exact Bool.eq_false_iff.mpr h
        · exact b t (by omega) (by omega)
      · refine Or.inr ⟨t, by omega, by omega, c, d, fun u h1 h2 => ?_⟩
        by_cases q : u = i
        · subst q; exact Bool.eq_false_iff.mpr h
        · exact f u (by omega) (by omega)
theorem firstJ_congr {p q : Nat → Bool} : ∀ k i, (∀ t, i ≤ t → t < i + k → p t = q t) → firstJ p k i = firstJ q k i := by
  intro k
  induction k with
  | zero => intro i _; rfl
  | succ k ih =>
    intro i h
    show (if p i = true then nI i else firstJ p k (i + 1)) = (if q i = true then nI i else firstJ q k (i + 1))
    rw [h i (by omega) (by omega), ih (i + 1) (fun t h1 h2 => h t (by omega) (by omega))]
theorem firstJ_none {p : Nat → Bool} {n : Nat} (hn : n < 2147483648) : firstJ p n 0 = -1 ↔ ∀ t, t < n → p t = false := by
  rcases firstJ_cases p n 0 with ⟨a, b⟩ | ⟨t, a, b, c, d, f⟩
  · exact ⟨fun _ t h => b t (by omega) (by omega), fun _ => a⟩
  · constructor
    · intro h
      rw [d] at h
      exact ((nIne1 (by omega)).mp h).elim
    · intro h
      rw [h t (by omega)] at c
      cases c
/-- a loop that counts up -/
theorem kFor {b : KK → KK} (n : Nat) (hn : n < FU) (I : Nat → List Value → HP → Prop) (Q : RS → Prop) (fin : ∀ s ls h, I n ls h → Q (b s ls [] h)) (step : ∀ s i, i < n → (∀ ls h, I (i + 1) ls h → Q (s ls [] h)) → ∀ ls h, I i ls h → Q (b s ls [] h)) : ∀ i ls h, i ≤ n → I i ls h → Q (kFix b FU ls [] h) := by
  intro i ls h hi hI
  refine kFix_rule (b := b) (fun k ls st h => st = [] ∧ ∃ i, i + k = n ∧ I i ls h) Q ?_ FU (n - i) (by omega) ls [] h ⟨rfl, i, by omega, hI⟩
  rintro s k ih ls st h ⟨rfl, j, hj, hI⟩
  cases k with
  | zero =>
    have : j = n := by omega
    subst this
    exact fin s ls h hI
  | succ k => exact step s j (by omega) (fun ls h hI' => ih k (by omega) ls [] h ⟨rfl, j + 1, by omega, hI'⟩) ls h hI
