-- ===== more small methods of both sides =====
theorem KM : (∀ (k : KK) (ls : List Value) (h : HP) (x y : Int32), kMmin k ls [.int y, .int x] h = k ls [.int (if y < x then y else x)] h) ∧ (∀ (k : KK) (ls : List Value) (h : HP) (x y : Int32), kMmax k ls [.int y, .int x] h = k ls [.int (if x < y then y else x)] h) ∧ (∀ (k : KK) (ls : List Value) (h : HP) (x y : Int32) (a b : Value), kMmax k ls [.int y, .int x, a, b] h = k ls [.int (if x < y then y else x), a, b] h) :=
  ⟨fun _ _ _ _ _ => rfl, fun _ _ _ _ _ => rfl, fun _ _ _ _ _ _ _ => rfl⟩
theorem mmin_nI {x y : Nat} (hx : x < 2147483648) (hy : y < 2147483648) : (if nI y < nI x then nI y else nI x) = nI (min x y) := by
  rw [Nat.min_def]
  by_cases h : y < x
  · rw [if_pos (by rw [nIlt hy hx]; exact h), if_neg (by omega)]
  · rw [if_neg (by rw [nIlt hy hx]; exact h)]; split
    · rfl
    · have : x = y := by omega
      rw [this]
theorem mmax_nI {x y : Nat} (hx : x < 2147483648) (hy : y < 2147483648) : (if nI x < nI y then nI y else nI x) = nI (max x y) := by
  rw [Nat.max_def]
  by_cases h : x < y
  · rw [if_pos (by rw [nIlt hx hy]; exact h), if_pos (by omega)]
  · rw [if_neg (by rw [nIlt hx hy]; exact h)]; split
    · have : x = y := by omega
      rw [this]
    · rfl
theorem mmin_N (x y : Nat) : (if y < x then nI y else nI x) = nI (min x y) := by
  rw [Nat.min_def]
  split <;> split <;> first | rfl | (congr 1; omega)
theorem mmax_N (x y : Nat) : (if x < y then nI y else nI x) = nI (max x y) := by
  rw [Nat.max_def]
  split <;> split <;> first | rfl | (congr 1; omega)
theorem most_at {w : Nat} (h : w < 5) (k : KK) (ls st : List Value) (hh : HP) : kMostL k ls (.int (nI w) :: .ref (OUT + 1000) :: st) hh = k ls (.int (nI (mostN w)) :: st) hh := by
  unfold kMostL
  simp only []
  rw [if_pos ⟨trivial, inb_nI h (by decide)⟩, nI_clamp (by omega)]
  match w, h with
  | 0, _ => rfl
  | 1, _ => rfl
  | 2, _ => rfl
  | 3, _ => rfl
  | 4, _ => rfl
theorem KP : (∀ (k : KK) (ls st : List Value) (h : HP), kMost k ls st h = k ls (.ref (OUT + 1000) :: st) h) ∧ (∀ (k : KK) (ls st : List Value) (v : Value) (h : HP), kPush v k ls st h = k ls (v :: st) h) := ⟨fun _ _ _ _ => rfl, fun _ _ _ _ _ => rfl⟩
/-- do the ways a → b and x → y fight? -/
def wayB (a b x y : Nat) : Bool := decide (b = y ∨ ((min (2 * a + 1) (2 * b) < 2 * x + 1 ∧ 2 * x + 1 < max (2 * a + 1) (2 * b)) ∧ (2 * y ≤ min (2 * a + 1) (2 * b) ∨ max (2 * a + 1) (2 * b) ≤ 2 * y)) ∨ ((2 * x + 1 ≤ min (2 * a + 1) (2 * b) ∨ max (2 * a + 1) (2 * b) ≤ 2 * x + 1) ∧ (min (2 * a + 1) (2 * b) < 2 * y ∧ 2 * y < max (2 * a + 1) (2 * b))))
theorem wayB_iff (a b x y : Nat) : (wayB a b x y = true) = (b = y ∨ ((min (2 * a + 1) (2 * b) < 2 * x + 1 ∧ 2 * x + 1 < max (2 * a + 1) (2 * b)) ∧ (2 * y ≤ min (2 * a + 1) (2 * b) ∨ max (2 * a + 1) (2 * b) ≤ 2 * y)) ∨ ((2 * x + 1 ≤ min (2 * a + 1) (2 * b) ∨ max (2 * a + 1) (2 * b) ≤ 2 * x + 1) ∧ (min (2 * a + 1) (2 * b) < 2 * y ∧ 2 * y < max (2 * a + 1) (2 * b)))) := by
  unfold wayB
  rw [decide_eq_true_eq]
theorem mul_nI_l (a : Nat) : nI 2 * nI a = nI (2 * a) := nI_mul 2 a
theorem c_ways (a b x y : Nat) (ha : a < 6) (hb : b < 6) (hx : x < 6) (hy : y < 6) (h : HP) : f_X10_waysFight [.int (nI a), .int (nI b), .int (nI x), .int (nI y)] h = some (some (.int (if wayB a b x y = true then nI 1 else nI 0)), h) := by
  simp (disch := omega) only [f_X10_waysFight, kb_X10_waysFight_95, kb_X10_waysFight_81, kb_X10_waysFight_80, kb_X10_waysFight_58, kb_X10_waysFight_57, kb_X10_waysFight_0, KL, KB, KC, KI, KJ, KZ, bI_0, bI_n, nI00, nI10, ne_eq, Classical.not_not, not_true_eq_false, not_false_eq_true, if_true, if_false, ite_not, ite_self, Bool.false_eq_true, KM, nI_mul, nI_add, mmin_N, mmax_N, nIle, nIlt, nIeq, wayB_iff]
  repeat' split
  all_goals first | rfl | (exfalso; omega)
theorem m_within (p a b : Nat) (hp : p < 1000) (ha : a < 1000) (hb : b < 1000) (h : HP) : f_X11_isWithin [.int (nI p), .int (nI a), .int (nI b)] h = some (some (.int (bI (a < p ∧ p < b))), h) := by
  simp (disch := omega) only [f_X11_isWithin, kb_X11_isWithin_15, kb_X11_isWithin_14, kb_X11_isWithin_0, KL, KB, KC, KI, KJ, KZ, bI_0, bI_n, nI00, nI10, ne_eq, Classical.not_not, not_true_eq_false, not_false_eq_true, if_true, if_false, ite_not, ite_self, Bool.false_eq_true, nIle]
  by_cases h1 : p ≤ a
  · rw [if_pos h1, bI_f (by omega)]
  · rw [if_neg h1]
    by_cases h2 : b ≤ p
    · rw [if_pos h2, bI_f (by omega)]
    · rw [if_neg h2, bI_t (by omega)]
theorem bI_eq (p q : Prop) [Decidable p] [Decidable q] : (bI p = bI q) = ((p ∧ q) ∨ (¬ p ∧ ¬ q)) := by
  by_cases hp : p <;> by_cases hq : q <;> simp [bI, hp, hq, nI]
theorem m_fights (a b x y : Nat) (ha : a < 6) (hb : b < 6) (hx : x < 6) (hy : y < 6) (h : HP) : f_X11_fights [.int (nI a), .int (nI b), .int (nI x), .int (nI y)] h = some (some (.int (if wayB a b x y = true then nI 1 else nI 0)), h) := by
  by_cases e : 2 * b ≤ 2 * a + 1
  · simp (disch := omega) only [f_X11_fights, kb_X11_fights_81, kb_X11_fights_49, kb_X11_fights_33, kb_X11_fights_0, KL, KB, KC, KI, KJ, KZ, bI_0, bI_n, nI00, nI10, ne_eq, Classical.not_not, not_true_eq_false, not_false_eq_true, if_true, if_false, ite_not, ite_self, Bool.false_eq_true, nI_mul, nI_add, nIle, nIlt, nIeq, wayB_iff, e, m_within, bI_eq]
    repeat' split
    all_goals first | rfl | (exfalso; omega)
  · simp (disch := omega) only [f_X11_fights, kb_X11_fights_81, kb_X11_fights_49, kb_X11_fights_33, kb_X11_fights_0, KL, KB, KC, KI, KJ, KZ, bI_0, bI_n, nI00, nI10, ne_eq, Classical.not_not, not_true_eq_false, not_false_eq_true, if_true, if_false, ite_not, ite_self, Bool.false_eq_true, nI_mul, nI_add, nIle, nIlt, nIeq, wayB_iff, e, m_within, bI_eq]
    repeat' split
    all_goals first | rfl | (exfalso; omega)
/-- the turn -/
def turnN (n a b : Nat) : Nat := if (b + n - a) % n = 1 then 1 else if (b + n - a) % n = n - 1 then 2 else 0
theorem c_turn (n a b : Nat) (h3 : 3 ≤ n) (h6 : n ≤ 6) (ha : a < n) (hb : b < n) (h : HP) : f_X10_turnOf [.int (nI n), .int (nI a), .int (nI b)] h = some (some (.int (nI (turnN n a b))), h) := by
  by_cases e : a ≤ b
  · have hm : (b + n - a) % n = b - a := by rw [show b + n - a = b - a + n by omega, Nat.add_mod_right, Nat.mod_eq_of_lt (by omega)]
    simp (disch := omega) only [f_X10_turnOf, kb_X10_turnOf_36, kb_X10_turnOf_16, kb_X10_turnOf_0, KL, KB, KC, KI, KJ, KZ, bI_0, bI_n, nI00, nI10, ne_eq, Classical.not_not, not_true_eq_false, not_false_eq_true, if_true, if_false, ite_not, ite_self, Bool.false_eq_true, nIle, e, nI_sub, nIeq, turnN, hm]
    repeat' split
    all_goals first | rfl | (exfalso; omega)
  · have hm : (b + n - a) % n = b + n - a := Nat.mod_eq_of_lt (by omega)
    have hs : nI b - nI a + nI n = nI (b + n - a) := by
      have e1 : nI b = nI (b + n - a) + nI a - nI n := by
        rw [nI_add, show b + n - a + a = b + n by omega, nI_sub (by omega), Nat.add_sub_cancel]
      have e2 : nI b - nI a + nI n = nI b + nI n - nI a := by
        rw [Int32.sub_eq_add_neg, Int32.sub_eq_add_neg, Int32.add_assoc, Int32.add_comm (-nI a), ← Int32.add_assoc]
      rw [e2, nI_add, nI_sub (by omega)]
    simp (disch := omega) only [f_X10_turnOf, kb_X10_turnOf_36, kb_X10_turnOf_16, kb_X10_turnOf_0, KL, KB, KC, KI, KJ, KZ, bI_0, bI_n, nI00, nI10, ne_eq, Classical.not_not, not_true_eq_false, not_false_eq_true, if_true, if_false, ite_not, ite_self, Bool.false_eq_true, nIle, e, hs, nI_sub, nIeq, turnN, hm]
    repeat' split
    all_goals first | rfl | (exfalso; omega)
theorem nI_div (a b : Nat) (ha : a < 2147483648) (hb : b < 2147483648) : nI a / nI b = nI (a / b) := by
  apply Int32.toInt_inj.mp
  rw [Int32.toInt_div, nI_toInt ha, nI_toInt hb, nI_toInt (Nat.lt_of_le_of_lt (Nat.div_le_self a b) ha)]
  rw [Int.tdiv_eq_ediv_of_nonneg (by omega)]
  have h1 : a / b < 2147483648 := Nat.lt_of_le_of_lt (Nat.div_le_self a b) ha
  have h2 : ((a : Int) / (b : Int)) = ((a / b : Nat) : Int) := (Int.natCast_ediv a b).symm
  rw [h2]
  generalize a / b = z at h1
  apply Int.bmod_eq_of_le <;> omega
theorem nI_rem (a b : Nat) (ha : a < 2147483648) (hb : b < 2147483648) : nI a - nI a / nI b * nI b = nI (a % b) := by
  rw [nI_div a b ha hb, nI_mul, nI_sub (Nat.div_mul_le_self a b)]
  congr 1
  have := Nat.div_add_mod a b
  rw [Nat.mul_comm] at this
  omega
theorem nI_rem2 (a b : Nat) : nI a - nI (a / b) * nI b = nI (a % b) := by
  rw [nI_mul, nI_sub (Nat.div_mul_le_self a b)]
  congr 1
  have := Nat.div_add_mod a b
  rw [Nat.mul_comm] at this
  omega
theorem m_turn (n a b : Nat) (h3 : 3 ≤ n) (h6 : n ≤ 6) (ha : a < n) (hb : b < n) (h : HP) : f_X11_turn [.int (nI n), .int (nI a), .int (nI b)] h = some (some (.int (nI (turnN n a b))), h) := by
  have hs : nI b - nI a + nI n = nI (b + n - a) := by
    have e2 : nI b - nI a + nI n = nI b + nI n - nI a := by
      rw [Int32.sub_eq_add_neg, Int32.sub_eq_add_neg, Int32.add_assoc, Int32.add_comm (-nI a), ← Int32.add_assoc]
    rw [e2, nI_add, nI_sub (by omega)]
  have hml : (b + n - a) % n < n := Nat.mod_lt _ (by omega)
  have hn0 : (nI n = 0) = False := by rw [nIk0 (by omega)]; exact eq_false (by omega)
  simp (disch := omega) only [f_X11_turn, kb_X11_turn_29, kb_X11_turn_0, KL, KB, KC, KI, KJ, KZ, bI_0, bI_n, nI00, nI10, ne_eq, Classical.not_not, not_true_eq_false, not_false_eq_true, if_true, if_false, ite_not, ite_self, Bool.false_eq_true, hs, hn0, nI_div, nI_rem2, nIeq, nI_sub, turnN]
  repeat' split
  all_goals first | rfl | (exfalso; omega)
theorem x_isWay (g : GG) (m o X n : Nat) (a b : Int32) (hX : isX X) (hn : g X 0 = nI n) (h1 : 1 ≤ n) (h2 : n < 100) : f_X1_isWay [.ref X, .int a, .int b] (hp g m o) = some (some (.int (bI ((nI 0 ≤ a ∧ a ≤ nI (n - 1)) ∧ (nI 0 ≤ b ∧ b ≤ nI (n - 1)) ∧ a ≠ b))), hp g m o) := by
  simp (disch := first | assumption | omega) only [f_X1_isWay, kb_X1_isWay_26, kb_X1_isWay_25, kb_X1_isWay_0, KL, KB, KC, KI, KJ, KZ, bI_0, bI_n, nI00, nI10, ne_eq, Classical.not_not, not_true_eq_false, not_false_eq_true, if_true, if_false, ite_not, ite_self, Bool.false_eq_true, XO, x_hasRoad g m o X n _ hX hn h1 h2]
  by_cases ha : nI 0 ≤ a ∧ a ≤ nI (n - 1)
  · by_cases hb : nI 0 ≤ b ∧ b ≤ nI (n - 1)
    · by_cases hab : a = b
      · simp [ha, hb, hab, bI]
      · simp [ha, hb, hab, bI]
    · simp [ha, hb, bI]
  · simp [ha, bI]
theorem c_goodsOf (t s l : Nat) (h : HP) : f_X10_goodsOf [.int (nI t), .int (nI s), .int (nI l)] h = some (some (.int (nI (goodsN (t, s, l)))), h) := by
  simp (disch := omega) only [f_X10_goodsOf, kb_X10_goodsOf_0, KL, KB, KC, KI, KJ, KZ, bI_0, bI_n, nI00, nI10, ne_eq, Classical.not_not, not_true_eq_false, not_false_eq_true, if_true, if_false, ite_not, ite_self, Bool.false_eq_true, nI_mul, nI_add, goodsN]
theorem c_loadIn (q : Nat × Nat × Nat) (ht : q.1 < 10) (hs : q.2.1 ≤ 3) (hl : q.2.2 ≤ 9) (h : HP) : f_X10_loadIn [.int (nI (goodsN q))] h = some (some (.int (nI q.2.2)), h) := by
  have hb : goodsN q < 1000 := by unfold goodsN; omega
  have hm : goodsN q % 10 = q.2.2 := by unfold goodsN; omega
  have h10 : (nI 10 = 0) = False := by rw [nIk0 (by omega)]; exact eq_false (by omega)
  simp (disch := omega) only [f_X10_loadIn, kb_X10_loadIn_0, KL, KB, KC, KI, KJ, KZ, bI_0, bI_n, nI00, nI10, ne_eq, Classical.not_not, not_true_eq_false, not_false_eq_true, if_true, if_false, ite_not, ite_self, Bool.false_eq_true, h10, nI_div, nI_rem2, hm]
theorem c_sortIn (q : Nat × Nat × Nat) (ht : q.1 < 10) (hs : q.2.1 ≤ 3) (hl : q.2.2 ≤ 9) (h : HP) : f_X10_sortIn [.int (nI (goodsN q))] h = some (some (.int (nI q.2.1)), h) := by
  have hb : goodsN q < 1000 := by unfold goodsN; omega
  have hm : goodsN q / 10 % 4 = q.2.1 := by unfold goodsN; omega
  have h10 : (nI 10 = 0) = False := by rw [nIk0 (by omega)]; exact eq_false (by omega)
  have h4 : (nI 4 = 0) = False := by rw [nIk0 (by omega)]; exact eq_false (by omega)
  simp (disch := omega) only [f_X10_sortIn, kb_X10_sortIn_0, KL, KB, KC, KI, KJ, KZ, bI_0, bI_n, nI00, nI10, ne_eq, Classical.not_not, not_true_eq_false, not_false_eq_true, if_true, if_false, ite_not, ite_self, Bool.false_eq_true, h10, h4, nI_div, nI_rem2, hm]
theorem c_toIn (q : Nat × Nat × Nat) (ht : q.1 < 10) (hs : q.2.1 ≤ 3) (hl : q.2.2 ≤ 9) (h : HP) : f_X10_toIn [.int (nI (goodsN q))] h = some (some (.int (nI q.1)), h) := by
  have hb : goodsN q < 1000 := by unfold goodsN; omega
  have hm : goodsN q / 40 = q.1 := by unfold goodsN; omega
  have h40 : (nI 40 = 0) = False := by rw [nIk0 (by omega)]; exact eq_false (by omega)
  simp (disch := omega) only [f_X10_toIn, kb_X10_toIn_0, KL, KB, KC, KI, KJ, KZ, bI_0, bI_n, nI00, nI10, ne_eq, Classical.not_not, not_true_eq_false, not_false_eq_true, if_true, if_false, ite_not, ite_self, Bool.false_eq_true, h40, nI_div, hm]
