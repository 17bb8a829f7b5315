-- ===== the constructors: the orders =====
def isO (q : Nat) : Prop := SH q = (43, 3) ∧ SH (q + 1) = (1, 144) ∧ SH (q + 2) = (1, 144) ∧ RR 17 175 q 1 = some (q + 1) ∧ RR 17 175 q 2 = some (q + 2)
def saN (R : Nat → Nat) (x : Nat) : Nat → Nat
  | 0 => 0
  | m + 1 => if R m < R x then saN R x m ||| 3 <<< (2 * m) else saN R x m
theorem i_slots {q n z k x r : Nat} {g : GG} {H : List (Nat × Nat)} {R : Nat → Nat} (hO : isO q) (hq : q + 2 < n) (m1 : (q, 1) ∈ H) (hk : k < 24) (hx : x < r) (hr : r ≤ 6) (hR : ∀ y, y < r → g (q + 1) (6 * k + y) = nI (R y) ∧ R y < 100) : f_X3_slotsAhead [.ref q, .int (nI k), .int (nI x), .int (nI r)] (HQ n z g H) = some (some (.int (nI (saN R x r))), HQ n z g H) := by
  obtain ⟨s0, s1, s2, r1, r2⟩ := hO
  have gr := fun (k : KK) (ls st : List Value) => Q_gr (n := n) (z := z) (g := g) (ci := 3) (N := 3) (show q < n by omega) s0 m1 r1 k ls st
  have key : kl_X3_slotsAhead_6 [.ref q, .int (nI k), .int (nI x), .int (nI r), .int (nI 0), .int (nI 0)] [] (HQ n z g H) = some (some (.int (nI (saN R x r))), HQ n z g H) := by
    unfold kl_X3_slotsAhead_6
    refine kFor r (by unfold FU; omega) (fun i ls h => ls = [.ref q, .int (nI k), .int (nI x), .int (nI r), .int (nI (saN R x i)), .int (nI i)] ∧ h = HQ n z g H) (fun r' => r' = some (some (.int (nI (saN R x r))), HQ n z g H)) ?_ ?_ 0 _ _ (by omega) ⟨rfl, rfl⟩
    · rintro s0 ls h ⟨rfl, rfl⟩
      have hin : (r ≤ r) = True := eq_true (by omega)
      simp (disch := first | assumption | omega) only [KL, KB, KC, KI, KJ, KZ, bI_0, bI_n, nI00, nI10, ne_eq, Classical.not_not, not_true_eq_false, not_false_eq_true, if_true, if_false, ite_not, ite_self, Bool.false_eq_true, nIne1, kMask, mask, mask_n, nIle, hin]
    · rintro s0 i hi ih ls h ⟨rfl, rfl⟩
      have hin : (r ≤ i) = False := eq_false (by omega)
      have i1 := fun (k' : KK) (ls st : List Value) => Q_ial (n := n) (z := z) (g := g) (H := H) (a := q + 1) (i := k * 6 + i) (by omega) s1 (by decide) (by omega) k' ls st
      have i2 := fun (k' : KK) (ls st : List Value) => Q_ial (n := n) (z := z) (g := g) (H := H) (a := q + 1) (i := k * 6 + x) (by omega) s1 (by decide) (by omega) k' ls st
      obtain ⟨e1, b1⟩ := hR i hi
      obtain ⟨e2, b2⟩ := hR x hx
      rw [show 6 * k + i = k * 6 + i by omega] at e1
      rw [show 6 * k + x = k * 6 + x by omega] at e2
      by_cases c : R i < R x
      · have c' : (R x ≤ R i) = False := eq_false (by omega)
        have hs : saN R x (i + 1) = saN R x i ||| 3 <<< (2 * i) := if_pos c
        simp (disch := first | assumption | omega) only [kb_X3_slotsAhead_49, KL, KB, KC, KI, KJ, KZ, bI_0, bI_n, nI00, nI10, ne_eq, Classical.not_not, not_true_eq_false, not_false_eq_true, if_true, if_false, ite_not, ite_self, Bool.false_eq_true, nIne1, kMask, mask, mask_n, gr, nI_mul, nI_add, i1, i2, e1, e2, nIle, hin, c', nI_shl, nI_or]
        exact ih _ _ ⟨by rw [hs], rfl⟩
      · have c' : (R x ≤ R i) = True := eq_true (by omega)
        have hs : saN R x (i + 1) = saN R x i := if_neg c
        simp (disch := first | assumption | omega) only [kb_X3_slotsAhead_49, KL, KB, KC, KI, KJ, KZ, bI_0, bI_n, nI00, nI10, ne_eq, Classical.not_not, not_true_eq_false, not_false_eq_true, if_true, if_false, ite_not, ite_self, Bool.false_eq_true, nIne1, kMask, mask, mask_n, gr, nI_mul, nI_add, i1, i2, e1, e2, nIle, hin, c']
        exact ih _ _ ⟨by rw [hs], rfl⟩
  rw [← key]
  simp (disch := first | assumption | omega) only [f_X3_slotsAhead, kb_X3_slotsAhead_0, KL, KB, KC, KI, KJ, KZ, bI_0, bI_n, nI00, nI10, ne_eq, Classical.not_not, not_true_eq_false, not_false_eq_true, if_true, if_false, ite_not, ite_self, Bool.false_eq_true, nIne1]
/-- the ranks stand -/
def RKS (g : GG) (q r : Nat) : Prop := g q 0 = nI (ordMany r) ∧ ∀ k, k < ordMany r → ∀ x, x < 6 → g (q + 1) (6 * k + x) = if x < r then nI (ordRank r k x) else nI 0
theorem rounds_tab : (List.range 2).all (fun a => (List.range (a + 5)).all (fun k => (List.range (a + 5)).all (fun x => ordRank (a + 5) k x == if x < k then x + (a + 5) - k else x - k))) = true := by decide +kernel
theorem i_rounds {q n z r : Nat} {g : GG} {H : List (Nat × Nat)} (hO : isO q) (hq : q + 2 < n) (m1 : (q, 1) ∈ H) (r5 : 5 ≤ r) (r6 : r ≤ 6) (hz : ZER g (q + 1)) : ∃ g', f_X3_makeRounds [.ref q, .int (nI r)] (HQ n z g H) = some (none, HQ n z g' H) ∧ (∀ a, a ≠ q → a ≠ q + 1 → g' a = g a) ∧ RKS g' q r := by
  obtain ⟨t0, t1, t2, r1, r2⟩ := hO
  have hm : ordMany r = r := by unfold ordMany; rw [if_neg (by omega), if_neg (by omega)]
  have htab : ∀ k x, k < r → x < r → ordRank r k x = if x < k then x + r - k else x - k := by
    intro k x hk hx
    have h := rounds_tab
    rw [List.all_eq_true] at h
    have h1 := h (r - 5) (List.mem_range.mpr (by omega))
    rw [show r - 5 + 5 = r by omega, List.all_eq_true] at h1
    have h2 := h1 k (List.mem_range.mpr hk)
    rw [List.all_eq_true] at h2
    exact eq_of_beq (h2 x (List.mem_range.mpr hx))
  have key : ∃ g', kl_X3_makeRounds_2 [.ref q, .int (nI r), .int (nI 0)] [] (HQ n z g H) = some (none, HQ n z g' H) ∧ (∀ a, a ≠ q → a ≠ q + 1 → g' a = g a) ∧ RKS g' q r := by
    unfold kl_X3_makeRounds_2
    refine kFor r (by unfold FU; omega) (fun i ls h => ∃ (g' : GG) (u : List Value), ls = [.ref q, .int (nI r), .int (nI i)] ++ u ∧ h = HQ n z g' H ∧ (∀ a, a ≠ q + 1 → g' a = g a) ∧ (∀ k, k < i → ∀ x, x < r → g' (q + 1) (6 * k + x) = nI (ordRank r k x)) ∧ ∀ k x, r ≤ x → x < 6 → g' (q + 1) (6 * k + x) = nI 0) (fun r' => ∃ g', r' = some (none, HQ n z g' H) ∧ (∀ a, a ≠ q → a ≠ q + 1 → g' a = g a) ∧ RKS g' q r) ?_ ?_ 0 _ _ (by omega) ⟨g, [], rfl, rfl, fun _ _ => rfl, fun k hk => absurd hk (Nat.not_lt_zero _), fun k x _ _ => hz _⟩
    · rintro s ls h ⟨g', u, rfl, rfl, h1, h2, h3⟩
      have hin : (r ≤ r) = True := eq_true (by omega)
      have pi := fun (k : KK) (ls st : List Value) (v : Int32) => Q_pi (n := n) (z := z) (g := g') (H := H) (x := v) (ci := 3) (N := 3) (kx := 0) (show q < n by omega) t0 k ls st
      simp (disch := first | assumption | omega) only [KL, KB, KC, KI, KJ, KZ, bI_0, bI_n, nI00, nI10, ne_eq, Classical.not_not, not_true_eq_false, not_false_eq_true, if_true, if_false, ite_not, ite_self, Bool.false_eq_true, nIne1, List.cons_append, List.nil_append, kMask, mask, mask_n, nIle, hin, pi]
      refine ⟨_, rfl, fun a a1 a2 => by rw [uN a1]; exact h1 a a2, by rw [hm]; exact uS, fun k hk x hx => ?_⟩
      rw [uN (by omega)]
      by_cases c : x < r
      · rw [if_pos c]; exact h2 k (by omega) x c
      · rw [if_neg c]; exact h3 k x (by omega) hx
    · rintro s i hi ih ls h ⟨g', u, rfl, rfl, h1, h2, h3⟩
      have hin : (r ≤ i) = False := eq_false (by omega)
      have inn : (fun r' => ∃ g', r' = some (none, HQ n z g' H) ∧ (∀ a, a ≠ q → a ≠ q + 1 → g' a = g a) ∧ RKS g' q r) (kl_X3_makeRounds_9 s [.ref q, .int (nI r), .int (nI i), .int (nI 0)] [] (HQ n z g' H)) := by
        unfold kl_X3_makeRounds_9
        refine kFor r (by unfold FU; omega) (fun j ls h => ∃ (g2 : GG) (u : List Value), ls = [.ref q, .int (nI r), .int (nI i), .int (nI j)] ++ u ∧ h = HQ n z g2 H ∧ (∀ a, a ≠ q + 1 → g2 a = g a) ∧ (∀ k, k < i → ∀ x, x < r → g2 (q + 1) (6 * k + x) = nI (ordRank r k x)) ∧ (∀ k x, r ≤ x → x < 6 → g2 (q + 1) (6 * k + x) = nI 0) ∧ ∀ x, x < j → g2 (q + 1) (6 * i + x) = nI (ordRank r i x)) (fun r' => ∃ g', r' = some (none, HQ n z g' H) ∧ (∀ a, a ≠ q → a ≠ q + 1 → g' a = g a) ∧ RKS g' q r) ?_ ?_ 0 _ _ (by omega) ⟨g', [], rfl, rfl, h1, h2, h3, fun x hx => absurd hx (Nat.not_lt_zero _)⟩
        · rintro s1 ls h ⟨g2, u, rfl, rfl, w1, w2, w3, w4⟩
          have hin : (r ≤ r) = True := eq_true (by omega)
          simp (disch := first | assumption | omega) only [KL, KB, KC, KI, KJ, KZ, bI_0, bI_n, nI00, nI10, ne_eq, Classical.not_not, not_true_eq_false, not_false_eq_true, if_true, if_false, ite_not, ite_self, Bool.false_eq_true, nIne1, List.cons_append, List.nil_append, kMask, mask, mask_n, nIle, hin, nI_add]
          exact ih _ _ ⟨g2, [_], rfl, rfl, w1, fun k hk x hx => by
            by_cases e : k = i
            · rw [e]; exact w4 x hx
            · exact w2 k (by omega) x hx, w3⟩
        · rintro s1 j hj ih2 ls h ⟨g2, u, rfl, rfl, w1, w2, w3, w4⟩
          have hin : (r ≤ j) = False := eq_false (by omega)
          have gr := fun (k : KK) (ls st : List Value) => Q_gr (n := n) (z := z) (g := g2) (ci := 3) (N := 3) (show q < n by omega) t0 m1 r1 k ls st
          have ia := fun (k : KK) (ls st : List Value) (v : Int32) => Q_ias (n := n) (z := z) (g := g2) (H := H) (a := q + 1) (i := i * 6 + j) (x := v) (by omega) t1 (by decide) (by omega) k ls st
          have fin : ∀ (v : Nat) (u : List Value), v = ordRank r i j → ∃ g', s1 ([.ref q, .int (nI r), .int (nI i), .int (nI (j + 1))] ++ u) [] (HQ n z (upd2 g2 (q + 1) (i * 6 + j) (nI v)) H) = some (none, HQ n z g' H) ∧ (∀ a, a ≠ q → a ≠ q + 1 → g' a = g a) ∧ RKS g' q r := fun v u hv => ih2 _ _ ⟨_, u, rfl, rfl, fun a ha => by rw [uN ha]; exact w1 a ha, fun k hk x hx => by rw [uO (Or.inr (by omega))]; exact w2 k hk x hx, fun k x h1 h2 => by rw [uO (Or.inr (by omega))]; exact w3 k x h1 h2, fun x hx => by
            by_cases e : x = j
            · rw [e, show 6 * i + j = i * 6 + j by omega, uS, hv]
            · rw [uO (Or.inr (by omega))]; exact w4 x (by omega)⟩
          have ht := htab i j hi hj
          by_cases c : j < i
          · have c' : (i ≤ j) = False := eq_false (by omega)
            rw [if_pos c] at ht
            have := fin (j + r - i) [.int (nI (j + r - i))] ht.symm
            have hb : nI j - nI i + nI r = nI (j + r - i) := nI_back (by omega)
            simp only [List.cons_append, List.nil_append] at this
            simp (disch := first | assumption | omega) only [kb_X3_makeRounds_30, KL, KB, KC, KI, KJ, KZ, bI_0, bI_n, nI00, nI10, ne_eq, Classical.not_not, not_true_eq_false, not_false_eq_true, if_true, if_false, ite_not, ite_self, Bool.false_eq_true, nIne1, List.cons_append, List.nil_append, kMask, mask, mask_n, nIle, hin, c', hb, gr, nI_mul, nI_add, ia]
            exact this
          · have c' : (i ≤ j) = True := eq_true (by omega)
            rw [if_neg c] at ht
            have := fin (j - i) [.int (nI (j - i))] ht.symm
            simp only [List.cons_append, List.nil_append] at this
            simp (disch := first | assumption | omega) only [kb_X3_makeRounds_30, KL, KB, KC, KI, KJ, KZ, bI_0, bI_n, nI00, nI10, ne_eq, Classical.not_not, not_true_eq_false, not_false_eq_true, if_true, if_false, ite_not, ite_self, Bool.false_eq_true, nIne1, List.cons_append, List.nil_append, kMask, mask, mask_n, nIle, hin, c', nI_sub, gr, nI_mul, nI_add, ia]
            exact this
      simp (disch := first | assumption | omega) only [KL, KB, KC, KI, KJ, KZ, bI_0, bI_n, nI00, nI10, ne_eq, Classical.not_not, not_true_eq_false, not_false_eq_true, if_true, if_false, ite_not, ite_self, Bool.false_eq_true, nIne1, List.cons_append, List.nil_append, kMask, mask, mask_n, nIle, hin]
      exact inn
  obtain ⟨g', e, w⟩ := key
  refine ⟨g', ?_, w⟩
  rw [← e]
  simp (disch := first | assumption | omega) only [f_X3_makeRounds, kb_X3_makeRounds_0, KL, KB, KC, KI, KJ, KZ, bI_0, bI_n, nI00, nI10, ne_eq, Classical.not_not, not_true_eq_false, not_false_eq_true, if_true, if_false, ite_not, ite_self, Bool.false_eq_true, nIne1]
def sA (r c : Nat) : Nat → Nat
  | 0 => 0
  | k + 1 => sA r c k ||| 1 <<< (c / r ^ k % r)
def pA (r c x : Nat) : Nat → Nat
  | 0 => 99
  | k + 1 => if c / r ^ k % r = x then r - 1 - k else pA r c x k
def vA (r c : Nat) : Bool := decide (sA r c r = 2 ^ r - 1)
def cV (r c : Nat) : Nat := cntN (vA r) c
def gA (g : GG) (q r c mny : Nat) : Nat → GG
  | 0 => g
  | k + 1 => upd2 (gA g q r c mny k) (q + 1) (mny * 6 + c / r ^ k % r) (nI (r - 1 - k))
theorem gA_ne (g : GG) (q r c mny a : Nat) (ha : a ≠ q + 1) : ∀ k, gA g q r c mny k a = g a := by
  intro k
  induction k with
  | zero => rfl
  | succ k ih => show upd2 (gA g q r c mny k) (q + 1) _ _ a = g a; rw [uN ha, ih]
theorem gA_o (g : GG) (q r c mny i : Nat) (hr : 0 < r) (hi : i < mny * 6 ∨ mny * 6 + r ≤ i) : ∀ k, gA g q r c mny k (q + 1) i = g (q + 1) i := by
  intro k
  induction k with
  | zero => rfl
  | succ k ih =>
    have := Nat.mod_lt (c / r ^ k) hr
    show upd2 (gA g q r c mny k) (q + 1) _ _ (q + 1) i = _
    rw [uO (by omega), ih]
theorem gA_in (g : GG) (q r c mny x : Nat) (hx : x < 31) (hr : r < 31) (h0 : 0 < r) : ∀ k, (sA r c k).testBit x = true → gA g q r c mny k (q + 1) (mny * 6 + x) = nI (pA r c x k) := by
  intro k
  induction k with
  | zero =>
    intro h
    have h' : (0 : Nat).testBit x = true := h
    rw [Nat.zero_testBit] at h'
    cases h'
  | succ k ih =>
    intro h
    show upd2 (gA g q r c mny k) (q + 1) _ _ (q + 1) (mny * 6 + x) = nI (if c / r ^ k % r = x then r - 1 - k else pA r c x k)
    by_cases e : c / r ^ k % r = x
    · rw [if_pos e, e, uS]
    · rw [if_neg e, uO (by omega)]
      refine ih ?_
      have h' : (sA r c k ||| 1 <<< (c / r ^ k % r)).testBit x = true := h
      rw [Nat.testBit_or, Nat.one_shiftLeft, Nat.testBit_two_pow, decide_eq_false e, Bool.or_false] at h'
      exact h'
theorem cV_mono (r : Nat) : ∀ j c, cV r c ≤ cV r (c + j) := by
  intro j c
  induction j with
  | zero => exact Nat.le_refl _
  | succ j ih => show _ ≤ cntN (vA r) (c + j) + _; exact Nat.le_trans ih (Nat.le_add_right _ _)
def codL (r : Nat) : List Nat := if r = 3 then [5, 7, 11, 15, 19, 21] else [27, 30, 39, 45, 54, 57, 75, 78, 99, 108, 114, 120, 135, 141, 147, 156, 177, 180, 198, 201, 210, 216, 225, 228]
theorem all_tab : (List.range 2).all (fun a => (cV (a + 3) ((a + 3) ^ (a + 3)) == ordMany (a + 3)) && (List.range (ordMany (a + 3))).all (fun k => decide ((codL (a + 3)).getD k 0 < (a + 3) ^ (a + 3)) && vA (a + 3) ((codL (a + 3)).getD k 0) && (cV (a + 3) ((codL (a + 3)).getD k 0) == k) && (List.range (a + 3)).all (fun x => pA (a + 3) ((codL (a + 3)).getD k 0) x (a + 3) == ordRank (a + 3) k x))) = true := by decide +kernel
theorem all_code {r : Nat} (r3 : 3 ≤ r) (r4 : r ≤ 4) : cV r (r ^ r) = ordMany r ∧ ∀ k, k < ordMany r → ∃ d, d < r ^ r ∧ vA r d = true ∧ cV r d = k ∧ ∀ x, x < r → pA r d x r = ordRank r k x := by
  have h := all_tab
  rw [List.all_eq_true] at h
  have h1 := h (r - 3) (List.mem_range.mpr (by omega))
  rw [show r - 3 + 3 = r by omega, Bool.and_eq_true] at h1
  refine ⟨eq_of_beq h1.1, fun k hk => ?_⟩
  have h2 := h1.2
  rw [List.all_eq_true] at h2
  have h3 := h2 k (List.mem_range.mpr hk)
  simp only [Bool.and_eq_true] at h3
  refine ⟨(codL r).getD k 0, of_decide_eq_true h3.1.1.1, h3.1.1.2, eq_of_beq h3.1.2, fun x hx => ?_⟩
  have h4 := h3.2
  rw [List.all_eq_true] at h4
  exact eq_of_beq (h4 x (List.mem_range.mpr hx))
theorem bit_all {r x : Nat} (hx : x < r) : (2 ^ r - 1).testBit x = true := by
  rw [Nat.testBit_two_pow_sub_one]
  exact decide_eq_true hx
theorem i_all {q n z r : Nat} {g : GG} {H : List (Nat × Nat)} (hO : isO q) (hq : q + 2 < n) (m1 : (q, 1) ∈ H) (r3 : 3 ≤ r) (r4 : r ≤ 4) (hz : ZER g (q + 1)) (hz0 : g q 0 = nI 0) : ∃ g', f_X3_makeAll [.ref q, .int (nI r)] (HQ n z g H) = some (none, HQ n z g' H) ∧ (∀ a, a ≠ q → a ≠ q + 1 → g' a = g a) ∧ RKS g' q r := by
  obtain ⟨t0, t1, t2, r1, r2⟩ := hO
  obtain ⟨hall, hcod⟩ := all_code r3 r4
  have hm24 := ordMany_le (n := r) (by omega)
  have hcodes : r ^ r < 1000 := by rcases (by omega : r = 3 ∨ r = 4) with rfl | rfl <;> decide
  have hz0r : (nI r = 0) = False := by rw [nIk0 (by omega)]; exact eq_false (by omega)
  have hzr : (nI r ≤ 0) = False := by rw [nIle0 (by omega)]; exact eq_false (by omega)
  have hseen : ∀ c k, k ≤ r → sA r c k < 2147483648 := by
    intro c k hk
    have : ∀ k, k ≤ r → sA r c k < 2 ^ r := by
      intro k
      induction k with
      | zero => intro _; exact Nat.two_pow_pos r
      | succ k ih =>
        intro h
        have hlt := Nat.mod_lt (c / r ^ k) (show 0 < r by omega)
        refine Nat.or_lt_two_pow (ih (by omega)) ?_
        rw [Nat.one_shiftLeft]
        exact Nat.pow_lt_pow_right (by omega) hlt
    have h2 := this k hk
    have : 2 ^ r ≤ 2 ^ 4 := Nat.pow_le_pow_right (by omega) r4
    omega
  -- done: the ranks stand
  have done : ∀ (g' : GG) (c : Nat), (∀ a, a ≠ q → a ≠ q + 1 → g' a = g a) → g' q 0 = nI (cV r c) → cV r c = ordMany r → (∀ d, d < c → vA r d = true → ∀ x, x < r → g' (q + 1) (6 * cV r d + x) = nI (pA r d x r)) → (∀ k x, r ≤ x → x < 6 → g' (q + 1) (6 * k + x) = nI 0) → ∃ g'', some (none, HQ n z g' H) = some ((none : Option Value), HQ n z g'' H) ∧ (∀ a, a ≠ q → a ≠ q + 1 → g'' a = g a) ∧ RKS g'' q r := by
    intro g' c h1 h2 h3 h4 h5
    refine ⟨g', rfl, h1, by rw [h2, h3], fun k hk x hx => ?_⟩
    by_cases e : x < r
    · rw [if_pos e]
      obtain ⟨d, d1, d2, d3, d4⟩ := hcod k hk
      have hdc : d < c := by
        apply Nat.lt_of_not_le
        intro w
        have := cV_mono r (d - c) c
        rw [show c + (d - c) = d by omega] at this
        omega
      have := h4 d hdc d2 x e
      rw [d3, d4 x e] at this
      exact this
    · rw [if_neg e]; exact h5 k x (by omega) hx
  have outer : ∃ g', kl_X3_makeAll_21 [.ref q, .int (nI r), .int (nI (r ^ r)), .int (nI 0)] [] (HQ n z g H) = some (none, HQ n z g' H) ∧ (∀ a, a ≠ q → a ≠ q + 1 → g' a = g a) ∧ RKS g' q r := by
    unfold kl_X3_makeAll_21
    refine kFor (r ^ r) (by unfold FU; omega) (fun c ls h => ∃ (g' : GG) (u : List Value), ls = [.ref q, .int (nI r), .int (nI (r ^ r)), .int (nI c)] ++ u ∧ h = HQ n z g' H ∧ (∀ a, a ≠ q → a ≠ q + 1 → g' a = g a) ∧ g' q 0 = nI (cV r c) ∧ cV r c ≤ 24 ∧ (∀ d, d < c → vA r d = true → ∀ x, x < r → g' (q + 1) (6 * cV r d + x) = nI (pA r d x r)) ∧ ∀ k x, r ≤ x → x < 6 → g' (q + 1) (6 * k + x) = nI 0) (fun r' => ∃ g', r' = some (none, HQ n z g' H) ∧ (∀ a, a ≠ q → a ≠ q + 1 → g' a = g a) ∧ RKS g' q r) ?_ ?_ 0 _ _ (by omega) ⟨g, [], rfl, rfl, fun _ _ _ => rfl, hz0, Nat.zero_le _, fun d hd => absurd hd (Nat.not_lt_zero _), fun k x _ _ => hz _⟩
    · rintro s ls h ⟨g', u, rfl, rfl, h1, h2, h3, h4, h5⟩
      have hin : (r ^ r ≤ r ^ r) = True := eq_true (Nat.le_refl _)
      simp (disch := first | assumption | omega) only [kb_X3_makeAll_137, KL, KB, KC, KI, KJ, KZ, bI_0, bI_n, nI00, nI10, ne_eq, Classical.not_not, not_true_eq_false, not_false_eq_true, if_true, if_false, ite_not, ite_self, Bool.false_eq_true, nIne1, List.cons_append, List.nil_append, kMask, mask, mask_n, nIle, hin]
      exact done g' (r ^ r) h1 h2 hall h4 h5
    · rintro s c hc ih ls h ⟨g', u, rfl, rfl, h1, h2, h3, h4, h5⟩
      have hin : (r ^ r ≤ c) = False := eq_false (by omega)
      have gi := fun (k : KK) (ls st : List Value) (g : GG) => Q_gi (n := n) (z := z) (g := g) (H := H) (ci := 3) (N := 3) (kx := 0) (show q < n by omega) t0 k ls st
      by_cases h24 : 24 ≤ cV r c
      · have h24' : (24 ≤ cV r c) = True := eq_true h24
        have e24 : cV r c = ordMany r := by
          have := cV_mono r (r ^ r - c) c
          rw [show c + (r ^ r - c) = r ^ r by omega, hall] at this
          omega
        simp (disch := first | assumption | omega) only [kb_X3_makeAll_137, KL, KB, KC, KI, KJ, KZ, bI_0, bI_n, nI00, nI10, ne_eq, Classical.not_not, not_true_eq_false, not_false_eq_true, if_true, if_false, ite_not, ite_self, Bool.false_eq_true, nIne1, List.cons_append, List.nil_append, kMask, mask, mask_n, nIle, hin, gi, h2, h24']
        exact done g' c h1 h2 e24 h4 h5
      · have h24' : (24 ≤ cV r c) = False := eq_false h24
        generalize hmny : cV r c = mny at *
        -- what follows when the code's digits are through
        have fin : ∀ u : List Value, (fun r' => ∃ g', r' = some (none, HQ n z g' H) ∧ (∀ a, a ≠ q → a ≠ q + 1 → g' a = g a) ∧ RKS g' q r) (s ([.ref q, .int (nI r), .int (nI (r ^ r)), .int (nI (c + 1))] ++ u) [] (HQ n z (if vA r c = true then upd2 (gA g' q r c mny r) q 0 (nI (mny + 1)) else gA g' q r c mny r) H)) := by
          intro u
          have hcs : cV r (c + 1) = if vA r c = true then mny + 1 else mny := by
            show cntN (vA r) c + (if vA r c = true then 1 else 0) = _
            have : cntN (vA r) c = mny := hmny
            rw [this]
            split <;> omega
          have hcell : ∀ a i, a ≠ q → (if vA r c = true then upd2 (gA g' q r c mny r) q 0 (nI (mny + 1)) else gA g' q r c mny r) a i = gA g' q r c mny r a i := fun a i ha => by
            split
            · rw [uN ha]
            · rfl
          refine ih _ _ ⟨_, u, rfl, rfl, fun a a1 a2 => ?_, ?_, ?_, fun d hd hv x hx => ?_, fun k x k1 k2 => ?_⟩
          · funext i
            rw [hcell a i a1, gA_ne _ _ _ _ _ _ a2]
            rw [h1 a a1 a2]
          · rw [hcs]
            split
            · exact uS
            · rw [gA_ne _ _ _ _ _ _ (by omega)]; exact h2
          · rw [hcs]; split <;> omega
          · rw [hcell _ _ (by omega)]
            by_cases e : d = c
            · subst e
              have hs := of_decide_eq_true hv
              rw [hmny, show 6 * mny + x = mny * 6 + x by omega]
              exact gA_in g' q r d mny x (by omega) (by omega) (by omega) r (by rw [hs]; exact bit_all hx)
            · have hlt : cV r d < mny := by
                have e1 : cV r (d + 1) = cV r d + 1 := by show cntN (vA r) d + (if vA r d = true then 1 else 0) = _; rw [if_pos hv]; rfl
                have := cV_mono r (c - (d + 1)) (d + 1)
                rw [show d + 1 + (c - (d + 1)) = c by omega, hmny] at this
                omega
              rw [gA_o _ _ _ _ _ _ (by omega) (by omega)]
              exact h4 d (by omega) hv x hx
          · rw [hcell _ _ (by omega), gA_o _ _ _ _ _ _ (by omega) (by omega)]
            exact h5 k x k1 k2
        have inn : (fun r' => ∃ g', r' = some (none, HQ n z g' H) ∧ (∀ a, a ≠ q → a ≠ q + 1 → g' a = g a) ∧ RKS g' q r) (kl_X3_makeAll_46 s [.ref q, .int (nI r), .int (nI (r ^ r)), .int (nI c), .int (nI c), .int (nI 0), .int (nI r - nI 1)] [] (HQ n z g' H)) := by
          unfold kl_X3_makeAll_46
          refine kFor r (by unfold FU; omega) (fun k ls h => ∃ (u : List Value), ls = [.ref q, .int (nI r), .int (nI (r ^ r)), .int (nI c), .int (nI (c / r ^ k)), .int (nI (sA r c k)), .int (nI (r - k) - nI 1)] ++ u ∧ h = HQ n z (gA g' q r c mny k) H) (fun r' => ∃ g', r' = some (none, HQ n z g' H) ∧ (∀ a, a ≠ q → a ≠ q + 1 → g' a = g a) ∧ RKS g' q r) ?_ ?_ 0 _ _ (by omega) ⟨[], by rw [Nat.pow_zero, Nat.div_one, Nat.sub_zero]; rfl, rfl⟩
          · rintro s1 ls h ⟨u, rfl, rfl⟩
            have hneg : (nI (r - r) - nI 1 < 0) = True := by rw [Nat.sub_self]; exact eq_true (by decide)
            have hs31 := hseen c r (Nat.le_refl _)
            have h2r : (1 <<< r : Nat) = 2 ^ r := Nat.one_shiftLeft r
            have h2p : 1 ≤ 2 ^ r := Nat.two_pow_pos r
            have h2s : 2 ^ r ≤ 2 ^ 4 := Nat.pow_le_pow_right (by omega) r4
            have r32 : r < 32 := by omega
            have hf := fin [.int (nI (c / r ^ r)), .int (nI (sA r c r)), .int (nI (r - r) - nI 1)]
            have pi := fun (k : KK) (ls st : List Value) (v : Int32) => Q_pi (n := n) (z := z) (g := gA g' q r c mny r) (H := H) (x := v) (ci := 3) (N := 3) (kx := 0) (show q < n by omega) t0 k ls st
            have hgm : gA g' q r c mny r q 0 = nI mny := by rw [gA_ne _ _ _ _ _ _ (by omega)]; exact h2
            by_cases hv : vA r c = true
            · rw [if_pos hv] at hf
              have hs := of_decide_eq_true hv
              have hq' : (sA r c r = 2 ^ r - 1) = True := eq_true hs
              simp only [List.cons_append, List.nil_append] at hf
              simp (disch := first | assumption | omega) only [kb_X3_makeAll_131, KL, KB, KC, KI, KJ, KZ, bI_0, bI_n, nI00, nI10, ne_eq, Classical.not_not, not_true_eq_false, not_false_eq_true, if_true, if_false, ite_not, ite_self, Bool.false_eq_true, nIne1, List.cons_append, List.nil_append, kMask, mask, mask_n, hneg, nI_shl, h2r, nI_sub, nIeq, hq', gi, hgm, nI_add, pi]
              exact hf
            · rw [if_neg hv] at hf
              have hq' : (sA r c r = 2 ^ r - 1) = False := eq_false (fun e => hv (decide_eq_true e))
              simp only [List.cons_append, List.nil_append] at hf
              simp (disch := first | assumption | omega) only [kb_X3_makeAll_131, KL, KB, KC, KI, KJ, KZ, bI_0, bI_n, nI00, nI10, ne_eq, Classical.not_not, not_true_eq_false, not_false_eq_true, if_true, if_false, ite_not, ite_self, Bool.false_eq_true, nIne1, List.cons_append, List.nil_append, kMask, mask, mask_n, hneg, nI_shl, h2r, nI_sub, nIeq, hq', nI_add]
              exact hf
          · rintro s1 k hk ih2 ls h ⟨u, rfl, rfl⟩
            have hpl : nI (r - k) - nI 1 = nI (r - 1 - k) := by rw [nI_sub (by omega), show r - k - 1 = r - 1 - k by omega]
            have hneg : (nI (r - 1 - k) < 0) = False := nIlt0 (by omega)
            have hdec : nI (r - 1 - k) + -1 = nI (r - (k + 1)) - nI 1 := by
              rw [show r - (k + 1) = r - 1 - k by omega, Int32.sub_eq_add_neg]
              rfl
            have hc1 : c / r ^ k < 1000 := Nat.lt_of_le_of_lt (Nat.div_le_self _ _) (by omega)
            have hlt := Nat.mod_lt (c / r ^ k) (show 0 < r by omega)
            have hs31 := hseen c k (by omega)
            have hd : ∀ a b : Nat, a < 1000 → b < 1000 → nI a / nI b = nI (a / b) := fun a b ha hb => nI_div a b (by omega) (by omega)
            have hm6 : nI mny * nI 6 = nI (mny * 6) := nI_mul mny 6
            have gr := fun (k' : KK) (ls st : List Value) => Q_gr (n := n) (z := z) (g := gA g' q r c mny k) (ci := 3) (N := 3) (show q < n by omega) t0 m1 r1 k' ls st
            have hgm : gA g' q r c mny k q 0 = nI mny := by rw [gA_ne _ _ _ _ _ _ (by omega)]; exact h2
            have ia := fun (k' : KK) (ls st : List Value) (v : Int32) => Q_ias (n := n) (z := z) (g := gA g' q r c mny k) (H := H) (a := q + 1) (i := mny * 6 + c / r ^ k % r) (x := v) (by omega) t1 (by decide) (by omega) k' ls st
            have sh : nI 1 <<< (nI (c / r ^ k % r) &&& 31) = nI (1 <<< (c / r ^ k % r)) := nI_shl 1 _ (by omega)
            rw [hpl]
            simp (disch := first | assumption | omega) only [kb_X3_makeAll_63, kb_X3_makeAll_77, KL, KB, KC, KI, KJ, KZ, bI_0, bI_n, nI00, nI10, ne_eq, Classical.not_not, not_true_eq_false, not_false_eq_true, if_true, if_false, ite_not, ite_self, Bool.false_eq_true, nIne1, List.cons_append, List.nil_append, kMask, mask, mask_n, hneg, hzr, hz0r, hd, nI_rem2, sh, nI_or, gr, gi, hgm, hm6, nI_add, ia, hdec]
            refine ih2 _ _ ⟨[.int (nI (c / r ^ k % r))], ?_, rfl⟩
            rw [Nat.pow_succ, ← Nat.div_div_eq_div_mul]
            rfl
        have hr1 : nI r - nI 1 = nI r - nI 1 := rfl
        simp (disch := first | assumption | omega) only [KL, KB, KC, KI, KJ, KZ, bI_0, bI_n, nI00, nI10, ne_eq, Classical.not_not, not_true_eq_false, not_false_eq_true, if_true, if_false, ite_not, ite_self, Bool.false_eq_true, nIne1, List.cons_append, List.nil_append, kMask, mask, mask_n, nIle, hin, gi, h2, h24']
        exact inn
  have codes : ∃ g', kl_X3_makeAll_4 [.ref q, .int (nI r), .int (nI 1), .int (nI 0)] [] (HQ n z g H) = some (none, HQ n z g' H) ∧ (∀ a, a ≠ q → a ≠ q + 1 → g' a = g a) ∧ RKS g' q r := by
    unfold kl_X3_makeAll_4
    refine kFor r (by unfold FU; omega) (fun i ls h => ls = [.ref q, .int (nI r), .int (nI (r ^ i)), .int (nI i)] ∧ h = HQ n z g H) (fun r' => ∃ g', r' = some (none, HQ n z g' H) ∧ (∀ a, a ≠ q → a ≠ q + 1 → g' a = g a) ∧ RKS g' q r) ?_ ?_ 0 _ _ (by omega) ⟨rfl, rfl⟩
    · rintro s ls h ⟨rfl, rfl⟩
      have hin : (r ≤ r) = True := eq_true (by omega)
      simp (disch := first | assumption | omega) only [KL, KB, KC, KI, KJ, KZ, bI_0, bI_n, nI00, nI10, ne_eq, Classical.not_not, not_true_eq_false, not_false_eq_true, if_true, if_false, ite_not, ite_self, Bool.false_eq_true, nIne1, kMask, mask, mask_n, nIle, hin]
      exact outer
    · rintro s i hi ih ls h ⟨rfl, rfl⟩
      have hin : (r ≤ i) = False := eq_false (by omega)
      simp (disch := first | assumption | omega) only [KL, KB, KC, KI, KJ, KZ, bI_0, bI_n, nI00, nI10, ne_eq, Classical.not_not, not_true_eq_false, not_false_eq_true, if_true, if_false, ite_not, ite_self, Bool.false_eq_true, nIne1, kMask, mask, mask_n, nIle, hin, nI_mul, nI_add]
      exact ih _ _ ⟨by rw [Nat.pow_succ], rfl⟩
  obtain ⟨g', e, w⟩ := codes
  refine ⟨g', ?_, w⟩
  rw [← e]
  simp (disch := first | assumption | omega) only [f_X3_makeAll, kb_X3_makeAll_0, KL, KB, KC, KI, KJ, KZ, bI_0, bI_n, nI00, nI10, ne_eq, Classical.not_not, not_true_eq_false, not_false_eq_true, if_true, if_false, ite_not, ite_self, Bool.false_eq_true, nIne1]
