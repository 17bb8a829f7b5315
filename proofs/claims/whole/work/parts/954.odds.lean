-- ===== odds: the class =====
theorem pop3 (x : Nat) : popN (x &&& 3) = bN (x.testBit 0) + bN (x.testBit 1) := by
  have h0 : (x &&& 3).testBit 0 = x.testBit 0 := by rw [Nat.testBit_and, show Nat.testBit 3 0 = true from rfl, Bool.and_true]
  have h1 : (x &&& 3).testBit 1 = x.testBit 1 := by rw [Nat.testBit_and, show Nat.testBit 3 1 = true from rfl, Bool.and_true]
  rw [← h0, ← h1]
  have h4 : x &&& 3 < 4 := by
    have : x &&& 3 ≤ 3 := Nat.and_le_right
    omega
  generalize x &&& 3 = z at *
  rcases (by omega : z = 0 ∨ z = 1 ∨ z = 2 ∨ z = 3) with rfl | rfl | rfl | rfl <;> decide
/-- the states of the other roads that have none of these slots -/
def lfN (co : Nat → List Goods) (S r : Nat) : Nat := (co r).length + 1 - popN ((S >>> (2 * r)) &&& 3)
def swN (co : Nat → List Goods) (n road S : Nat) : Nat := prdN (fun r => if r = road then 1 else lfN co S r) n
theorem pop_slots {co : Nat → List Goods} {S : Nat} (hlen : ∀ r, (co r).length ≤ 2) (hS : ∀ y, S.testBit y = true → thB co y = true) (r : Nat) : popN ((S >>> (2 * r)) &&& 3) ≤ (co r).length := by
  rw [pop3, Nat.testBit_shiftRight, Nat.testBit_shiftRight]
  have h2 := hlen r
  have f0 : S.testBit (2 * r + 0) = true → 0 < (co r).length := fun h => by
    have := of_decide_eq_true (hS _ h)
    rw [show (2 * r + 0) / 2 = r by omega] at this
    omega
  have f1 : S.testBit (2 * r + 1) = true → 1 < (co r).length := fun h => by
    have := of_decide_eq_true (hS _ h)
    rw [show (2 * r + 1) / 2 = r by omega] at this
    omega
  cases e0 : S.testBit (2 * r + 0) <;> cases e1 : S.testBit (2 * r + 1)
  · exact Nat.zero_le _
  · have := f1 e1
    show 0 + 1 ≤ _; omega
  · have := f0 e0
    show 1 + 0 ≤ _; omega
  · have := f1 e1
    show 1 + 1 ≤ _; omega
theorem c_statesWithout {X n a S : Nat} {co : Nat → List Goods} {g : GG} {o : Nat} (hX : isX X) (n6 : n ≤ 6) (hC : CO X n co g) (hlen : ∀ r, (co r).length ≤ 2) (ha : a < 6) (hS12 : S < 4096) (hS : ∀ y, S.testBit y = true → thB co y = true) : f_X0_statesWithout [.ref 164, .int (nI a), .int (nI S)] (hp g X o) = some (some (.int (nI (swN co n a S))), hp g X o) := by
  have key : kl_X0_statesWithout_5 [.ref 164, .int (nI a), .int (nI S), .int (nI 1), .int (nI 0)] [] (hp g X o) = some (some (.int (nI (swN co n a S))), hp g X o) := by
    have en := hC.1
    unfold kl_X0_statesWithout_5
    refine kFor n (by unfold FU; omega) (fun i ls h => ls = [.ref 164, .int (nI a), .int (nI S), .int (nI (swN co i a S)), .int (nI i)] ∧ h = hp g X o) (fun r => r = some (some (.int (nI (swN co n a S))), hp g X o)) ?_ ?_ 0 _ _ (by omega) ⟨rfl, rfl⟩
    · rintro s0 ls h ⟨rfl, rfl⟩
      have hin : (n ≤ n) = True := eq_true (by omega)
      simp (disch := first | assumption | omega) only [KL, KB, KC, KI, KJ, KZ, bI_0, bI_n, nI00, nI10, ne_eq, Classical.not_not, not_true_eq_false, not_false_eq_true, if_true, if_false, ite_not, ite_self, Bool.false_eq_true, nIne1, kMask, mask, O_co, XO, en, nIle, hin]
    · rintro s0 i hi ih ls h ⟨rfl, rfl⟩
      have hin : (n ≤ i) = False := eq_false (by omega)
      have i6 : i < 6 := by omega
      have el : g (X + 4) i = nI (co i).length := (hC.2 i i6).2.2.2.1
      by_cases h1 : i = a
      · have hq : (nI i = nI a) = True := eq_true (by rw [h1])
        have hs : swN co (i + 1) a S = swN co i a S := by show swN co i a S * (if i = a then 1 else _) = _; rw [if_pos h1, Nat.mul_one]
        simp (disch := first | assumption | omega) only [kb_X0_statesWithout_50, KL, KB, KC, KI, KJ, KZ, bI_0, bI_n, nI00, nI10, ne_eq, Classical.not_not, not_true_eq_false, not_false_eq_true, if_true, if_false, ite_not, ite_self, Bool.false_eq_true, nIne1, kMask, mask, O_co, XO, en, nIle, hin, hq, nI_add]
        exact ih _ _ ⟨by rw [hs], rfl⟩
      · have hq : (nI i = nI a) = False := by rw [nIeq (by omega) (by omega)]; exact eq_false h1
        have hs : swN co (i + 1) a S = swN co i a S * lfN co S i := by show swN co i a S * (if i = a then 1 else _) = _; rw [if_neg h1]
        have hp3 := pop_slots hlen hS i
        have h3 : (S >>> (2 * i)) &&& 3 < 4096 := by
          have : (S >>> (2 * i)) &&& 3 ≤ 3 := Nat.and_le_right
          omega
        have hbc := fun h => c_bitCount ((S >>> (2 * i)) &&& 3) h3 h
        have hlf : nI ((co i).length + 1) - nI (popN ((S >>> (2 * i)) &&& 3)) = nI (lfN co S i) := nI_sub (by omega)
        simp (disch := first | assumption | omega) only [kb_X0_statesWithout_50, KL, KB, KC, KI, KJ, KZ, bI_0, bI_n, nI00, nI10, ne_eq, Classical.not_not, not_true_eq_false, not_false_eq_true, if_true, if_false, ite_not, ite_self, Bool.false_eq_true, nIne1, kMask, mask, O_co, XO, AR, en, el, nIle, hin, hq, nI_mul, nI_shr, nI_and, hbc, nI_add, hlf]
        exact ih _ _ ⟨by rw [hs], rfl⟩
  rw [← key]
  simp (disch := first | assumption | omega) only [f_X0_statesWithout, kb_X0_statesWithout_0, KL, KB, KC, KI, KJ, KZ, bI_0, bI_n, nI00, nI10, ne_eq, Classical.not_not, not_true_eq_false, not_false_eq_true, if_true, if_false, ite_not, ite_self, Bool.false_eq_true, nIne1]
theorem awS_th {n k x : Nat} {co : Nat → List Goods} {V : Nat → Nat → Bool → Bool} : ∀ y, (awS n k co V x).testBit y = true → thB co y = true := fun y h => by
  unfold awS at h
  rw [setN_bit, Bool.and_eq_true, Bool.and_eq_true] at h
  exact (ftB_th h.2.1).2.1
def goneN (n : Nat) (co : Nat → List Goods) (V : Nat → Nat → Bool → Bool) (road : Nat) : Nat := sumN (fun i => sumN (fun k => swN co n road (awS n k co V (2 * road + i))) (ordMany n)) (co road).length
def allN (n : Nat) (co : Nat → List Goods) (road : Nat) : Nat := (co road).length * stB co n road road * ordMany n
theorem c_oddsOf {X n road : Nat} {co : Nat → List Goods} {V : Nat → Nat → Bool → Bool} {g : GG} (hX : isX X) (n3 : 3 ≤ n) (n6 : n ≤ 6) (hC : CO X n co g) (hlen : ∀ r, (co r).length ≤ 2) (hO : ORD g) (hS : STL co V g) (hr : road < n) (h1 : 0 < allN n co road) (h2 : allN n co road < 100000) (h3 : goneN n co V road ≤ allN n co road) : f_X0_oddsOf [.ref 164, .int (nI road)] (hp g X (OO n)) = some (some (.int (nI (1000 * (allN n co road - goneN n co V road) / allN n co road))), hp g X (OO n)) := by
  obtain ⟨o1, o2, o3, o4⟩ := OO_obj n3 n6
  have gi0 : ∀ (k : KK) (ls st : List Value), kGetI 3 3 0 k ls (.ref (OO n) :: st) (hp g X (OO n)) = k ls (.int (g (OO n) 0) :: st) (hp g X (OO n)) := fun k ls st => gi_at o1 k ls st
  have eo := OO_many n3 n6 hO
  have hm24 := ordMany_le (n := n) n6
  have el : g (X + 4) road = nI (co road).length := (hC.2 road (by omega)).2.2.2.1
  have r6 : road < 6 := by omega
  have l2 := hlen road
  have hth : ∀ x, x < 12 → thB co x = true → x / 2 < n := fun x hx tx => (thB_lt hC hx tx).1
  have est := c_statesBut (o := OO n) hX n6 hC r6 r6
  have key : kl_X0_oddsOf_30 [.ref 164, .int (nI road), .int (nI (allN n co road)), .int (nI 0), .int (nI 0)] [] (hp g X (OO n)) = some (some (.int (nI (1000 * (allN n co road - goneN n co V road) / allN n co road))), hp g X (OO n)) := by
    unfold kl_X0_oddsOf_30
    refine kFor (co road).length (by unfold FU; omega) (fun i ls h => ∃ u : List Value, ls = [.ref 164, .int (nI road), .int (nI (allN n co road)), .int (nI (sumN (fun i => sumN (fun k => swN co n road (awS n k co V (2 * road + i))) (ordMany n)) i)), .int (nI i)] ++ u ∧ h = hp g X (OO n)) (fun r => r = some (some (.int (nI (1000 * (allN n co road - goneN n co V road) / allN n co road))), hp g X (OO n))) ?_ ?_ 0 _ _ (by omega) ⟨[], rfl, rfl⟩
    · rintro s0 ls h ⟨u, rfl, rfl⟩
      have hin : ((co road).length ≤ (co road).length) = True := eq_true (by omega)
      have hle : (nI (allN n co road) ≤ 0) = False := by rw [nIle0 (by omega)]; exact eq_false (by omega)
      have hz : (nI (allN n co road) = 0) = False := by rw [nIk0 (by omega)]; exact eq_false (by omega)
      have hsub : nI (allN n co road) - nI (sumN (fun i => sumN (fun k => swN co n road (awS n k co V (2 * road + i))) (ordMany n)) (co road).length) = nI (allN n co road - goneN n co V road) := nI_sub h3
      generalize goneN n co V road = G at *
      generalize allN n co road = A at *
      simp (disch := first | assumption | omega) only [kb_X0_oddsOf_108, KL, KB, KC, KI, KJ, KZ, bI_0, bI_n, nI00, nI10, ne_eq, Classical.not_not, not_true_eq_false, not_false_eq_true, if_true, if_false, ite_not, ite_self, Bool.false_eq_true, nIne1, List.cons_append, List.nil_append, kMask, mask, mask_n, O_co, XO, AR, el, nIle, hin, hle, hz, hsub, nI_mul, nI_div]
    · rintro s0 i hi ih ls h ⟨u, rfl, rfl⟩
      have hin : ((co road).length ≤ i) = False := eq_false (by omega)
      have inn : (fun r => r = some (some (.int (nI (1000 * (allN n co road - goneN n co V road) / allN n co road))), hp g X (OO n))) (kl_X0_oddsOf_47 s0 [.ref 164, .int (nI road), .int (nI (allN n co road)), .int (nI (sumN (fun i => sumN (fun k => swN co n road (awS n k co V (2 * road + i))) (ordMany n)) i)), .int (nI i), .int (nI 0)] [] (hp g X (OO n))) := by
        unfold kl_X0_oddsOf_47
        refine kFor (ordMany n) (by unfold FU; omega) (fun k ls h => ls = [.ref 164, .int (nI road), .int (nI (allN n co road)), .int (nI (sumN (fun i => sumN (fun k => swN co n road (awS n k co V (2 * road + i))) (ordMany n)) i + sumN (fun k => swN co n road (awS n k co V (2 * road + i))) k)), .int (nI i), .int (nI k)] ∧ h = hp g X (OO n)) (fun r => r = some (some (.int (nI (1000 * (allN n co road - goneN n co V road) / allN n co road))), hp g X (OO n))) ?_ ?_ 0 _ _ (by omega) ⟨rfl, rfl⟩
        · rintro s1 ls h ⟨rfl, rfl⟩
          have hin : (ordMany n ≤ ordMany n) = True := eq_true (by omega)
          have := ih [.ref 164, .int (nI road), .int (nI (allN n co road)), .int (nI (sumN (fun i => sumN (fun k => swN co n road (awS n k co V (2 * road + i))) (ordMany n)) (i + 1))), .int (nI (i + 1)), .int (nI (ordMany n))] (hp g X (OO n)) ⟨[.int (nI (ordMany n))], rfl, rfl⟩
          simp (disch := first | assumption | omega) only [KL, KB, KC, KI, KJ, KZ, bI_0, bI_n, nI00, nI10, ne_eq, Classical.not_not, not_true_eq_false, not_false_eq_true, if_true, if_false, ite_not, ite_self, Bool.false_eq_true, nIne1, List.cons_append, List.nil_append, kMask, mask, mask_n, O_co, gi0, eo, nIle, hin, nI_add]
          exact this
        · rintro s1 k hk ih2 ls h ⟨rfl, rfl⟩
          have hin : (ordMany n ≤ k) = False := eq_false (by omega)
          have ea := c_awaited (X := X) n3 n6 hO hS hth (2 * road + i) k (by omega) hk
          have ew := c_statesWithout (o := OO n) (S := awS n k co V (2 * road + i)) hX n6 hC hlen r6 (setN_lt12 _) awS_th
          simp (disch := first | assumption | omega) only [KL, KB, KC, KI, KJ, KZ, bI_0, bI_n, nI00, nI10, ne_eq, Classical.not_not, not_true_eq_false, not_false_eq_true, if_true, if_false, ite_not, ite_self, Bool.false_eq_true, nIne1, List.cons_append, List.nil_append, kMask, mask, mask_n, O_co, gi0, eo, nIle, hin, nI_mul, nI_add, ea, ew]
          exact ih2 _ _ ⟨by rw [Nat.add_assoc]; rfl, rfl⟩
      simp (disch := first | assumption | omega) only [KL, KB, KC, KI, KJ, KZ, bI_0, bI_n, nI00, nI10, ne_eq, Classical.not_not, not_true_eq_false, not_false_eq_true, if_true, if_false, ite_not, ite_self, Bool.false_eq_true, nIne1, List.cons_append, List.nil_append, kMask, mask, mask_n, O_co, XO, AR, el, nIle, hin]
      exact inn
  rw [← key]
  simp (disch := first | assumption | omega) only [f_X0_oddsOf, kb_X0_oddsOf_0, KL, KB, KC, KI, KJ, KZ, bI_0, bI_n, nI00, nI10, ne_eq, Classical.not_not, not_true_eq_false, not_false_eq_true, if_true, if_false, ite_not, ite_self, Bool.false_eq_true, nIne1, O_co, XO, AR, el, est, gi0, eo, nI_mul]
  rfl
