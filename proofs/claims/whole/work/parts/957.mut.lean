-- ===== mutual: the counting; the class =====
def mqB (n : Nat) (co : Nat → List Goods) (V : Nat → Nat → Bool → Bool) (k a b : Nat) : Bool := (awS n k co V a).testBit b && (awS n k co V b).testBit a
def mF (n : Nat) (co : Nat → List Goods) (V : Nat → Nat → Bool → Bool) (a b : Nat) : Nat := sumN (fun k => bN (mqB n co V k a b)) (ordMany n) * stB co n (a / 2) (b / 2)
theorem mqB_ft {n k a b : Nat} {co : Nat → List Goods} {V : Nat → Nat → Bool → Bool} (h : mqB n co V k a b = true) : ftB co a b = true := by
  unfold mqB awS at h
  rw [Bool.and_eq_true, setN_bit, Bool.and_eq_true, Bool.and_eq_true] at h
  exact h.1.2.1
theorem mF_zero {n a b : Nat} {co : Nat → List Goods} {V : Nat → Nat → Bool → Bool} (h : ftB co a b = false) : mF n co V a b = 0 := by
  unfold mF
  rw [sumN_zero _ (fun k _ => by
    cases e : mqB n co V k a b with
    | false => rfl
    | true => rw [mqB_ft e] at h; cases h), Nat.zero_mul]
theorem mF_sym (n a b : Nat) (co : Nat → List Goods) (V : Nat → Nat → Bool → Bool) : mF n co V a b = mF n co V b a := by
  unfold mF
  congr 1
  · exact sumN_congr _ (fun k _ => by unfold mqB; rw [Bool.and_comm])
  · exact prdN_congr _ (fun r _ => by
      by_cases h1 : r = a / 2
      · rw [if_pos (Or.inl h1), if_pos (Or.inr h1)]
      · by_cases h2 : r = b / 2
        · rw [if_pos (Or.inr h2), if_pos (Or.inl h2)]
        · rw [if_neg (by omega), if_neg (by omega)])
theorem sumN_ext {f : Nat → Nat} {a b : Nat} (hab : a ≤ b) (h : ∀ i, a ≤ i → i < b → f i = 0) : sumN f a = sumN f b := by
  obtain ⟨c, rfl⟩ : ∃ c, b = a + c := ⟨b - a, by omega⟩
  rw [sumN_split, sumN_zero (f := fun i => f (a + i)) c (fun i hi => h (a + i) (by omega) (by omega)), Nat.add_zero]
/-- the class's sum -/
def mutC (n : Nat) (co : Nat → List Goods) (V : Nat → Nat → Bool → Bool) : Nat := sumN (fun a => sumN (fun b => if a < b then mF n co V a b else 0) 12) 12
theorem c_mutualOrders {X n : Nat} {co : Nat → List Goods} {V : Nat → Nat → Bool → Bool} {g : GG} (n3 : 3 ≤ n) (n6 : n ≤ 6) (hO : ORD g) (hS : STL co V g) (hth : ∀ x, x < 12 → thB co x = true → x / 2 < n) (x y : Nat) (hx : x < 12) (hy : y < 12) : f_X0_mutualOrders [.ref 164, .int (nI x), .int (nI y)] (hp g X (OO n)) = some (some (.int (nI (sumN (fun k => bN (mqB n co V k x y)) (ordMany n)))), hp g X (OO n)) := by
  obtain ⟨o1, o2, o3, o4⟩ := OO_obj n3 n6
  have gi0 : ∀ (k : KK) (ls st : List Value), kGetI 3 3 0 k ls (.ref (OO n) :: st) (hp g X (OO n)) = k ls (.int (g (OO n) 0) :: st) (hp g X (OO n)) := fun k ls st => gi_at o1 k ls st
  have eo := OO_many n3 n6 hO
  have hm24 := ordMany_le (n := n) n6
  have key : kl_X0_mutualOrders_5 [.ref 164, .int (nI x), .int (nI y), .int (nI 0), .int (nI 0)] [] (hp g X (OO n)) = some (some (.int (nI (sumN (fun k => bN (mqB n co V k x y)) (ordMany n)))), hp g X (OO n)) := by
    unfold kl_X0_mutualOrders_5
    refine kFor (ordMany n) (by unfold FU; omega) (fun k ls h => ls = [.ref 164, .int (nI x), .int (nI y), .int (nI (sumN (fun k => bN (mqB n co V k x y)) k)), .int (nI k)] ∧ h = hp g X (OO n)) (fun r => r = some (some (.int (nI (sumN (fun k => bN (mqB n co V k x y)) (ordMany n)))), hp g X (OO n))) ?_ ?_ 0 _ _ (by omega) ⟨rfl, rfl⟩
    · rintro s0 ls h ⟨rfl, rfl⟩
      have hin : (ordMany n ≤ ordMany n) = True := eq_true (by omega)
      simp (disch := first | assumption | omega) only [KL, KB, KC, KI, KJ, KZ, bI_0, bI_n, nI00, nI10, ne_eq, Classical.not_not, not_true_eq_false, not_false_eq_true, if_true, if_false, ite_not, ite_self, Bool.false_eq_true, nIne1, kMask, mask, mask_n, O_co, gi0, eo, nIle, hin]
    · rintro s0 k hk ih ls h ⟨rfl, rfl⟩
      have hin : (ordMany n ≤ k) = False := eq_false (by omega)
      have ea := c_awaited (X := X) n3 n6 hO hS hth x k hx hk
      have eb := c_awaited (X := X) n3 n6 hO hS hth y k hy hk
      have ha12 : awS n k co V x < 4096 := setN_lt12 _
      have hb12 : awS n k co V y < 4096 := setN_lt12 _
      have hb : (nI ((awS n k co V x >>> y &&& awS n k co V y >>> x) &&& 1) = 0) = (mqB n co V k x y = false) := by
        rw [bit0, Nat.testBit_and, Nat.testBit_shiftRight, Nat.testBit_shiftRight, Nat.add_zero, Nat.add_zero]; rfl
      have hss : sumN (fun k => bN (mqB n co V k x y)) (k + 1) = sumN (fun k => bN (mqB n co V k x y)) k + bN (mqB n co V k x y) := rfl
      cases hq : mqB n co V k x y with
      | false =>
        have hq' : (mqB n co V k x y = false) = True := eq_true hq
        rw [hq] at hss
        simp (disch := first | assumption | omega) only [kb_X0_mutualOrders_44, KL, KB, KC, KI, KJ, KZ, bI_0, bI_n, nI00, nI10, ne_eq, Classical.not_not, not_true_eq_false, not_false_eq_true, if_true, if_false, ite_not, ite_self, Bool.false_eq_true, nIne1, kMask, mask, mask_n, O_co, gi0, eo, nIle, hin, ea, eb, nI_shr, nI_and, hb, hq', nI_add]
        exact ih _ _ ⟨by rw [hss]; rfl, rfl⟩
      | true =>
        have hq' : (mqB n co V k x y = false) = False := eq_false (by rw [hq]; decide)
        rw [hq] at hss
        simp (disch := first | assumption | omega) only [kb_X0_mutualOrders_44, KL, KB, KC, KI, KJ, KZ, bI_0, bI_n, nI00, nI10, ne_eq, Classical.not_not, not_true_eq_false, not_false_eq_true, if_true, if_false, ite_not, ite_self, Bool.false_eq_true, nIne1, kMask, mask, mask_n, O_co, gi0, eo, nIle, hin, ea, eb, nI_shr, nI_and, hb, hq', nI_add]
        exact ih _ _ ⟨by rw [hss]; rfl, rfl⟩
  rw [← key]
  simp (disch := first | assumption | omega) only [f_X0_mutualOrders, kb_X0_mutualOrders_0, KL, KB, KC, KI, KJ, KZ, bI_0, bI_n, nI00, nI10, ne_eq, Classical.not_not, not_true_eq_false, not_false_eq_true, if_true, if_false, ite_not, ite_self, Bool.false_eq_true, nIne1]
theorem c_mutualCouples {X n : Nat} {co : Nat → List Goods} {V : Nat → Nat → Bool → Bool} {g : GG} (hX : isX X) (n3 : 3 ≤ n) (n6 : n ≤ 6) (hC : CO X n co g) (hO : ORD g) (hS : STL co V g) : f_X0_mutualCouples [.ref 164] (hp g X (OO n)) = some (some (.int (nI (mutC n co V))), hp g X (OO n)) := by
  have hth : ∀ x, x < 12 → thB co x = true → x / 2 < n := fun x hx tx => (thB_lt hC hx tx).1
  have key : kl_X0_mutualCouples_4 [.ref 164, .int (nI 0), .int (nI 0)] [] (hp g X (OO n)) = some (some (.int (nI (mutC n co V))), hp g X (OO n)) := by
    unfold kl_X0_mutualCouples_4
    refine kFor 12 (by unfold FU; omega) (fun i ls h => ∃ u : List Value, ls = [.ref 164, .int (nI (sumN (fun a => sumN (fun b => if a < b then mF n co V a b else 0) 12) i)), .int (nI i)] ++ u ∧ h = hp g X (OO n)) (fun r => r = some (some (.int (nI (mutC n co V))), hp g X (OO n))) ?_ ?_ 0 _ _ (by omega) ⟨[], rfl, rfl⟩
    · rintro s0 ls h ⟨u, rfl, rfl⟩
      have hin : (12 ≤ 12) = True := eq_true (by omega)
      simp (disch := first | assumption | omega) only [KL, KB, KC, KI, KJ, KZ, bI_0, bI_n, nI00, nI10, ne_eq, Classical.not_not, not_true_eq_false, not_false_eq_true, if_true, if_false, ite_not, ite_self, Bool.false_eq_true, nIne1, List.cons_append, List.nil_append, kMask, mask, mask_n, nIle, hin]
      rfl
    · rintro s0 i hi ih ls h ⟨u, rfl, rfl⟩
      have hin : (12 ≤ i) = False := eq_false (by omega)
      generalize hT : sumN (fun a => sumN (fun b => if a < b then mF n co V a b else 0) 12) i = T at *
      have inn : (fun r => r = some (some (.int (nI (mutC n co V))), hp g X (OO n))) (kl_X0_mutualCouples_14 s0 [.ref 164, .int (nI T), .int (nI i), .int (nI (i + 1))] [] (hp g X (OO n))) := by
        unfold kl_X0_mutualCouples_14
        refine kFor 12 (by unfold FU; omega) (fun b ls h => ls = [.ref 164, .int (nI (T + sumN (fun b => if i < b then mF n co V i b else 0) b)), .int (nI i), .int (nI b)] ∧ h = hp g X (OO n) ∧ i < b) (fun r => r = some (some (.int (nI (mutC n co V))), hp g X (OO n))) ?_ ?_ (i + 1) _ _ (by omega) ⟨by
          rw [sumN_zero (f := fun b => if i < b then mF n co V i b else 0) (i + 1) (fun b hb => if_neg (by omega))]; rfl, rfl, by omega⟩
        · rintro s1 ls h ⟨rfl, rfl, -⟩
          have hin : (12 ≤ 12) = True := eq_true (by omega)
          have := ih [.ref 164, .int (nI (T + sumN (fun b => if i < b then mF n co V i b else 0) 12)), .int (nI (i + 1)), .int (nI 12)] (hp g X (OO n)) ⟨[.int (nI 12)], by rw [← hT]; rfl, rfl⟩
          simp (disch := first | assumption | omega) only [KL, KB, KC, KI, KJ, KZ, bI_0, bI_n, nI00, nI10, ne_eq, Classical.not_not, not_true_eq_false, not_false_eq_true, if_true, if_false, ite_not, ite_self, Bool.false_eq_true, nIne1, List.cons_append, List.nil_append, kMask, mask, mask_n, nIle, hin, nI_add]
          exact this
        · rintro s1 b hb ih2 ls h ⟨rfl, rfl, hib⟩
          have hin : (12 ≤ b) = False := eq_false (by omega)
          have ef : g 167 i = nI (setN (ftB co i) 12) := (hS i hi).1
          have hS12 := setN_lt12 (ftB co i)
          have hb1 : (nI ((setN (ftB co i) 12 >>> b) &&& 1) = 0) = (ftB co i b = false) := by
            rw [bit0, Nat.testBit_shiftRight, Nat.add_zero, setN_bit, decide_eq_true hb, Bool.true_and]
          have hss : sumN (fun b => if i < b then mF n co V i b else 0) (b + 1) = sumN (fun b => if i < b then mF n co V i b else 0) b + mF n co V i b := by
            show _ + (if i < b then mF n co V i b else 0) = _
            rw [if_pos hib]
          cases hf : ftB co i b with
          | false =>
            have hf' : (ftB co i b = false) = True := eq_true hf
            rw [mF_zero hf] at hss
            simp (disch := first | assumption | omega) only [kb_X0_mutualCouples_53, KL, KB, KC, KI, KJ, KZ, bI_0, bI_n, nI00, nI10, ne_eq, Classical.not_not, not_true_eq_false, not_false_eq_true, if_true, if_false, ite_not, ite_self, Bool.false_eq_true, nIne1, kMask, mask, mask_n, O_co, AR, ef, nIle, hin, nI_shr, nI_and, hb1, hf', nI_add]
            exact ih2 _ _ ⟨by rw [hss]; rfl, rfl, by omega⟩
          | true =>
            have hf' : (ftB co i b = false) = False := eq_false (by rw [hf]; decide)
            have em := c_mutualOrders (X := X) n3 n6 hO hS hth i b hi hb
            have es := c_statesBut (o := OO n) hX n6 hC (a := i / 2) (b := b / 2) (by omega) (by omega)
            simp (disch := first | assumption | omega) only [kb_X0_mutualCouples_53, KL, KB, KC, KI, KJ, KZ, bI_0, bI_n, nI00, nI10, ne_eq, Classical.not_not, not_true_eq_false, not_false_eq_true, if_true, if_false, ite_not, ite_self, Bool.false_eq_true, nIne1, kMask, mask, mask_n, O_co, AR, ef, nIle, hin, nI_shr, nd2, nI_and, hb1, hf', em, es, nI_mul, nI_add]
            exact ih2 _ _ ⟨by rw [hss, ← Nat.add_assoc]; rfl, rfl, by omega⟩
      simp (disch := first | assumption | omega) only [KL, KB, KC, KI, KJ, KZ, bI_0, bI_n, nI00, nI10, ne_eq, Classical.not_not, not_true_eq_false, not_false_eq_true, if_true, if_false, ite_not, ite_self, Bool.false_eq_true, nIne1, List.cons_append, List.nil_append, kMask, mask, mask_n, nIle, hin, nI_add]
      exact inn
  rw [← key]
  simp (disch := first | assumption | omega) only [f_X0_mutualCouples, kb_X0_mutualCouples_0, KL, KB, KC, KI, KJ, KZ, bI_0, bI_n, nI00, nI10, ne_eq, Classical.not_not, not_true_eq_false, not_false_eq_true, if_true, if_false, ite_not, ite_self, Bool.false_eq_true, nIne1]
-- the counting
def pM (x y i j r b : Nat) : Nat := if r = x then (if b = i + 1 then 1 else 0) else if r = y then (if b = j + 1 then 1 else 0) else 1
theorem pM_prd {n x y i j : Nat} (d : Nat → Nat) (hx : x < n) (hy : y < n) (hxy : x ≠ y) : prdN (fun r => pM x y i j r (d r)) n = (if d x = i + 1 then 1 else 0) * (if d y = j + 1 then 1 else 0) := by
  rw [prdN_out _ x n hx, prdN_out _ y n hy]
  have e1 : pM x y i j x (d x) = if d x = i + 1 then 1 else 0 := if_pos rfl
  have e2 : (if y = x then 1 else pM x y i j y (d y)) = if d y = j + 1 then 1 else 0 := by
    rw [if_neg (Ne.symm hxy)]
    unfold pM
    rw [if_neg (Ne.symm hxy), if_pos rfl]
  rw [e1, e2, prdN_one n (fun r _ => by
    by_cases q : r = y
    · rw [if_pos q]
    · rw [if_neg q]
      by_cases q2 : r = x
      · rw [if_pos q2]
      · rw [if_neg q2]
        unfold pM
        rw [if_neg q2, if_neg q]), Nat.mul_one]
theorem pM_all {n x y i j : Nat} {co : Nat → List Goods} (hi : i < (co x).length) (hj : j < (co y).length) : sumN (fun nu => prdN (fun r => pM x y i j r (dgN n co nu r)) n) (nuN co n) = stB co n x y := by
  rw [sum_dg (pM x y i j) co n]
  refine prdN_congr _ (fun r _ => ?_)
  by_cases q : r = x
  · rw [if_pos (Or.inl q)]
    have e : pM x y i j r = fun b => if b = i + 1 then 1 else 0 := by funext b; unfold pM; rw [if_pos q]
    rw [e, sumN_pick, q, if_pos (by omega)]
  · by_cases q2 : r = y
    · rw [if_pos (Or.inr q2)]
      have e : pM x y i j r = fun b => if b = j + 1 then 1 else 0 := by funext b; unfold pM; rw [if_neg q, if_pos q2]
      rw [e, sumN_pick, q2, if_pos (by omega)]
    · rw [if_neg (by omega)]
      have e : pM x y i j r = fun _ => 1 := by funext b; unfold pM; rw [if_neg q, if_neg q2]
      rw [e, sumN_const, Nat.mul_one]
/-- the model's condition: both are there and wait for each other -/
def mmB (s : Nat) (W : Nat → Nat → Bool) (x y : Nat) : Bool := s.testBit x && s.testBit y && W x y && W y x
theorem mm_sum {n k x y : Nat} {co : Nat → List Goods} {V : Nat → Nat → Bool → Bool} {d : Nat → Nat} (n6 : n ≤ 6) (hlen : ∀ r, (co r).length ≤ 2) (hco : ∀ r, n ≤ r → co r = []) (hd : DG n co d) (hx : x < n) (hy : y < n) (hxy : x ≠ y) : bN (mmB (sD n d) (WD n k co V d) x y) = sumN (fun i => sumN (fun j => bN (mqB n co V k (2 * x + i) (2 * y + j)) * prdN (fun r => pM x y i j r (d r)) n) (co y).length) (co x).length := by
  have hdx := hd.1 x
  have hdy := hd.1 y
  have lx := hlen x
  have ly := hlen y
  unfold mmB
  rw [sD_bit d hx, sD_bit d hy]
  by_cases x0 : 0 < d x
  · by_cases y0 : 0 < d y
    · obtain ⟨i0, hi0⟩ : ∃ i, d x = i + 1 := ⟨d x - 1, by omega⟩
      obtain ⟨j0, hj0⟩ : ∃ j, d y = j + 1 := ⟨d y - 1, by omega⟩
      have e : ∀ i, sumN (fun j => bN (mqB n co V k (2 * x + i) (2 * y + j)) * prdN (fun r => pM x y i j r (d r)) n) (co y).length = if i = i0 then bN (mqB n co V k (2 * x + i0) (2 * y + j0)) else 0 := fun i => by
        by_cases q : i = i0
        · rw [if_pos q, q]
          rw [sumN_congr (g := fun j => if j = j0 then bN (mqB n co V k (2 * x + i0) (2 * y + j0)) else 0) _ (fun j _ => by
            rw [pM_prd d hx hy hxy, if_pos hi0, Nat.one_mul]
            by_cases w : j = j0
            · rw [if_pos w, if_pos (by omega), w, Nat.mul_one]
            · rw [if_neg w, if_neg (by omega), Nat.mul_zero])]
          rw [sumN_pick, if_pos (by omega)]
        · rw [if_neg q]
          exact sumN_zero _ (fun j _ => by rw [pM_prd d hx hy hxy, if_neg (by omega), Nat.zero_mul, Nat.mul_zero])
      rw [sumN_congr _ (fun i _ => e i), sumN_pick, if_pos (by omega), decide_eq_true x0, decide_eq_true y0, Bool.true_and, Bool.true_and]
      have ex : xD d x = 2 * x + i0 := by unfold xD; omega
      have ey : xD d y = 2 * y + j0 := by unfold xD; omega
      have ex2 : xD d x / 2 = x := by unfold xD; omega
      have ey2 : xD d y / 2 = y := by unfold xD; omega
      have tx := thB_dg hd hlen x0
      have ty := thB_dg hd hlen y0
      unfold mqB
      rw [awS_bit hco n6, awS_bit hco n6, ← ex, ← ey]
      unfold WD ftB
      rw [tx, ty, ex2, ey2, decide_eq_true hxy, decide_eq_true (Ne.symm hxy)]
      rfl
    · rw [decide_eq_false y0, Bool.and_false, Bool.false_and, Bool.false_and]
      exact (sumN_zero _ (fun i _ => sumN_zero _ (fun j _ => by rw [pM_prd d hx hy hxy, if_neg (c := d y = j + 1) (by omega), Nat.mul_zero, Nat.mul_zero]))).symm
  · rw [decide_eq_false x0, Bool.false_and, Bool.false_and, Bool.false_and]
    exact (sumN_zero _ (fun i _ => sumN_zero _ (fun j _ => by rw [pM_prd d hx hy hxy, if_neg (c := d x = i + 1) (by omega), Nat.zero_mul, Nat.mul_zero]))).symm
noncomputable def mutN (n : Nat) (co : Nat → List Goods) (V : Nat → Nat → Bool → Bool) (i : Nat) : Nat := sumN (fun nu => sumN (fun k => sumN (fun x => sumN (fun y => bN (mmB (sD n (dgN n co nu)) (WD n k co V (dgN n co nu)) x y)) x) n) (ordMany n)) i
theorem mut_one {n k x y : Nat} {co : Nat → List Goods} {V : Nat → Nat → Bool → Bool} (n6 : n ≤ 6) (hlen : ∀ r, (co r).length ≤ 2) (hco : ∀ r, n ≤ r → co r = []) (hx : x < n) (hy : y < n) (hxy : x ≠ y) : sumN (fun nu => bN (mmB (sD n (dgN n co nu)) (WD n k co V (dgN n co nu)) x y)) (nuN co n) = sumN (fun i => sumN (fun j => bN (mqB n co V k (2 * x + i) (2 * y + j)) * stB co n x y) (co y).length) (co x).length := by
  rw [sumN_congr _ (fun nu hnu => mm_sum n6 hlen hco (dgN_ok hnu).1 hx hy hxy)]
  rw [sumN_comm (fun nu i => sumN (fun j => bN (mqB n co V k (2 * x + i) (2 * y + j)) * prdN (fun r => pM x y i j r (dgN n co nu r)) n) (co y).length)]
  refine sumN_congr _ (fun i hi => ?_)
  rw [sumN_comm (fun nu j => bN (mqB n co V k (2 * x + i) (2 * y + j)) * prdN (fun r => pM x y i j r (dgN n co nu r)) n)]
  refine sumN_congr _ (fun j hj => ?_)
  rw [sumN_mull, pM_all hi hj]
theorem mut_mid {n : Nat} {co : Nat → List Goods} {V : Nat → Nat → Bool → Bool} (n6 : n ≤ 6) (hlen : ∀ r, (co r).length ≤ 2) (hco : ∀ r, n ≤ r → co r = []) : mutN n co V (nuN co n) = sumN (fun x => sumN (fun y => sumN (fun i => sumN (fun j => mF n co V (2 * x + i) (2 * y + j)) (co y).length) (co x).length) x) n := by
  unfold mutN
  rw [sumN_comm (fun nu k => sumN (fun x => sumN (fun y => bN (mmB (sD n (dgN n co nu)) (WD n k co V (dgN n co nu)) x y)) x) n)]
  have e1 : ∀ k, sumN (fun nu => sumN (fun x => sumN (fun y => bN (mmB (sD n (dgN n co nu)) (WD n k co V (dgN n co nu)) x y)) x) n) (nuN co n) = sumN (fun x => sumN (fun y => sumN (fun i => sumN (fun j => bN (mqB n co V k (2 * x + i) (2 * y + j)) * stB co n x y) (co y).length) (co x).length) x) n := fun k => by
    rw [sumN_comm (fun nu x => sumN (fun y => bN (mmB (sD n (dgN n co nu)) (WD n k co V (dgN n co nu)) x y)) x)]
    refine sumN_congr _ (fun x hx => ?_)
    rw [sumN_comm (fun nu y => bN (mmB (sD n (dgN n co nu)) (WD n k co V (dgN n co nu)) x y))]
    exact sumN_congr _ (fun y hy => mut_one n6 hlen hco hx (by omega) (by omega))
  rw [sumN_congr _ (fun k _ => e1 k)]
  rw [sumN_comm (fun k x => sumN (fun y => sumN (fun i => sumN (fun j => bN (mqB n co V k (2 * x + i) (2 * y + j)) * stB co n x y) (co y).length) (co x).length) x)]
  refine sumN_congr _ (fun x hx => ?_)
  rw [sumN_comm (fun k y => sumN (fun i => sumN (fun j => bN (mqB n co V k (2 * x + i) (2 * y + j)) * stB co n x y) (co y).length) (co x).length)]
  refine sumN_congr _ (fun y hy => ?_)
  rw [sumN_comm (fun k i => sumN (fun j => bN (mqB n co V k (2 * x + i) (2 * y + j)) * stB co n x y) (co y).length)]
  refine sumN_congr _ (fun i hi => ?_)
  rw [sumN_comm (fun k j => bN (mqB n co V k (2 * x + i) (2 * y + j)) * stB co n x y)]
  refine sumN_congr _ (fun j hj => ?_)
  have lx := hlen x
  have ly := hlen y
  rw [sumN_mulr]
  unfold mF
  rw [show (2 * x + i) / 2 = x by omega, show (2 * y + j) / 2 = y by omega]
theorem mut_all {n : Nat} {co : Nat → List Goods} {V : Nat → Nat → Bool → Bool} (n6 : n ≤ 6) (hlen : ∀ r, (co r).length ≤ 2) (hco : ∀ r, n ≤ r → co r = []) : mutN n co V (nuN co n) = mutC n co V := by
  rw [mut_mid n6 hlen hco]
  unfold mutC
  -- the class's, the lesser slot first, turned round
  rw [sumN_comm (fun a b => if a < b then mF n co V a b else 0)]
  rw [sumN_congr (f := fun b => sumN (fun a => if a < b then mF n co V a b else 0) 12) (g := fun a => sumN (fun b => if b < a then mF n co V a b else 0) 12) 12 (fun a _ => sumN_congr 12 (fun b _ => by rw [mF_sym]))]
  rw [show (12 : Nat) = 6 * 2 from rfl, sumN_pair]
  have hz : ∀ x i y j : Nat, i < 2 → j < 2 → (if y * 2 + j < x * 2 + i then mF n co V (x * 2 + i) (y * 2 + j) else 0) = if y < x then mF n co V (2 * x + i) (2 * y + j) else 0 := fun x i y j hi hj => by
    rw [Nat.mul_comm x, Nat.mul_comm y]
    by_cases q : y < x
    · rw [if_pos q, if_pos (by omega)]
    · rw [if_neg q]
      by_cases w : 2 * y + j < 2 * x + i
      · rw [if_pos w]
        exact mF_zero (by unfold ftB; rw [decide_eq_false (fun e => e (by omega)), Bool.and_false, Bool.false_and])
      · rw [if_neg w]
  have hnt : ∀ a b : Nat, (thB co a = false ∨ thB co b = false) → mF n co V a b = 0 := fun a b h => mF_zero (by
    unfold ftB
    rcases h with h | h
    · rw [h]; rfl
    · rw [h, Bool.and_false]; rfl)
  have hth : ∀ x i : Nat, i < 2 → (co x).length ≤ i → thB co (2 * x + i) = false := fun x i hi hl => by
    unfold thB
    rw [show (2 * x + i) / 2 = x by omega, show (2 * x + i) % 2 = i by omega]
    exact decide_eq_false (by omega)
  have e1 : ∀ x, sumN (fun i => sumN (fun b => if b < x * 2 + i then mF n co V (x * 2 + i) b else 0) (6 * 2)) 2 = sumN (fun y => if y < x then sumN (fun i => sumN (fun j => mF n co V (2 * x + i) (2 * y + j)) (co y).length) (co x).length else 0) 6 := fun x => by
    rw [sumN_congr (g := fun i => sumN (fun y => sumN (fun j => if y < x then mF n co V (2 * x + i) (2 * y + j) else 0) 2) 6) 2 (fun i hi => by
      rw [sumN_pair]
      exact sumN_congr 6 (fun y _ => sumN_congr 2 (fun j hj => hz x i y j hi hj)))]
    rw [sumN_comm (fun i y => sumN (fun j => if y < x then mF n co V (2 * x + i) (2 * y + j) else 0) 2)]
    refine sumN_congr 6 (fun y _ => ?_)
    by_cases q : y < x
    · rw [if_pos q]
      rw [sumN_congr (g := fun i => sumN (fun j => mF n co V (2 * x + i) (2 * y + j)) (co y).length) 2 (fun i hi => by
        rw [sumN_congr (g := fun j => mF n co V (2 * x + i) (2 * y + j)) 2 (fun j _ => if_pos q)]
        exact (sumN_ext (hlen y) (fun j h1 h2 => hnt _ _ (Or.inr (hth y j h2 h1)))).symm)]
      exact (sumN_ext (hlen x) (fun i h1 h2 => sumN_zero _ (fun j _ => hnt _ _ (Or.inl (hth x i h2 h1))))).symm
    · rw [if_neg q]
      exact sumN_zero _ (fun i _ => sumN_zero _ (fun j _ => if_neg q))
  rw [sumN_congr 6 (fun x _ => e1 x)]
  have e2 : ∀ x, x < 6 → sumN (fun y => if y < x then sumN (fun i => sumN (fun j => mF n co V (2 * x + i) (2 * y + j)) (co y).length) (co x).length else 0) 6 = sumN (fun y => sumN (fun i => sumN (fun j => mF n co V (2 * x + i) (2 * y + j)) (co y).length) (co x).length) x := fun x hx => by
    rw [← sumN_ext (a := x) (by omega) (fun i h1 _ => if_neg (by omega))]
    exact sumN_congr x (fun y hy => if_pos hy)
  rw [sumN_congr 6 (fun x hx => e2 x hx)]
  exact sumN_ext n6 (fun x h1 _ => sumN_zero _ (fun y _ => by rw [hco x h1]; rfl))
