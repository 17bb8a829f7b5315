-- ===== odds: the counting =====
theorem awS_bit {n k x y : Nat} {co : Nat → List Goods} {V : Nat → Nat → Bool → Bool} (hco : ∀ r, n ≤ r → co r = []) (n6 : n ≤ 6) : (awS n k co V x).testBit y = (ftB co x y && V x y (decide (ordRank n k (y / 2) < ordRank n k (x / 2)))) := by
  unfold awS
  rw [setN_bit]
  by_cases h : y < 12
  · rw [decide_eq_true h, Bool.true_and]
  · rw [decide_eq_false h, Bool.false_and]
    cases e : ftB co x y with
    | false => rfl
    | true =>
      have := of_decide_eq_true (ftB_th e).2.1
      rw [hco (y / 2) (by omega)] at this
      exact absurd this (Nat.not_lt_zero _)
/-- the factor of road r for the digit b, road's i-th comer being there -/
def pO (n k : Nat) (co : Nat → List Goods) (V : Nat → Nat → Bool → Bool) (road i r b : Nat) : Nat := if r = road then (if b = i + 1 then 1 else 0) else bN (decide (b = 0) || !(awS n k co V (2 * road + i)).testBit (2 * r + (b - 1)))
theorem pO_sum {n k road i r : Nat} {co : Nat → List Goods} {V : Nat → Nat → Bool → Bool} (hlen : ∀ r, (co r).length ≤ 2) (hr : r ≠ road) : sumN (pO n k co V road i r) ((co r).length + 1) = lfN co (awS n k co V (2 * road + i)) r := by
  have hS := awS_th (n := n) (k := k) (x := 2 * road + i) (co := co) (V := V)
  have p0 : pO n k co V road i r 0 = 1 := by unfold pO; rw [if_neg hr]; rfl
  have p1 : pO n k co V road i r 1 = bN (!(awS n k co V (2 * road + i)).testBit (2 * r + 0)) := by unfold pO; rw [if_neg hr]; rfl
  have p2 : pO n k co V road i r 2 = bN (!(awS n k co V (2 * road + i)).testBit (2 * r + 1)) := by unfold pO; rw [if_neg hr]; rfl
  unfold lfN
  rw [pop3, Nat.testBit_shiftRight, Nat.testBit_shiftRight]
  generalize pO n k co V road i r = p at *
  generalize awS n k co V (2 * road + i) = S at *
  have h2 := hlen r
  have f0 : S.testBit (2 * r + 0) = true → 0 < (co r).length := fun h => by
    have := of_decide_eq_true (hS _ h)
    rw [show (2 * r + 0) / 2 = r by omega] at this
    omega
  have f1 : S.testBit (2 * r + 1) = true → 1 < (co r).length := fun h => by
    have := of_decide_eq_true (hS _ h)
    rw [show (2 * r + 1) / 2 = r by omega] at this
    omega
  generalize (co r).length = L at *
  have s1 : sumN p (0 + 1) = p 0 := by show 0 + p 0 = p 0; omega
  have s2 : sumN p (1 + 1) = p 0 + p 1 := by show 0 + p 0 + p 1 = p 0 + p 1; omega
  have s3 : sumN p (2 + 1) = p 0 + p 1 + p 2 := by show 0 + p 0 + p 1 + p 2 = p 0 + p 1 + p 2; omega
  rcases (by omega : L = 0 ∨ L = 1 ∨ L = 2) with rfl | rfl | rfl
  · have e0 : S.testBit (2 * r + 0) = false := Bool.eq_false_iff.mpr (fun h => absurd (f0 h) (by omega))
    have e1 : S.testBit (2 * r + 1) = false := Bool.eq_false_iff.mpr (fun h => absurd (f1 h) (by omega))
    rw [s1, p0, e0, e1]; rfl
  · have e1 : S.testBit (2 * r + 1) = false := Bool.eq_false_iff.mpr (fun h => absurd (f1 h) (by omega))
    rw [s2, p0, p1, e1]
    cases S.testBit (2 * r + 0) <;> rfl
  · rw [s3, p0, p1, p2]
    cases S.testBit (2 * r + 0) <;> cases S.testBit (2 * r + 1) <;> rfl
theorem pO_road {n k road i : Nat} {co : Nat → List Goods} {V : Nat → Nat → Bool → Bool} (hi : i < (co road).length) : sumN (pO n k co V road i road) ((co road).length + 1) = 1 := by
  have e : pO n k co V road i road = fun b => if b = i + 1 then 1 else 0 := by
    funext b
    unfold pO
    rw [if_pos rfl]
  rw [e, sumN_pick, if_pos (by omega)]
theorem hasmay {n k nu road : Nat} {co : Nat → List Goods} {V : Nat → Nat → Bool → Bool} (n6 : n ≤ 6) (hlen : ∀ r, (co r).length ≤ 2) (hco : ∀ r, n ≤ r → co r = []) (hnu : nu < nuN co n) (hr : road < n) : bN (decide (0 < dgN n co nu road)) * bN (mayP n (sD n (dgN n co nu)) (WD n k co V (dgN n co nu)) road) = sumN (fun i => prdN (fun r => pO n k co V road i r (dgN n co nu r)) n) (co road).length := by
  obtain ⟨hd, -⟩ := dgN_ok hnu
  generalize dgN n co nu = d at *
  have hdr := hd.1 road
  by_cases h0 : 0 < d road
  · rw [decide_eq_true h0]
    obtain ⟨j, hj⟩ : ∃ j, d road = j + 1 := ⟨d road - 1, by omega⟩
    have e1 : sumN (fun i => prdN (fun r => pO n k co V road i r (d r)) n) (co road).length = sumN (fun i => if i = j then prdN (fun r => pO n k co V road j r (d r)) n else 0) (co road).length := sumN_congr _ (fun i hi => by
      by_cases q : i = j
      · rw [if_pos q, q]
      · rw [if_neg q]
        refine prdN_zero n road hr ?_
        show pO n k co V road i road (d road) = 0
        unfold pO
        rw [if_pos rfl, if_neg (by omega)])
    rw [e1, sumN_pick, if_pos (by omega)]
    have e2 : prdN (fun r => pO n k co V road j r (d r)) n = prdN (fun r => bN (decide (r = road) || (decide (d r = 0) || !(awS n k co V (2 * road + j)).testBit (2 * r + (d r - 1))))) n := prdN_congr _ (fun r hr' => by
      show pO n k co V road j r (d r) = _
      unfold pO
      by_cases q : r = road
      · rw [if_pos q, q, if_pos hj, decide_eq_true rfl]; rfl
      · rw [if_neg q, decide_eq_false q, Bool.false_or])
    rw [e2, prdN_bN]
    show 1 * bN _ = _
    rw [Nat.one_mul]
    have hx : xD d road = 2 * road + j := by unfold xD; omega
    have l2 := hlen road
    congr 1
    apply Bool.eq_iff_iff.mpr
    rw [mayP_iff (by omega), decide_eq_true_eq]
    have hb : (sD n d).testBit road = true := by rw [sD_bit d hr]; exact decide_eq_true h0
    have hW : ∀ q, q < n → q ≠ road → 0 < d q → WD n k co V d road q = (awS n k co V (2 * road + j)).testBit (2 * q + (d q - 1)) := fun q hq hne q0 => by
      have l3 := hlen q
      have l4 := hd.1 q
      rw [awS_bit hco n6, show 2 * q + (d q - 1) = xD d q from rfl, ← hx]
      have ex : xD d road / 2 = road := by unfold xD; omega
      have ey : xD d q / 2 = q := by unfold xD; omega
      unfold WD ftB
      rw [thB_dg hd hlen h0, thB_dg hd hlen q0, ex, ey, decide_eq_true hne]
      rfl
    constructor
    · rintro ⟨-, h⟩ r hr'
      by_cases q : r = road
      · rw [decide_eq_true q]; rfl
      · rw [decide_eq_false q, Bool.false_or]
        by_cases w : d r = 0
        · rw [decide_eq_true w]; rfl
        · have := h r hr' q (by rw [sD_bit d hr']; exact decide_eq_true (by omega))
          rw [hW r hr' q (by omega)] at this
          rw [this, decide_eq_false w]; rfl
    · intro h
      refine ⟨hb, fun q hq hne hqb => ?_⟩
      rw [sD_bit d hq] at hqb
      have q0 := of_decide_eq_true hqb
      have := h q hq
      rw [decide_eq_false hne, Bool.false_or, decide_eq_false (by omega), Bool.false_or] at this
      rw [hW q hq hne q0]
      cases e : (awS n k co V (2 * road + j)).testBit (2 * q + (d q - 1)) with
      | false => rfl
      | true => rw [e] at this; cases this
  · rw [decide_eq_false h0]
    show 0 * _ = _
    rw [Nat.zero_mul]
    refine (sumN_zero _ (fun i hi => prdN_zero n road hr ?_)).symm
    show pO n k co V road i road (d road) = 0
    unfold pO
    rw [if_pos rfl, if_neg (by omega)]
noncomputable def hasNN (n : Nat) (co : Nat → List Goods) (road nu : Nat) : Nat := bN (decide (0 < dgN n co nu road))
noncomputable def mayN (n : Nat) (co : Nat → List Goods) (V : Nat → Nat → Bool → Bool) (road nu k : Nat) : Bool := mayP n (sD n (dgN n co nu)) (WD n k co V (dgN n co nu)) road
theorem gone_count {n road : Nat} {co : Nat → List Goods} {V : Nat → Nat → Bool → Bool} (n6 : n ≤ 6) (hlen : ∀ r, (co r).length ≤ 2) (hco : ∀ r, n ≤ r → co r = []) (hr : road < n) : sumN (fun nu => hasNN n co road nu * sumN (fun k => bN (mayN n co V road nu k)) (ordMany n)) (nuN co n) = goneN n co V road := by
  have e1 : sumN (fun nu => hasNN n co road nu * sumN (fun k => bN (mayN n co V road nu k)) (ordMany n)) (nuN co n) = sumN (fun nu => sumN (fun k => sumN (fun i => prdN (fun r => pO n k co V road i r (dgN n co nu r)) n) (co road).length) (ordMany n)) (nuN co n) := sumN_congr _ (fun nu hnu => by
    rw [← sumN_mull]
    exact sumN_congr _ (fun k _ => hasmay n6 hlen hco hnu hr))
  rw [e1, sumN_comm (fun nu k => sumN (fun i => prdN (fun r => pO n k co V road i r (dgN n co nu r)) n) (co road).length)]
  have e2 : ∀ k, sumN (fun nu => sumN (fun i => prdN (fun r => pO n k co V road i r (dgN n co nu r)) n) (co road).length) (nuN co n) = sumN (fun i => swN co n road (awS n k co V (2 * road + i))) (co road).length := fun k => by
    rw [sumN_comm (fun nu i => prdN (fun r => pO n k co V road i r (dgN n co nu r)) n)]
    refine sumN_congr _ (fun i hi => ?_)
    rw [sum_dg (pO n k co V road i) co n]
    refine prdN_congr _ (fun r hr' => ?_)
    by_cases q : r = road
    · rw [if_pos q, q]; exact pO_road hi
    · rw [if_neg q]; exact pO_sum hlen q
  rw [sumN_congr _ (fun k _ => e2 k)]
  exact sumN_comm (fun k i => swN co n road (awS n k co V (2 * road + i))) _ _
theorem sum_pos : ∀ m, sumN (fun b => bN (decide (0 < b))) (m + 1) = m := by
  intro m
  induction m with
  | zero => rfl
  | succ m ih => show sumN (fun b => bN (decide (0 < b))) (m + 1) + bN (decide (0 < m + 1)) = m + 1; rw [ih, decide_eq_true (by omega)]; rfl
theorem prdN_one {f : Nat → Nat} : ∀ n, (∀ i, i < n → f i = 1) → prdN f n = 1 := by
  intro n h
  rw [prdN_congr (g := fun _ => 1) n h]
  clear h
  induction n with
  | zero => rfl
  | succ n ih => show prdN (fun _ => 1) n * 1 = 1; rw [ih]
theorem has_count {n road : Nat} {co : Nat → List Goods} (hr : road < n) : sumN (hasNN n co road) (nuN co n) = (co road).length * stB co n road road := by
  have e1 : sumN (hasNN n co road) (nuN co n) = sumN (fun nu => prdN (fun r => (fun r b => if r = road then bN (decide (0 < b)) else 1) r (dgN n co nu r)) n) (nuN co n) := sumN_congr _ (fun nu _ => by
    rw [prdN_out _ road n hr, prdN_one n (fun i _ => by
      by_cases q : i = road
      · rw [if_pos q]
      · rw [if_neg q]; show (if i = road then _ else 1) = 1; rw [if_neg q]), Nat.mul_one]
    show _ = (if road = road then _ else 1)
    rw [if_pos rfl]
    rfl)
  rw [e1, sum_dg (fun r b => if r = road then bN (decide (0 < b)) else 1), prdN_out _ road n hr]
  congr 1
  · show sumN (fun b => if road = road then bN (decide (0 < b)) else 1) _ = _
    rw [sumN_congr (g := fun b => bN (decide (0 < b))) _ (fun b _ => if_pos rfl)]
    exact sum_pos _
  · refine prdN_congr _ (fun r _ => ?_)
    by_cases q : r = road
    · rw [if_pos q, if_pos (Or.inl q)]
    · rw [if_neg q, if_neg (by omega)]
      show sumN (fun b => if r = road then _ else 1) _ = _
      rw [sumN_congr (g := fun _ => 1) _ (fun b _ => if_neg q), sumN_const, Nat.mul_one]
noncomputable def heldN (n : Nat) (co : Nat → List Goods) (V : Nat → Nat → Bool → Bool) (road i : Nat) : Nat := sumN (fun nu => hasNN n co road nu * sumN (fun k => bN (!mayN n co V road nu k)) (ordMany n)) i
noncomputable def thereN (n : Nat) (co : Nat → List Goods) (road i : Nat) : Nat := sumN (fun nu => hasNN n co road nu * ordMany n) i
theorem there_all {n road : Nat} {co : Nat → List Goods} (hr : road < n) : thereN n co road (nuN co n) = allN n co road := by
  unfold thereN allN
  rw [sumN_mulr, has_count hr]
theorem held_all {n road : Nat} {co : Nat → List Goods} {V : Nat → Nat → Bool → Bool} (n6 : n ≤ 6) (hlen : ∀ r, (co r).length ≤ 2) (hco : ∀ r, n ≤ r → co r = []) (hr : road < n) : heldN n co V road (nuN co n) + goneN n co V road = allN n co road := by
  rw [← there_all hr, ← gone_count n6 hlen hco hr]
  unfold heldN thereN
  rw [← sumN_add]
  refine sumN_congr _ (fun nu _ => ?_)
  rw [← Nat.mul_add, ← sumN_add]
  congr 1
  rw [sumN_congr (g := fun _ => 1) _ (fun k _ => by cases mayN n co V road nu k <;> rfl), sumN_const, Nat.mul_one]
theorem all_bd {n road : Nat} {co : Nat → List Goods} (n3 : 3 ≤ n) (n6 : n ≤ 6) (hlen : ∀ r, (co r).length ≤ 2) (h0 : 0 < (co road).length) : 0 < allN n co road ∧ allN n co road < 100000 := by
  unfold allN
  have l2 := hlen road
  have hs : stB co n road road ≤ 3 ^ 6 := Nat.le_trans (prdN_pow (fun i => by
    show (if i = road ∨ i = road then 1 else (co i).length + 1) ≤ 3
    split
    · omega
    · have := hlen i; omega) n) (Nat.pow_le_pow_right (by omega) n6)
  have hp : 0 < stB co n road road := prdN_pos n (fun i _ => by
    show 0 < (if i = road ∨ i = road then 1 else (co i).length + 1)
    split <;> omega)
  have hm := ordMany_le (n := n) n6
  have hm0 : 0 < ordMany n := by unfold ordMany; split; omega; split; omega; omega
  refine ⟨Nat.mul_pos (Nat.mul_pos h0 hp) hm0, ?_⟩
  have h1 : (co road).length * stB co n road road * ordMany n ≤ 2 * 3 ^ 6 * 24 := Nat.mul_le_mul (Nat.mul_le_mul l2 hs) hm
  omega
