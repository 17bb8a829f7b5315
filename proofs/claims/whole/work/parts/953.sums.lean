-- ===== sums over all that can come =====
def sumN (f : Nat → Nat) : Nat → Nat
  | 0 => 0
  | k + 1 => sumN f k + f k
def prdN (f : Nat → Nat) : Nat → Nat
  | 0 => 1
  | k + 1 => prdN f k * f k
theorem sumN_congr {f g : Nat → Nat} : ∀ n, (∀ i, i < n → f i = g i) → sumN f n = sumN g n := by
  intro n
  induction n with
  | zero => intro _; rfl
  | succ n ih => intro h; show sumN f n + f n = sumN g n + g n; rw [ih (fun i hi => h i (by omega)), h n (by omega)]
theorem prdN_congr {f g : Nat → Nat} : ∀ n, (∀ i, i < n → f i = g i) → prdN f n = prdN g n := by
  intro n
  induction n with
  | zero => intro _; rfl
  | succ n ih => intro h; show prdN f n * f n = prdN g n * g n; rw [ih (fun i hi => h i (by omega)), h n (by omega)]
theorem sumN_add (f g : Nat → Nat) : ∀ n, sumN (fun i => f i + g i) n = sumN f n + sumN g n := by
  intro n
  induction n with
  | zero => rfl
  | succ n ih => show sumN (fun i => f i + g i) n + (f n + g n) = sumN f n + f n + (sumN g n + g n); rw [ih]; omega
theorem sumN_mulr (f : Nat → Nat) (c : Nat) : ∀ n, sumN (fun i => f i * c) n = sumN f n * c := by
  intro n
  induction n with
  | zero => exact (Nat.zero_mul c).symm
  | succ n ih => show sumN (fun i => f i * c) n + f n * c = (sumN f n + f n) * c; rw [ih, Nat.add_mul]
theorem sumN_mull (f : Nat → Nat) (c : Nat) (n : Nat) : sumN (fun i => c * f i) n = c * sumN f n := by
  rw [Nat.mul_comm, ← sumN_mulr]
  exact sumN_congr n (fun i _ => Nat.mul_comm _ _)
theorem sumN_const (c : Nat) : ∀ n, sumN (fun _ => c) n = n * c := by
  intro n
  induction n with
  | zero => exact (Nat.zero_mul c).symm
  | succ n ih => show sumN (fun _ => c) n + c = (n + 1) * c; rw [ih, Nat.succ_mul]
theorem sumN_zero {f : Nat → Nat} (n : Nat) (h : ∀ i, i < n → f i = 0) : sumN f n = 0 := by
  rw [sumN_congr (g := fun _ => 0) n h, sumN_const, Nat.mul_zero]
theorem sumN_split (f : Nat → Nat) (a : Nat) : ∀ b, sumN f (a + b) = sumN f a + sumN (fun i => f (a + i)) b := by
  intro b
  induction b with
  | zero => rfl
  | succ b ih => show sumN f (a + b) + f (a + b) = sumN f a + (sumN (fun i => f (a + i)) b + f (a + b)); rw [ih]; omega
theorem sumN_comm (f : Nat → Nat → Nat) (b : Nat) : ∀ a, sumN (fun i => sumN (f i) b) a = sumN (fun j => sumN (fun i => f i j) a) b := by
  intro a
  induction a with
  | zero => exact (sumN_zero b (fun _ _ => rfl)).symm
  | succ a ih => show sumN (fun i => sumN (f i) b) a + sumN (f a) b = sumN (fun j => sumN (fun i => f i j) a + f a j) b; rw [ih, sumN_add]
theorem sumN_le {f g : Nat → Nat} : ∀ n, (∀ i, i < n → f i ≤ g i) → sumN f n ≤ sumN g n := by
  intro n
  induction n with
  | zero => intro _; exact Nat.le_refl _
  | succ n ih => intro h; show sumN f n + f n ≤ sumN g n + g n; exact Nat.add_le_add (ih (fun i hi => h i (by omega))) (h n (by omega))
theorem sumN_pick (k : Nat) (c : Nat) : ∀ n, sumN (fun i => if i = k then c else 0) n = if k < n then c else 0 := by
  intro n
  induction n with
  | zero => rw [if_neg (by omega)]; rfl
  | succ n ih =>
    show sumN (fun i => if i = k then c else 0) n + (if n = k then c else 0) = _
    rw [ih]
    by_cases h : n = k
    · rw [if_pos h, if_neg (by omega), if_pos (by omega)]; omega
    · rw [if_neg h]
      by_cases q : k < n
      · rw [if_pos q, if_pos (by omega), Nat.add_zero]
      · rw [if_neg q, if_neg (by omega)]
theorem sumN_pair (f : Nat → Nat) (B : Nat) : ∀ A, sumN f (A * B) = sumN (fun a => sumN (fun b => f (a * B + b)) B) A := by
  intro A
  induction A with
  | zero => rw [Nat.zero_mul]; rfl
  | succ A ih => rw [Nat.succ_mul, sumN_split, ih]; rfl
theorem prdN_zero {f : Nat → Nat} : ∀ n i, i < n → f i = 0 → prdN f n = 0 := by
  intro n
  induction n with
  | zero => intro i h; omega
  | succ n ih =>
    intro i hi h
    show prdN f n * f n = 0
    by_cases q : i = n
    · subst q; rw [h, Nat.mul_zero]
    · rw [ih i (by omega) h, Nat.zero_mul]
theorem prdN_bN (q : Nat → Bool) : ∀ n, prdN (fun r => bN (q r)) n = bN (decide (∀ r, r < n → q r = true)) := by
  intro n
  induction n with
  | zero => rw [decide_eq_true (fun r h => absurd h (by omega))]; rfl
  | succ n ih =>
    show prdN (fun r => bN (q r)) n * bN (q n) = _
    rw [ih]
    by_cases h : ∀ r, r < n → q r = true
    · rw [decide_eq_true h]
      cases e : q n with
      | true =>
        rw [decide_eq_true (fun r hr => by
          by_cases w : r = n
          · rw [w]; exact e
          · exact h r (by omega))]
        rfl
      | false =>
        rw [decide_eq_false (fun w => by have := w n (by omega); rw [e] at this; cases this)]
        rfl
    · rw [decide_eq_false h, decide_eq_false (fun w => h (fun r hr => w r (by omega)))]
      exact Nat.zero_mul _
theorem dgN_succ {n a b : Nat} {co : Nat → List Goods} (ha : a < nuN co n) (hb : b ≤ (co n).length) : dgN (n + 1) co (a * ((co n).length + 1) + b) = fun r => if r = n then b else dgN n co a r := by
  obtain ⟨hd, he⟩ := dgN_ok ha
  refine (dgN_eq ⟨fun q => ?_, fun q hq => ?_⟩ ?_).symm
  · show (if q = n then b else dgN n co a q) ≤ (co q).length
    split
    · rename_i e; rw [e]; exact hb
    · exact hd.1 q
  · show (if q = n then b else dgN n co a q) = 0
    rw [if_neg (by omega)]
    exact hd.2 q (by omega)
  · show hv co (fun r => if r = n then b else dgN n co a r) n * ((co n).length + 1) + (if n = n then b else dgN n co a n) = _
    rw [if_pos rfl, hv_congr (d' := dgN n co a) n (fun q hq => if_neg (by omega)), he]
/-- a sum over all that can come, of a product over the roads -/
theorem sum_dg (p : Nat → Nat → Nat) (co : Nat → List Goods) : ∀ n, sumN (fun nu => prdN (fun r => p r (dgN n co nu r)) n) (nuN co n) = prdN (fun r => sumN (p r) ((co r).length + 1)) n := by
  intro n
  induction n with
  | zero => rfl
  | succ n ih =>
    show sumN _ (nuN co n * ((co n).length + 1)) = prdN (fun r => sumN (p r) ((co r).length + 1)) n * sumN (p n) ((co n).length + 1)
    rw [sumN_pair, ← ih, ← sumN_mulr]
    refine sumN_congr _ (fun a ha => ?_)
    rw [← sumN_mull]
    refine sumN_congr _ (fun b hb => ?_)
    rw [dgN_succ ha (by omega)]
    show prdN (fun r => p r (if r = n then b else dgN n co a r)) n * p n (if n = n then b else dgN n co a n) = _
    rw [if_pos rfl, prdN_congr (g := fun r => p r (dgN n co a r)) n (fun r hr => by rw [if_neg (by omega)])]
theorem dgN_zero {n : Nat} {co : Nat → List Goods} (r : Nat) : dgN n co 0 r = 0 := by
  have := dgN_eq (n := n) (co := co) (d := fun _ => 0) (nu := 0) ⟨fun _ => Nat.zero_le _, fun _ _ => rfl⟩ (hv_zero n)
  rw [← this]
theorem prdN_pow {f : Nat → Nat} (h : ∀ i, f i ≤ 3) : ∀ n, prdN f n ≤ 3 ^ n := by
  intro n
  induction n with
  | zero => exact Nat.le_refl _
  | succ n ih => show prdN f n * f n ≤ 3 ^ n * 3; exact Nat.mul_le_mul ih (h n)
theorem prdN_pos {f : Nat → Nat} : ∀ n, (∀ i, i < n → 0 < f i) → 0 < prdN f n := by
  intro n
  induction n with
  | zero => intro _; show 0 < 1; omega
  | succ n ih => intro h; exact Nat.mul_pos (ih (fun i hi => h i (by omega))) (h n (by omega))
/-- one road's factor taken out -/
theorem prdN_out (f : Nat → Nat) (k : Nat) : ∀ n, k < n → prdN f n = f k * prdN (fun r => if r = k then 1 else f r) n := by
  intro n
  induction n with
  | zero => intro h; omega
  | succ n ih =>
    intro hk
    show prdN f n * f n = f k * (prdN (fun r => if r = k then 1 else f r) n * (if n = k then 1 else f n))
    by_cases h : n = k
    · subst h
      rw [if_pos rfl, Nat.mul_one, Nat.mul_comm, prdN_congr (g := fun r => if r = n then 1 else f r) n (fun r hr => by rw [if_neg (by omega)])]
    · rw [if_neg h, ih (by omega), Nat.mul_assoc]
/-- how many states the roads but two have -/
def stB (co : Nat → List Goods) (n a b : Nat) : Nat := prdN (fun r => if r = a ∨ r = b then 1 else (co r).length + 1) n
theorem c_statesBut {X n a b : Nat} {co : Nat → List Goods} {g : GG} {o : Nat} (hX : isX X) (n6 : n ≤ 6) (hC : CO X n co g) (ha : a < 6) (hb : b < 6) : f_X0_statesBut [.ref 164, .int (nI a), .int (nI b)] (hp g X o) = some (some (.int (nI (stB co n a b))), hp g X o) := by
  have key : kl_X0_statesBut_5 [.ref 164, .int (nI a), .int (nI b), .int (nI 1), .int (nI 0)] [] (hp g X o) = some (some (.int (nI (stB co n a b))), hp g X o) := by
    have en := hC.1
    unfold kl_X0_statesBut_5
    refine kFor n (by unfold FU; omega) (fun i ls h => ls = [.ref 164, .int (nI a), .int (nI b), .int (nI (stB co i a b)), .int (nI i)] ∧ h = hp g X o) (fun r => r = some (some (.int (nI (stB co n a b))), hp g X o)) ?_ ?_ 0 _ _ (by omega) ⟨rfl, rfl⟩
    · rintro s0 ls h ⟨rfl, rfl⟩
      have hin : (n ≤ n) = True := eq_true (by omega)
      simp (disch := first | assumption | omega) only [KL, KB, KC, KI, KJ, KZ, bI_0, bI_n, nI00, nI10, ne_eq, Classical.not_not, not_true_eq_false, not_false_eq_true, if_true, if_false, ite_not, ite_self, Bool.false_eq_true, nIne1, kMask, mask, O_co, XO, en, nIle, hin]
    · rintro s0 i hi ih ls h ⟨rfl, rfl⟩
      have hin : (n ≤ i) = False := eq_false (by omega)
      have i6 : i < 6 := by omega
      have el : g (X + 4) i = nI (co i).length := (hC.2 i i6).2.2.2.1
      by_cases h1 : i = a
      · have hq : (nI i = nI a) = True := eq_true (by rw [h1])
        have hs : stB co (i + 1) a b = stB co i a b := by show stB co i a b * (if i = a ∨ i = b then 1 else _) = _; rw [if_pos (Or.inl h1), Nat.mul_one]
        simp (disch := first | assumption | omega) only [kb_X0_statesBut_44, KL, KB, KC, KI, KJ, KZ, bI_0, bI_n, nI00, nI10, ne_eq, Classical.not_not, not_true_eq_false, not_false_eq_true, if_true, if_false, ite_not, ite_self, Bool.false_eq_true, nIne1, kMask, mask, O_co, XO, en, nIle, hin, hq, nI_add]
        exact ih _ _ ⟨by rw [hs], rfl⟩
      · have hq : (nI i = nI a) = False := by rw [nIeq (by omega) (by omega)]; exact eq_false h1
        by_cases h2 : i = b
        · have hq2 : (nI i = nI b) = True := eq_true (by rw [h2])
          have hs : stB co (i + 1) a b = stB co i a b := by show stB co i a b * (if i = a ∨ i = b then 1 else _) = _; rw [if_pos (Or.inr h2), Nat.mul_one]
          simp (disch := first | assumption | omega) only [kb_X0_statesBut_44, KL, KB, KC, KI, KJ, KZ, bI_0, bI_n, nI00, nI10, ne_eq, Classical.not_not, not_true_eq_false, not_false_eq_true, if_true, if_false, ite_not, ite_self, Bool.false_eq_true, nIne1, kMask, mask, O_co, XO, en, nIle, hin, hq, hq2, nI_add]
          exact ih _ _ ⟨by rw [hs], rfl⟩
        · have hq2 : (nI i = nI b) = False := by rw [nIeq (by omega) (by omega)]; exact eq_false h2
          have hs : stB co (i + 1) a b = stB co i a b * ((co i).length + 1) := by show stB co i a b * (if i = a ∨ i = b then 1 else _) = _; rw [if_neg (by omega)]
          simp (disch := first | assumption | omega) only [kb_X0_statesBut_44, KL, KB, KC, KI, KJ, KZ, bI_0, bI_n, nI00, nI10, ne_eq, Classical.not_not, not_true_eq_false, not_false_eq_true, if_true, if_false, ite_not, ite_self, Bool.false_eq_true, nIne1, kMask, mask, O_co, XO, AR, en, el, nIle, hin, hq, hq2, nI_add, nI_mul]
          exact ih _ _ ⟨by rw [hs], rfl⟩
  rw [← key]
  simp (disch := first | assumption | omega) only [f_X0_statesBut, kb_X0_statesBut_0, KL, KB, KC, KI, KJ, KZ, bI_0, bI_n, nI00, nI10, ne_eq, Classical.not_not, not_true_eq_false, not_false_eq_true, if_true, if_false, ite_not, ite_self, Bool.false_eq_true, nIne1]
