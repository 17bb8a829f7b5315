-- ===== what is asked of two carts: the class's Pair =====
theorem x_fact (g : GG) (m o X w r : Nat) (hX : isX X) (hw : w < 5) (hr : r < 6) : f_X1_fact [.ref X, .int (nI w), .int (nI r)] (hp g m o) = some (some (.int (g (X + 1) (w * 6 + r))), hp g m o) := by
  simp (disch := first | assumption | omega) only [f_X1_fact, kb_X1_fact_0, KL, KB, KC, KI, KJ, KZ, bI_0, bI_n, nI00, nI10, ne_eq, Classical.not_not, not_true_eq_false, not_false_eq_true, if_true, if_false, ite_not, ite_self, Bool.false_eq_true, nIne1, XO, nI_mul, nI_add]
theorem x_goods (g : GG) (m o X r : Nat) (q : Nat × Nat × Nat) (hX : isX X) (hr : r < 6) (e0 : g (X + 2) r = nI q.1) (e1 : g (X + 2) (6 + r) = nI q.2.1) (e2 : g (X + 2) (12 + r) = nI q.2.2) : f_X1_goods [.ref X, .int (nI r)] (hp g m o) = some (some (.int (nI (goodsN q))), hp g m o) := by
  simp (disch := first | assumption | omega) only [f_X1_goods, kb_X1_goods_0, KL, KB, KC, KI, KJ, KZ, bI_0, bI_n, nI00, nI10, ne_eq, Classical.not_not, not_true_eq_false, not_false_eq_true, if_true, if_false, ite_not, ite_self, Bool.false_eq_true, nIne1, XO, nI_add, Nat.zero_add, e0, e1, e2, c_goodsOf]
def putO (g : GG) (X n r o : Nat) (q : Nat × Nat × Nat) : GG := upd2 (upd2 (upd2 (upd2 (upd2 (upd2 g 78 (2 + o) (g (X + 1) r)) 78 (4 + o) (nI (turnN n r q.1))) 78 (6 + o) (nI q.2.2)) 78 (8 + o) (g (X + 1) (6 + r))) 78 (10 + o) (nI q.2.1)) 78 (12 + o) (g (X + 1) (12 + r))
theorem c_putOne (g : GG) (m o X n r oo : Nat) (q : Nat × Nat × Nat) (hX : isX X) (hX1 : X + 1 ≠ 78) (hX0 : X ≠ 78) (en : g X 0 = nI n) (n3 : 3 ≤ n) (n6 : n ≤ 6) (hr : r < n) (ho : oo < 2) (ht : q.1 < n) (hs : q.2.1 ≤ 3) (hl : q.2.2 ≤ 9) : f_X4_putOne [.ref 77, .ref X, .int (nI r), .int (nI (goodsN q)), .int (nI oo)] (hp g m o) = some (none, hp (putO g X n r oo q) m o) := by
  have t1 := fun h => c_toIn q (by omega) hs hl h
  have t2 := fun h => c_sortIn q (by omega) hs hl h
  have t3 := fun h => c_loadIn q (by omega) hs hl h
  have t4 := fun h => c_turn n r q.1 n3 n6 hr ht h
  simp (disch := first | assumption | omega) only [f_X4_putOne, kb_X4_putOne_0, KL, KB, KC, KI, KJ, KZ, bI_0, bI_n, nI00, nI10, ne_eq, Classical.not_not, not_true_eq_false, not_false_eq_true, if_true, if_false, ite_not, ite_self, Bool.false_eq_true, nIne1, XO, O_pr, AR, nI_add, x_fact, t1, t2, t3, t4, Nat.zero_mul, Nat.zero_add, Nat.one_mul, Nat.reduceMul, upd2_ne, en]
  rfl
def fvec (n x y : Nat) (sz sl sg : Nat → Int32) (p q : Nat × Nat × Nat) (f : Int32) (i : Nat) : Int32 := match i with
  | 0 => if y = (x + 1) % n then nI 1 else nI 0
  | 1 => if x = (y + 1) % n then nI 1 else nI 0
  | 2 => sz x
  | 3 => sz y
  | 4 => nI (turnN n x p.1)
  | 5 => nI (turnN n y q.1)
  | 6 => nI p.2.2
  | 7 => nI q.2.2
  | 8 => sl x
  | 9 => sl y
  | 10 => nI p.2.1
  | 11 => nI q.2.1
  | 12 => sg x
  | 13 => sg y
  | 14 => f
  | _ => nI n
theorem modn {x n : Nat} (h : x < n) : (x + 1) % n = if x + 1 = n then 0 else x + 1 := by
  split
  · rename_i e; rw [e, Nat.mod_self]
  · exact Nat.mod_eq_of_lt (by omega)
theorem nI_back {x y n : Nat} (h : x ≤ y + n) : nI y - nI x + nI n = nI (y + n - x) := by
  rw [← nI_sub h, ← nI_add, Int32.sub_eq_add_neg, Int32.sub_eq_add_neg, Int32.add_assoc, Int32.add_assoc, Int32.add_comm (-nI x)]
theorem c_put (g : GG) (m o X n x y : Nat) (p q : Nat × Nat × Nat) (hX : isX X) (hX1 : X + 1 < 78) (en : g X 0 = nI n) (n3 : 3 ≤ n) (n6 : n ≤ 6) (hx : x < n) (hy : y < n) (hxy : x ≠ y) (hp1 : p.1 < n) (hp2 : p.2.1 ≤ 3) (hp3 : p.2.2 ≤ 9) (hq1 : q.1 < n) (hq2 : q.2.1 ≤ 3) (hq3 : q.2.2 ≤ 9) : ∃ g', f_X4_put [.ref 77, .ref X, .int (nI x), .int (nI (goodsN p)), .int (nI y), .int (nI (goodsN q))] (hp g m o) = some (none, hp g' m o) ∧ (∀ a, a ≠ 78 → g' a = g a) ∧ ∀ i, i < 16 → g' 78 i = fvec n x y (fun r => g (X + 1) r) (fun r => g (X + 1) (6 + r)) (fun r => g (X + 1) (12 + r)) p q (nI 0) i := by
  have key : ∀ (rd : Nat), rd < 100 → (rd = 1 ↔ y = (x + 1) % n) → (rd = n - 1 ↔ x = (y + 1) % n) → ∃ g', kb_X4_put_22 [.ref 77, .ref X, .int (nI x), .int (nI (goodsN p)), .int (nI y), .int (nI (goodsN q))] [.int (nI rd)] (hp g m o) = some (none, hp g' m o) ∧ (∀ a, a ≠ 78 → g' a = g a) ∧ ∀ i, i < 16 → g' 78 i = fvec n x y (fun r => g (X + 1) r) (fun r => g (X + 1) (6 + r)) (fun r => g (X + 1) (12 + r)) p q (nI 0) i := by
    intro rd hrd h1 h2
    have fin : ∀ (R L : Int32), R = fvec n x y (fun r => g (X + 1) r) (fun r => g (X + 1) (6 + r)) (fun r => g (X + 1) (12 + r)) p q (nI 0) 0 → L = fvec n x y (fun r => g (X + 1) r) (fun r => g (X + 1) (6 + r)) (fun r => g (X + 1) (12 + r)) p q (nI 0) 1 → ∃ g', kb_X4_put_62 [.ref 77, .ref X, .int (nI x), .int (nI (goodsN p)), .int (nI y), .int (nI (goodsN q)), .int (nI rd)] [.int L, .int (nI 1), .ref 78] (hp (upd2 g 78 0 R) m o) = some (none, hp g' m o) ∧ (∀ a, a ≠ 78 → g' a = g a) ∧ ∀ i, i < 16 → g' 78 i = fvec n x y (fun r => g (X + 1) r) (fun r => g (X + 1) (6 + r)) (fun r => g (X + 1) (12 + r)) p q (nI 0) i := by
      intro R L hR hL
      have en2 : ∀ v w u z : Int32, upd2 (upd2 (upd2 (upd2 g 78 0 v) 78 1 w) 78 14 u) 78 15 z X 0 = nI n := fun v w u z => by rw [uN (by omega), uN (by omega), uN (by omega), uN (by omega)]; exact en
      have en1 : ∀ v w u : Int32, upd2 (upd2 (upd2 g 78 0 v) 78 1 w) 78 14 u X 0 = nI n := fun v w u => by rw [uN (by omega), uN (by omega), uN (by omega)]; exact en
      have en3 : ∀ v w u z : Int32, putO (upd2 (upd2 (upd2 (upd2 g 78 0 v) 78 1 w) 78 14 u) 78 15 z) X n x 0 p X 0 = nI n := fun v w u z => by unfold putO; rw [uN (by omega), uN (by omega), uN (by omega), uN (by omega), uN (by omega), uN (by omega)]; exact en2 v w u z
      have o1 := fun v w u z => c_putOne (upd2 (upd2 (upd2 (upd2 g 78 0 v) 78 1 w) 78 14 u) 78 15 z) m o X n x 0 p hX (by omega) (by omega) (en2 v w u z) n3 n6 hx (by omega) hp1 hp2 hp3
      have o2 := fun v w u z => c_putOne (putO (upd2 (upd2 (upd2 (upd2 g 78 0 v) 78 1 w) 78 14 u) 78 15 z) X n x 0 p) m o X n y 1 q hX (by omega) (by omega) (en3 v w u z) n3 n6 hy (by omega) hq1 hq2 hq3
      refine ⟨putO (putO (upd2 (upd2 (upd2 (upd2 g 78 0 R) 78 1 L) 78 14 (nI 0)) 78 15 (nI n)) X n x 0 p) X n y 1 q, ?_, fun a ha => ?_, fun i hi => ?_⟩
      · simp (disch := first | assumption | omega) only [kb_X4_put_62, KL, KB, KC, KI, KJ, KZ, bI_0, bI_n, nI00, nI10, ne_eq, Classical.not_not, not_true_eq_false, not_false_eq_true, if_true, if_false, ite_not, ite_self, Bool.false_eq_true, nIne1, XO, O_pr, AR, en1, o1, o2]
      · unfold putO
        simp only [upd2_ne _ _ ha]
      · unfold putO
        have hi' : i = 0 ∨ i = 1 ∨ i = 2 ∨ i = 3 ∨ i = 4 ∨ i = 5 ∨ i = 6 ∨ i = 7 ∨ i = 8 ∨ i = 9 ∨ i = 10 ∨ i = 11 ∨ i = 12 ∨ i = 13 ∨ i = 14 ∨ i = 15 := by omega
        rcases hi' with rfl | rfl | rfl | rfl | rfl | rfl | rfl | rfl | rfl | rfl | rfl | rfl | rfl | rfl | rfl | rfl
        all_goals simp (disch := omega) only [Nat.reduceAdd, Nat.add_zero, upd2_other, upd2_same]
        · exact hR
        · exact hL
        all_goals rfl
    have hn1 : nI n - nI 1 = nI (n - 1) := nI_sub (by omega)
    by_cases q1 : rd = 1
    · have e1 : (nI rd = nI 1) = True := eq_true (by rw [q1])
      by_cases q2 : rd = n - 1
      · omega
      · have e2 : (nI rd = nI (n - 1)) = False := by rw [nIeq (by omega) (by omega)]; exact eq_false q2
        simp (disch := first | assumption | omega) only [kb_X4_put_22, kb_X4_put_40, KL, KB, KC, KI, KJ, KZ, bI_0, bI_n, nI00, nI10, ne_eq, Classical.not_not, not_true_eq_false, not_false_eq_true, if_true, if_false, ite_not, ite_self, Bool.false_eq_true, nIne1, XO, O_pr, AR, upd2_ne, en, hn1, e1, e2]
        exact fin _ _ (by show _ = if _ then _ else _; rw [if_pos (h1.mp q1)]) (by show _ = if _ then _ else _; rw [if_neg (fun z => q2 (h2.mpr z))])
    · have e1 : (nI rd = nI 1) = False := by rw [nIeq (by omega) (by omega)]; exact eq_false q1
      by_cases q2 : rd = n - 1
      · have e2 : (nI rd = nI (n - 1)) = True := eq_true (by rw [q2])
        simp (disch := first | assumption | omega) only [kb_X4_put_22, kb_X4_put_40, KL, KB, KC, KI, KJ, KZ, bI_0, bI_n, nI00, nI10, ne_eq, Classical.not_not, not_true_eq_false, not_false_eq_true, if_true, if_false, ite_not, ite_self, Bool.false_eq_true, nIne1, XO, O_pr, AR, upd2_ne, en, hn1, e1, e2]
        exact fin _ _ (by show _ = if _ then _ else _; rw [if_neg (fun z => q1 (h1.mpr z))]) (by show _ = if _ then _ else _; rw [if_pos (h2.mp q2)])
      · have e2 : (nI rd = nI (n - 1)) = False := by rw [nIeq (by omega) (by omega)]; exact eq_false q2
        simp (disch := first | assumption | omega) only [kb_X4_put_22, kb_X4_put_40, KL, KB, KC, KI, KJ, KZ, bI_0, bI_n, nI00, nI10, ne_eq, Classical.not_not, not_true_eq_false, not_false_eq_true, if_true, if_false, ite_not, ite_self, Bool.false_eq_true, nIne1, XO, O_pr, AR, upd2_ne, en, hn1, e1, e2]
        exact fin _ _ (by show _ = if _ then _ else _; rw [if_neg (fun z => q1 (h1.mpr z))]) (by show _ = if _ then _ else _; rw [if_neg (fun z => q2 (h2.mpr z))])
  by_cases hlt : x ≤ y
  · have e : (nI x ≤ nI y) = True := by rw [nIle (by omega) (by omega)]; exact eq_true hlt
    simp (disch := first | assumption | omega) only [f_X4_put, kb_X4_put_0, KL, KB, KC, KI, KJ, KZ, bI_0, bI_n, nI00, nI10, ne_eq, Classical.not_not, not_true_eq_false, not_false_eq_true, if_true, if_false, ite_not, ite_self, Bool.false_eq_true, nIne1, e, nI_sub]
    exact key (y - x) (by omega) (by rw [modn hx]; split <;> omega) (by rw [modn hy]; split <;> omega)
  · have e : (nI x ≤ nI y) = False := by rw [nIle (by omega) (by omega)]; exact eq_false hlt
    simp (disch := first | assumption | omega) only [f_X4_put, kb_X4_put_0, KL, KB, KC, KI, KJ, KZ, bI_0, bI_n, nI00, nI10, ne_eq, Classical.not_not, not_true_eq_false, not_false_eq_true, if_true, if_false, ite_not, ite_self, Bool.false_eq_true, nIne1, XO, en, e, nI_back]
    exact key (y + n - x) (by omega) (by rw [modn hx]; split <;> omega) (by rw [modn hy]; split <;> omega)
