-- ===== what is asked of two carts: the class's Pair =====
theorem x_fact (g : GG) (m o X w r : Nat) (hX : isX X) (hw : w < 5) (hr : r < 6) : f_X1_fact [.ref X, .int (nI w), .int (nI r)] (hp g m o) = some (some (.int (g (X + 1) (w * 6 + r))), hp g m o) := by
  simp (disch := first | assumption | omega) only [f_X1_fact, kb_X1_fact_0, KL, KB, KC, KI, KJ, KZ, bI_0, bI_n, nI00, nI10, ne_eq, Classical.not_not, not_true_eq_false, not_false_eq_true, if_true, if_false, ite_not, ite_self, Bool.false_eq_true, nIne1, XO, nI_mul, nI_add]
theorem x_goods (g : GG) (m o X r : Nat) (q : Nat × Nat × Nat) (hX : isX X) (hr : r < 6) (e0 : g (X + 2) r = nI q.1) (e1 : g (X + 2) (6 + r) = nI q.2.1) (e2 : g (X + 2) (12 + r) = nI q.2.2) : f_X1_goods [.ref X, .int (nI r)] (hp g m o) = some (some (.int (nI (goodsN q))), hp g m o) := by
  simp (disch := first | assumption | omega) only [f_X1_goods, kb_X1_goods_0, KL, KB, KC, KI, KJ, KZ, bI_0, bI_n, nI00, nI10, ne_eq, Classical.not_not, not_true_eq_false, not_false_eq_true, if_true, if_false, ite_not, ite_self, Bool.false_eq_true, nIne1, XO, nI_add, Nat.zero_add, e0, e1, e2, c_goodsOf]
def putO (g : GG) (X n r o : Nat) (q : Nat × Nat × Nat) : GG := upd2 (upd2 (upd2 (upd2 (upd2 (upd2 g 82 (2 + o) (g (X + 1) r)) 82 (4 + o) (nI (turnN n r q.1))) 82 (6 + o) (nI q.2.2)) 82 (8 + o) (g (X + 1) (6 + r))) 82 (10 + o) (nI q.2.1)) 82 (12 + o) (g (X + 1) (12 + r))
theorem c_putOne (g : GG) (m o X n r oo : Nat) (q : Nat × Nat × Nat) (hX : isX X) (hX1 : X + 1 ≠ 82) (hX0 : X ≠ 82) (en : g X 0 = nI n) (n3 : 3 ≤ n) (n6 : n ≤ 6) (hr : r < n) (ho : oo < 2) (ht : q.1 < n) (hs : q.2.1 ≤ 3) (hl : q.2.2 ≤ 9) : f_X4_putOne [.ref 81, .ref X, .int (nI r), .int (nI (goodsN q)), .int (nI oo)] (hp g m o) = some (none, hp (putO g X n r oo q) m o) := by
  have t1 := fun h => c_toIn q (by omega) hs hl h
  have t2 := fun h => c_sortIn q (by omega) hs hl h
  have t3 := fun h => c_loadIn q (by omega) hs hl h
  have t4 := fun h => c_turn n r q.1 n3 n6 hr ht h
  simp (disch := first | assumption | omega) only [f_X4_putOne, kb_X4_putOne_0, KL, KB, KC, KI, KJ, KZ, bI_0, bI_n, nI00, nI10, ne_eq, Classical.not_not, not_true_eq_false, not_false_eq_true, if_true, if_false, ite_not, ite_self, Bool.false_eq_true, nIne1, XO, O_pr, AR, nI_add, x_fact, t1, t2, t3, t4, Nat.zero_mul, Nat.zero_add, Nat.one_mul, Nat.reduceMul, upd2_ne, en]
  rfl
