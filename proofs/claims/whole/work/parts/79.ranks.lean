-- ===== the model: orders, ranks =====
theorem m_orders (n : Nat) (n6 : n ≤ 6) (h : HP) : f_X11_orders [.int (nI n)] h = some (some (.int (nI (ordMany n))), h) := by
  unfold ordMany
  by_cases h3 : n = 3
  · subst h3
    have e : (nI 3 = nI 3) = True := eq_true rfl
    simp (disch := first | assumption | omega) only [f_X11_orders, kb_X11_orders_21, kb_X11_orders_0, KL, KB, KC, KI, KJ, KZ, bI_0, bI_n, nI00, nI10, ne_eq, Classical.not_not, not_true_eq_false, not_false_eq_true, if_true, if_false, ite_not, ite_self, Bool.false_eq_true, nIne1, e]
  · by_cases h4 : n = 4
    · subst h4
      have e3 : (nI 4 = nI 3) = False := eq_false (by decide)
      have e : (nI 4 = nI 4) = True := eq_true rfl
      simp (disch := first | assumption | omega) only [f_X11_orders, kb_X11_orders_21, kb_X11_orders_0, KL, KB, KC, KI, KJ, KZ, bI_0, bI_n, nI00, nI10, ne_eq, Classical.not_not, not_true_eq_false, not_false_eq_true, if_true, if_false, ite_not, ite_self, Bool.false_eq_true, nIne1, e3, e]
      rfl
    · have e3 : (n = 3) = False := eq_false h3
      have e4 : (n = 4) = False := eq_false h4
      simp (disch := first | assumption | omega) only [f_X11_orders, kb_X11_orders_21, kb_X11_orders_0, KL, KB, KC, KI, KJ, KZ, bI_0, bI_n, nI00, nI10, ne_eq, Classical.not_not, not_true_eq_false, not_false_eq_true, if_true, if_false, ite_not, ite_self, Bool.false_eq_true, nIne1, nIeq, e3, e4]
def ordAt (n k p : Nat) : Nat := (ordRow n k).getD p 0
theorem ord_perm : (List.range 4).all (fun a => (List.range (ordMany (a + 3))).all (fun k => (List.range (a + 3)).all (fun p => decide (ordAt (a + 3) k p < a + 3) && decide (ordRank (a + 3) k (ordAt (a + 3) k p) = p) && decide (ordRank (a + 3) k p < a + 3) && decide (ordAt (a + 3) k (ordRank (a + 3) k p) = p)))) = true := by decide +kernel
theorem ord_p {n k p : Nat} (n3 : 3 ≤ n) (n6 : n ≤ 6) (hk : k < ordMany n) (hp' : p < n) : ordAt n k p < n ∧ ordRank n k (ordAt n k p) = p ∧ ordRank n k p < n ∧ ordAt n k (ordRank n k p) = p := by
  have h := ord_perm
  rw [List.all_eq_true] at h
  have h1 := h (n - 3) (List.mem_range.mpr (by omega))
  rw [show n - 3 + 3 = n by omega, List.all_eq_true] at h1
  have h2 := h1 k (List.mem_range.mpr hk)
  rw [List.all_eq_true] at h2
  have h3 := h2 p (List.mem_range.mpr hp')
  rw [Bool.and_eq_true, Bool.and_eq_true, Bool.and_eq_true] at h3
  exact ⟨of_decide_eq_true h3.1.1.1, of_decide_eq_true h3.1.1.2, of_decide_eq_true h3.1.2, of_decide_eq_true h3.2⟩
/-- where the reference's choice of a road stops -/
def selR : Nat → Nat → Nat → Nat → Option Nat
  | 0, _, _, _ => none
  | f + 1, u, nth, r => if u.testBit r = true ∨ 0 < nth then selR f u (nth - (if u.testBit r = true then 0 else 1)) (r + 1) else some r
/-- what is left, what is used, how many ways, when place p is to be filled -/
def stT (n k : Nat) : Nat → Nat × Nat × Nat
  | 0 => (k, 0, ordMany n)
  | p + 1 => ((stT n k p).1 % ((stT n k p).2.2 / (n - p)), (stT n k p).2.1 ||| 1 <<< ordAt n k p, (stT n k p).2.2 / (n - p))
theorem st_all : (List.range 2).all (fun a => (List.range (ordMany (a + 3))).all (fun k => (List.range (a + 3)).all (fun p => decide (0 < (stT (a + 3) k p).2.2 / (a + 3 - p)) && decide (selR 12 (stT (a + 3) k p).2.1 ((stT (a + 3) k p).1 / ((stT (a + 3) k p).2.2 / (a + 3 - p))) 0 = some (ordAt (a + 3) k p)) && decide ((stT (a + 3) k p).2.1 < 64) && decide ((stT (a + 3) k p).1 < 1000) && decide ((stT (a + 3) k p).2.2 < 1000)))) = true := by decide +kernel
theorem st_p {n k p : Nat} (n3 : 3 ≤ n) (n4 : n ≤ 4) (hk : k < ordMany n) (hp' : p < n) : 0 < (stT n k p).2.2 / (n - p) ∧ selR 12 (stT n k p).2.1 ((stT n k p).1 / ((stT n k p).2.2 / (n - p))) 0 = some (ordAt n k p) ∧ (stT n k p).2.1 < 64 ∧ (stT n k p).1 < 1000 ∧ (stT n k p).2.2 < 1000 := by
  have h := st_all
  rw [List.all_eq_true] at h
  have h1 := h (n - 3) (List.mem_range.mpr (by omega))
  rw [show n - 3 + 3 = n by omega, List.all_eq_true] at h1
  have h2 := h1 k (List.mem_range.mpr hk)
  rw [List.all_eq_true] at h2
  have h3 := h2 p (List.mem_range.mpr hp')
  rw [Bool.and_eq_true, Bool.and_eq_true, Bool.and_eq_true, Bool.and_eq_true] at h3
  exact ⟨of_decide_eq_true h3.1.1.1.1, of_decide_eq_true h3.1.1.1.2, of_decide_eq_true h3.1.1.2, of_decide_eq_true h3.1.2, of_decide_eq_true h3.2⟩
theorem m_rk90 (s55 : KK) (g : GG) (m o u p r' : Nat) (left ways : Value) (hu : u < 64) (hr' : r' < 6) (Q : RS → Prop) (hQ : ∀ (v6 v7 : Value) (w : List Value), Q (s55 ([.ref 188, .long 0, left, .int (nI (u ||| 1 <<< r')), ways, .int (nI (p + 1)), v6, v7] ++ w) [] (hp (upd2 g 203 r' (nI p)) m o))) : ∀ f nth r, f + r ≤ 12 → nth < 1000 → selR f u nth r = some r' → ∀ (v1 : Value) (w : List Value), Q (kl_X11_ranks_90 s55 ([.ref 188, v1, left, .int (nI u), ways, .int (nI p), .int (nI nth), .int (nI r)] ++ w) [] (hp g m o)) := by
  intro f nth r hfr hn hsel v1 w
  unfold kl_X11_ranks_90
  refine kFix_rule (fun k ls st h' => st = [] ∧ ∃ (nth r : Nat) (v1 : Value) (w : List Value), k + r ≤ 12 ∧ nth < 1000 ∧ selR k u nth r = some r' ∧ ls = [.ref 188, v1, left, .int (nI u), ways, .int (nI p), .int (nI nth), .int (nI r)] ++ w ∧ h' = hp g m o) Q ?_ FU f (by show f < 10000; omega) _ _ _ ⟨rfl, nth, r, v1, w, hfr, hn, hsel, rfl, rfl⟩
  rintro s0 k ih ls st h' ⟨rfl, nth, r, v1, w, h1, h2, h3, rfl, rfl⟩
  cases k with
  | zero => cases h3
  | succ k =>
    have h3' : (if u.testBit r = true ∨ 0 < nth then selR k u (nth - (if u.testBit r = true then 0 else 1)) (r + 1) else some r) = some r' := h3
    cases hb : u.testBit r with
    | true =>
      rw [hb] at h3'
      rw [if_pos (Or.inl rfl), if_pos rfl, Nat.sub_zero] at h3'
      have hbb : ((u >>> r).testBit 0 = true) = True := by rw [Nat.testBit_shiftRight, Nat.add_zero, hb]; simp
      simp (disch := first | assumption | omega) only [kb_X11_ranks_122, kb_X11_ranks_105, KL, KB, KC, KI, KJ, KZ, bI_0, bI_n, nI00, nI10, ne_eq, Classical.not_not, not_true_eq_false, not_false_eq_true, if_true, if_false, ite_not, ite_self, Bool.false_eq_true, nIne1, List.cons_append, List.nil_append, kMask, mask, nI_shr, nI_and, bit1, hbb, nI_sub, Nat.sub_zero, nI_add]
      exact ih k (by omega) _ _ _ ⟨rfl, nth, r + 1, .long 0, [], by omega, h2, h3', rfl, rfl⟩
    | false =>
      rw [hb] at h3'
      have hbb : ((u >>> r).testBit 0 = true) = False := by rw [Nat.testBit_shiftRight, Nat.add_zero, hb]; simp
      by_cases hn0 : 0 < nth
      · rw [if_pos (Or.inr hn0), if_neg (by decide)] at h3'
        have hle : (nI nth ≤ 0) = False := by rw [nIle0 (by omega)]; exact eq_false (by omega)
        simp (disch := first | assumption | omega) only [kb_X11_ranks_122, kb_X11_ranks_105, KL, KB, KC, KI, KJ, KZ, bI_0, bI_n, nI00, nI10, ne_eq, Classical.not_not, not_true_eq_false, not_false_eq_true, if_true, if_false, ite_not, ite_self, Bool.false_eq_true, nIne1, List.cons_append, List.nil_append, kMask, mask, nI_shr, nI_and, bit1, hbb, hle, nI_sub, nI_add]
        exact ih k (by omega) _ _ _ ⟨rfl, nth - 1, r + 1, .long 0, [], by omega, by omega, h3', rfl, rfl⟩
      · rw [if_neg (fun q => by rcases q with q | q; exact absurd q (by decide); exact hn0 q)] at h3'
        cases h3'
        have hle : (nI nth ≤ 0) = True := by rw [nIle0 (by omega)]; exact eq_true (by omega)
        have := hQ (.int (nI nth)) (.int (nI r')) []
        simp only [List.cons_append, List.nil_append] at this
        simp (disch := first | assumption | omega) only [kb_X11_ranks_122, kb_X11_ranks_105, KL, KB, KC, KI, KJ, KZ, bI_0, bI_n, nI00, nI10, ne_eq, Classical.not_not, not_true_eq_false, not_false_eq_true, if_true, if_false, ite_not, ite_self, Bool.false_eq_true, nIne1, List.cons_append, List.nil_append, kMask, mask, nI_shr, nI_and, bit1, hbb, hle, nI_shl, nI_or, O_mo, AR, nI_add]
        exact this
theorem m_ranks (g : GG) (m o n k : Nat) (n3 : 3 ≤ n) (n6 : n ≤ 6) (en : g 188 20 = nI n) (hk : k < ordMany n) : ∃ g', f_X11_ranks [.ref 188, .int (nI k)] (hp g m o) = some (none, hp g' m o) ∧ (∀ a, a ≠ 203 → g' a = g a) ∧ ∀ r, r < n → g' 203 r = nI (ordRank n k r) := by
  have hk24 : k < 24 := Nat.lt_of_lt_of_le hk (ordMany_le n6)
  have stepF : ∀ (g' : GG) (i : Nat), i < n → (∀ r, r < n → ordRank n k r < i → g' 203 r = nI (ordRank n k r)) → ∀ r, r < n → ordRank n k r < i + 1 → upd2 g' 203 (ordAt n k i) (nI i) 203 r = nI (ordRank n k r) := fun g' i hi h r hr hlt => by
    by_cases q : r = ordAt n k i
    · rw [q, uS, (ord_p n3 n6 hk hi).2.1]
    · rw [uO (Or.inr q)]
      refine h r hr ?_
      have : ordRank n k r ≠ i := fun e => q (by rw [← e, (ord_p n3 n6 hk hr).2.2.2])
      omega
  by_cases h4 : 4 < n
  · have hle : (n ≤ 4) = False := eq_false (by omega)
    have hat : ∀ i, i < n → (k + i) % n = ordAt n k i := fun i hi => by
      unfold ordAt ordRow
      rw [if_neg (by omega), List.getD_eq_getElem?_getD, List.getElem?_map, List.getElem?_range hi]
      rfl
    have hn0 : (nI n = 0) = False := by rw [nIk0 (by omega)]; exact eq_false (by omega)
    have hf0 : f_X11_ranks [.ref 188, .int (nI k)] (hp g m o) = kl_X11_ranks_10 [.ref 188, .int (nI k), .int (nI 0)] [] (hp g m o) := by
      simp (disch := first | assumption | omega) only [f_X11_ranks, kb_X11_ranks_0, KL, KB, KC, KI, KJ, KZ, bI_0, bI_n, nI00, nI10, ne_eq, Classical.not_not, not_true_eq_false, not_false_eq_true, if_true, if_false, ite_not, ite_self, Bool.false_eq_true, nIne1, O_mo, en, nIle, hle]
    rw [hf0]
    unfold kl_X11_ranks_10
    refine kFor n (by unfold FU; omega) (fun i ls h' => ∃ g' : GG, ls = [.ref 188, .int (nI k), .int (nI i)] ∧ h' = hp g' m o ∧ (∀ a, a ≠ 203 → g' a = g a) ∧ ∀ r, r < n → ordRank n k r < i → g' 203 r = nI (ordRank n k r)) (fun r => ∃ g', r = some (none, hp g' m o) ∧ (∀ a, a ≠ 203 → g' a = g a) ∧ ∀ r, r < n → g' 203 r = nI (ordRank n k r)) ?_ ?_ 0 _ _ (by omega) ⟨g, rfl, rfl, fun _ _ => rfl, fun r _ hr => by omega⟩
    · rintro s0 ls h' ⟨g', rfl, rfl, h1, h2⟩
      have e : g' 188 20 = nI n := by rw [h1 188 (by omega)]; exact en
      have hin : (n ≤ n) = True := eq_true (by omega)
      simp (disch := first | assumption | omega) only [KL, KB, KC, KI, KJ, KZ, bI_0, bI_n, nI00, nI10, ne_eq, Classical.not_not, not_true_eq_false, not_false_eq_true, if_true, if_false, ite_not, ite_self, Bool.false_eq_true, nIne1, kMask, mask, O_mo, e, nIle, hin]
      exact ⟨g', rfl, h1, fun r hr => h2 r hr (ord_p n3 n6 hk hr).2.2.1⟩
    · rintro s0 i hi ih ls h' ⟨g', rfl, rfl, h1, h2⟩
      have e : g' 188 20 = nI n := by rw [h1 188 (by omega)]; exact en
      have hin : (n ≤ i) = False := eq_false (by omega)
      have hlt : (k + i) % n < 6 := by have := Nat.mod_lt (k + i) (show 0 < n by omega); omega
      simp (disch := first | assumption | omega) only [KL, KB, KC, KI, KJ, KZ, bI_0, bI_n, nI00, nI10, ne_eq, Classical.not_not, not_true_eq_false, not_false_eq_true, if_true, if_false, ite_not, ite_self, Bool.false_eq_true, nIne1, kMask, mask, O_mo, AR, e, nIle, hin, nI_add, hn0, nI_div, nI_rem2]
      rw [hat i hi]
      exact ih _ _ ⟨_, rfl, rfl, fun a ha => by rw [uN ha]; exact h1 a ha, stepF g' i hi h2⟩
  · have hle : (n ≤ 4) = True := eq_true (by omega)
    have eo := fun h => m_orders n n6 h
    have hf0 : f_X11_ranks [.ref 188, .int (nI k)] (hp g m o) = kl_X11_ranks_55 [.ref 188, .int (nI k), .int (nI k), .int (nI 0), .int (nI (ordMany n)), .int (nI 0)] [] (hp g m o) := by
      simp (disch := first | assumption | omega) only [f_X11_ranks, kb_X11_ranks_0, KL, KB, KC, KI, KJ, KZ, bI_0, bI_n, nI00, nI10, ne_eq, Classical.not_not, not_true_eq_false, not_false_eq_true, if_true, if_false, ite_not, ite_self, Bool.false_eq_true, nIne1, O_mo, en, nIle, hle, eo]
    rw [hf0]
    unfold kl_X11_ranks_55
    refine kFor n (by unfold FU; omega) (fun i ls h' => ∃ (g' : GG) (v1 : Value) (w : List Value), ls = [.ref 188, v1, .int (nI (stT n k i).1), .int (nI (stT n k i).2.1), .int (nI (stT n k i).2.2), .int (nI i)] ++ w ∧ h' = hp g' m o ∧ (∀ a, a ≠ 203 → g' a = g a) ∧ ∀ r, r < n → ordRank n k r < i → g' 203 r = nI (ordRank n k r)) (fun r => ∃ g', r = some (none, hp g' m o) ∧ (∀ a, a ≠ 203 → g' a = g a) ∧ ∀ r, r < n → g' 203 r = nI (ordRank n k r)) ?_ ?_ 0 _ _ (by omega) ⟨g, _, [], rfl, rfl, fun _ _ => rfl, fun r _ hr => by omega⟩
    · rintro s0 ls h' ⟨g', v1, w, rfl, rfl, h1, h2⟩
      have e : g' 188 20 = nI n := by rw [h1 188 (by omega)]; exact en
      have hin : (n ≤ n) = True := eq_true (by omega)
      simp (disch := first | assumption | omega) only [KL, KB, KC, KI, KJ, KZ, bI_0, bI_n, nI00, nI10, ne_eq, Classical.not_not, not_true_eq_false, not_false_eq_true, if_true, if_false, ite_not, ite_self, Bool.false_eq_true, nIne1, List.cons_append, List.nil_append, kMask, mask, O_mo, e, nIle, hin]
      exact ⟨g', rfl, h1, fun r hr => h2 r hr (ord_p n3 n6 hk hr).2.2.1⟩
    · rintro s0 i hi ih ls h' ⟨g', v1, w, rfl, rfl, h1, h2⟩
      have e : g' 188 20 = nI n := by rw [h1 188 (by omega)]; exact en
      have hin : (n ≤ i) = False := eq_false (by omega)
      obtain ⟨t1, t2, t3, t4, t5⟩ := st_p n3 (by omega) hk hi
      have hsub : stT n k (i + 1) = ((stT n k i).1 % ((stT n k i).2.2 / (n - i)), (stT n k i).2.1 ||| 1 <<< ordAt n k i, (stT n k i).2.2 / (n - i)) := rfl
      generalize hT : stT n k i = T at *
      have hni : (nI (n - i) = 0) = False := by rw [nIk0 (by omega)]; exact eq_false (by omega)
      have hwl : T.2.2 / (n - i) < 2147483648 := by have : T.2.2 / (n - i) ≤ T.2.2 := Nat.div_le_self _ _; omega
      have hw0 : (nI (T.2.2 / (n - i)) = 0) = False := by rw [nIk0 hwl]; exact eq_false (by omega)
      have hl1 : T.1 / (T.2.2 / (n - i)) < 1000 := by have : T.1 / (T.2.2 / (n - i)) ≤ T.1 := Nat.div_le_self _ _; omega
      have h22 : T.2.2 < 2147483648 := by omega
      have h11 : T.1 < 2147483648 := by omega
      have hnl : n - i < 2147483648 := by omega
      have hoa := (ord_p n3 n6 hk hi).1
      have hgo := m_rk90 s0 g' m o T.2.1 i (ordAt n k i) (.int (nI (T.1 % (T.2.2 / (n - i))))) (.int (nI (T.2.2 / (n - i)))) t3 (by omega) (fun r => ∃ g', r = some (none, hp g' m o) ∧ (∀ a, a ≠ 203 → g' a = g a) ∧ ∀ r, r < n → g' 203 r = nI (ordRank n k r)) (fun v6 v7 w => ih _ _ ⟨_, .long 0, [v6, v7] ++ w, by rw [hsub]; rfl, rfl, fun a ha => by rw [uN ha]; exact h1 a ha, stepF g' i hi h2⟩) 12 _ 0 (by omega) hl1 t2 (.long 0)
      have g0 := hgo []
      simp only [List.cons_append, List.nil_append] at g0
      have g1 := fun w => hgo w
      simp only [List.cons_append, List.nil_append] at g1
      match w with
      | [] =>
        simp (disch := first | assumption | omega) only [KL, KB, KC, KI, KJ, KZ, bI_0, bI_n, nI00, nI10, ne_eq, Classical.not_not, not_true_eq_false, not_false_eq_true, if_true, if_false, ite_not, ite_self, Bool.false_eq_true, nIne1, List.cons_append, List.nil_append, kMask, mask, O_mo, e, nIle, hin, nI_sub, hni, nI_div, hw0, nI_rem2]
        exact g0
      | [w0] =>
        simp (disch := first | assumption | omega) only [KL, KB, KC, KI, KJ, KZ, bI_0, bI_n, nI00, nI10, ne_eq, Classical.not_not, not_true_eq_false, not_false_eq_true, if_true, if_false, ite_not, ite_self, Bool.false_eq_true, nIne1, List.cons_append, List.nil_append, kMask, mask, O_mo, e, nIle, hin, nI_sub, hni, nI_div, hw0, nI_rem2]
        exact g0
      | w0 :: w1 :: w2 =>
        simp (disch := first | assumption | omega) only [KL, KB, KC, KI, KJ, KZ, bI_0, bI_n, nI00, nI10, ne_eq, Classical.not_not, not_true_eq_false, not_false_eq_true, if_true, if_false, ite_not, ite_self, Bool.false_eq_true, nIne1, List.cons_append, List.nil_append, kMask, mask, O_mo, e, nIle, hin, nI_sub, hni, nI_div, hw0, nI_rem2]
        exact g0
