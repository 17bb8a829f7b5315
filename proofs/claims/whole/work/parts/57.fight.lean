-- ===== two that fight; taking away =====
theorem firstJ_f {p : Nat → Bool} {k i : Nat} (h : p i = false) : firstJ p (k + 1) i = firstJ p k (i + 1) := if_neg (by rw [h]; decide)
theorem firstJ_t {p : Nat → Bool} {k i : Nat} (h : p i = true) : firstJ p (k + 1) i = nI i := if_pos h
/-- whether a greater one of the set fights with x -/
def ffP (n s : Nat) (F : Nat → Nat → Bool) (x : Nat) : Bool := decide (firstJ (fun y => s.testBit x && s.testBit y && F x y) (n - (x + 1)) (x + 1) ≠ -1)
def ffJ (n s : Nat) (F : Nat → Nat → Bool) : Int32 := firstJ (ffP n s F) n 0
theorem x_cF (g : GG) (m o X x y a b : Nat) (hX : isX X) (hx : x < 6) (hy : y < 6) (e1 : g (X + 2) x = nI a) (e2 : g (X + 2) y = nI b) (ha : a < 6) (hb : b < 6) : f_X1_cartsFight [.ref X, .int (nI x), .int (nI y)] (hp g m o) = some (some (.int (bW (wayB x a y b))), hp g m o) := by
  have hw := fun h => c_ways x a y b (by omega) (by omega) (by omega) (by omega) h
  simp (disch := first | assumption | omega) only [f_X1_cartsFight, kb_X1_cartsFight_0, KL, KB, KC, KI, KJ, KZ, bI_0, bI_n, nI00, nI10, ne_eq, Classical.not_not, not_true_eq_false, not_false_eq_true, if_true, if_false, ite_not, ite_self, Bool.false_eq_true, nIne1, XO, nI_add, Nat.zero_add, e1, e2, hw]
  unfold bW
  split <;> rfl
theorem bit2 (s x y : Nat) : (nI ((s >>> x &&& s >>> y) &&& 1) = 0) = ((s.testBit x && s.testBit y) = false) := by
  rw [bit0, Nat.testBit_and, Nat.testBit_shiftRight, Nat.testBit_shiftRight, Nat.add_zero, Nat.add_zero]
theorem bit2' (s x y : Nat) : (nI ((s >>> x &&& s >>> y) &&& 1) = nI 1) = ((s.testBit x && s.testBit y) = true) := by
  rw [bit1, Nat.testBit_and, Nat.testBit_shiftRight, Nat.testBit_shiftRight, Nat.add_zero, Nat.add_zero]
theorem c_ff14 {X n s : Nat} {tt : Nat → Nat} {g : GG} {m o : Nat} (hX : isX X) (en : g X 0 = nI n) (n6 : n ≤ 6) (hs : s < 64) (ht : ∀ r, r < n → s.testBit r = true → g (X + 2) r = nI (tt r) ∧ tt r < 6) (s2 : KK) (x : Nat) (hx : x < n) (u : List Value) : kl_X1_firstFighting_14 s2 ([.ref X, .int (nI s), .int (nI x), .int (nI (x + 1))] ++ u) [] (hp g m o) = if ffP n s (fun x y => wayB x (tt x) y (tt y)) x = true then some (some (.int (nI x)), hp g m o) else s2 [.ref X, .int (nI s), .int (nI (x + 1)), .int (nI n)] [] (hp g m o) := by
  unfold kl_X1_firstFighting_14
  refine kFor n (by unfold FU; omega) (fun i ls h => ∃ u, ls = [.ref X, .int (nI s), .int (nI x), .int (nI i)] ++ u ∧ h = hp g m o ∧ firstJ (fun y => s.testBit x && s.testBit y && wayB x (tt x) y (tt y)) (n - (x + 1)) (x + 1) = firstJ (fun y => s.testBit x && s.testBit y && wayB x (tt x) y (tt y)) (n - i) i) (fun r => r = if ffP n s (fun x y => wayB x (tt x) y (tt y)) x = true then some (some (.int (nI x)), hp g m o) else s2 [.ref X, .int (nI s), .int (nI (x + 1)), .int (nI n)] [] (hp g m o)) ?_ ?_ (x + 1) _ _ (by omega) ⟨u, rfl, rfl, rfl⟩
  · rintro s0 ls h ⟨u, rfl, rfl, h2⟩
    have hin : (n ≤ n) = True := eq_true (by omega)
    have hf : ffP n s (fun x y => wayB x (tt x) y (tt y)) x = false := by
      unfold ffP
      rw [h2, Nat.sub_self]
      exact decide_eq_false (fun q => q rfl)
    simp (disch := first | assumption | omega) only [KL, KB, KC, KI, KJ, KZ, bI_0, bI_n, nI00, nI10, ne_eq, Classical.not_not, not_true_eq_false, not_false_eq_true, if_true, if_false, ite_not, ite_self, Bool.false_eq_true, nIne1, List.cons_append, List.nil_append, kMask, mask, XO, en, nIle, hin, hf, nI_add]
  · rintro s0 i hi ih ls h ⟨u, rfl, rfl, h2⟩
    have hin : (n ≤ i) = False := eq_false (by omega)
    rw [show n - i = (n - (i + 1)) + 1 by omega] at h2
    cases hb : (s.testBit x && s.testBit i) with
    | false =>
      have hb' : ((s.testBit x && s.testBit i) = false) = True := eq_true hb
      have h3 := h2.trans (firstJ_f (by rw [hb]; rfl))
      simp (disch := first | assumption | omega) only [f_X1_firstFighting, kb_X1_firstFighting_45, kb_X1_firstFighting_0, KL, KB, KC, KI, KJ, KZ, bI_0, bI_n, nI00, nI10, ne_eq, Classical.not_not, not_true_eq_false, not_false_eq_true, if_true, if_false, ite_not, ite_self, Bool.false_eq_true, nIne1, List.cons_append, List.nil_append, kMask, mask, XO, en, nIle, hin, nI_shr, nI_and, bit2, hb', nI_add]
      exact ih _ _ ⟨_, rfl, rfl, h3⟩
    | true =>
      have hb' : ((s.testBit x && s.testBit i) = false) = False := eq_false (by rw [hb]; decide)
      rw [Bool.and_eq_true] at hb
      obtain ⟨e1, b1⟩ := ht x hx hb.1
      obtain ⟨e2, b2⟩ := ht i hi hb.2
      have e4 := x_cF g m o X x i (tt x) (tt i) hX (by omega) (by omega) e1 e2 b1 b2
      cases w : wayB x (tt x) i (tt i) with
      | true =>
        have h3 := h2.trans (firstJ_t (by rw [hb.1, hb.2, w]; rfl))
        have hf : ffP n s (fun x y => wayB x (tt x) y (tt y)) x = true := by
          unfold ffP
          rw [h3]
          exact decide_eq_true (fun q => (nIne1 (by omega)).mp q)
        rw [w] at e4
        simp (disch := first | assumption | omega) only [f_X1_firstFighting, kb_X1_firstFighting_45, kb_X1_firstFighting_0, KL, KB, KC, KI, KJ, KZ, bI_0, bI_n, nI00, nI10, ne_eq, Classical.not_not, not_true_eq_false, not_false_eq_true, if_true, if_false, ite_not, ite_self, Bool.false_eq_true, nIne1, List.cons_append, List.nil_append, kMask, mask, XO, en, nIle, hin, nI_shr, nI_and, bit2, hb', e4, bW_t, hf]
      | false =>
        have h3 := h2.trans (firstJ_f (by rw [w, Bool.and_false]))
        rw [w] at e4
        simp (disch := first | assumption | omega) only [f_X1_firstFighting, kb_X1_firstFighting_45, kb_X1_firstFighting_0, KL, KB, KC, KI, KJ, KZ, bI_0, bI_n, nI00, nI10, ne_eq, Classical.not_not, not_true_eq_false, not_false_eq_true, if_true, if_false, ite_not, ite_self, Bool.false_eq_true, nIne1, List.cons_append, List.nil_append, kMask, mask, XO, en, nIle, hin, nI_shr, nI_and, bit2, hb', e4, bW_f, nI_add]
        exact ih _ _ ⟨_, rfl, rfl, h3⟩
theorem c_firstF {X n s : Nat} {tt : Nat → Nat} {g : GG} {m o : Nat} (hX : isX X) (en : g X 0 = nI n) (n6 : n ≤ 6) (hs : s < 64) (ht : ∀ r, r < n → s.testBit r = true → g (X + 2) r = nI (tt r) ∧ tt r < 6) : f_X1_firstFighting [.ref X, .int (nI s)] (hp g m o) = some (some (.int (ffJ n s (fun x y => wayB x (tt x) y (tt y)))), hp g m o) := by
  simp (disch := first | assumption | omega) only [f_X1_firstFighting, kb_X1_firstFighting_45, kb_X1_firstFighting_0, KL, KB, KC, KI, KJ, KZ, bI_0, bI_n, nI00, nI10, ne_eq, Classical.not_not, not_true_eq_false, not_false_eq_true, if_true, if_false, ite_not, ite_self, Bool.false_eq_true, nIne1]
  unfold kl_X1_firstFighting_2
  refine kFor n (by unfold FU; omega) (fun i ls h => ∃ u, ls = [.ref X, .int (nI s), .int (nI i)] ++ u ∧ h = hp g m o ∧ ffJ n s (fun x y => wayB x (tt x) y (tt y)) = firstJ (ffP n s (fun x y => wayB x (tt x) y (tt y))) (n - i) i) (fun r => r = some (some (.int (ffJ n s (fun x y => wayB x (tt x) y (tt y)))), hp g m o)) ?_ ?_ 0 _ _ (by omega) ⟨[], rfl, rfl, rfl⟩
  · rintro s0 ls h ⟨u, rfl, rfl, h2⟩
    have hin : (n ≤ n) = True := eq_true (by omega)
    simp (disch := first | assumption | omega) only [KL, KB, KC, KI, KJ, KZ, bI_0, bI_n, nI00, nI10, ne_eq, Classical.not_not, not_true_eq_false, not_false_eq_true, if_true, if_false, ite_not, ite_self, Bool.false_eq_true, nIne1, List.cons_append, List.nil_append, kMask, mask, XO, en, nIle, hin]
    rw [h2, Nat.sub_self]; rfl
  · rintro s0 i hi ih ls h ⟨u, rfl, rfl, h2⟩
    have hin : (n ≤ i) = False := eq_false (by omega)
    rw [show n - i = (n - (i + 1)) + 1 by omega] at h2
    have hI := c_ff14 (m := m) (o := o) hX en n6 hs ht s0 i hi []
    simp only [List.append_nil] at hI
    simp (disch := first | assumption | omega) only [KL, KB, KC, KI, KJ, KZ, bI_0, bI_n, nI00, nI10, ne_eq, Classical.not_not, not_true_eq_false, not_false_eq_true, if_true, if_false, ite_not, ite_self, Bool.false_eq_true, nIne1, List.cons_append, List.nil_append, kMask, mask, XO, en, nIle, hin, nI_add, hI]
    cases hf : ffP n s (fun x y => wayB x (tt x) y (tt y)) i with
    | true =>
      rw [if_pos rfl, h2.trans (firstJ_t hf)]
    | false =>
      rw [if_neg (by decide)]
      exact ih _ _ ⟨[.int (nI n)], rfl, rfl, h2.trans (firstJ_f hf)⟩
theorem m_ff14 {n s : Nat} {tt : Nat → Nat} {g : GG} {m o : Nat} (en : g 188 20 = nI n) (n6 : n ≤ 6) (hs : s < 64) (ht : ∀ r, r < n → s.testBit r = true → g 200 r = nI (tt r) ∧ tt r < 6) (s2 : KK) (x : Nat) (hx : x < n) (u : List Value) : kl_X11_firstFight_14 s2 ([.ref 188, .int (nI s), .int (nI x), .int (nI (x + 1))] ++ u) [] (hp g m o) = if ffP n s (fun x y => wayB x (tt x) y (tt y)) x = true then some (some (.int (nI x)), hp g m o) else s2 [.ref 188, .int (nI s), .int (nI (x + 1)), .int (nI n)] [] (hp g m o) := by
  unfold kl_X11_firstFight_14
  refine kFor n (by unfold FU; omega) (fun i ls h => ∃ u, ls = [.ref 188, .int (nI s), .int (nI x), .int (nI i)] ++ u ∧ h = hp g m o ∧ firstJ (fun y => s.testBit x && s.testBit y && wayB x (tt x) y (tt y)) (n - (x + 1)) (x + 1) = firstJ (fun y => s.testBit x && s.testBit y && wayB x (tt x) y (tt y)) (n - i) i) (fun r => r = if ffP n s (fun x y => wayB x (tt x) y (tt y)) x = true then some (some (.int (nI x)), hp g m o) else s2 [.ref 188, .int (nI s), .int (nI (x + 1)), .int (nI n)] [] (hp g m o)) ?_ ?_ (x + 1) _ _ (by omega) ⟨u, rfl, rfl, rfl⟩
  · rintro s0 ls h ⟨u, rfl, rfl, h2⟩
    have hin : (n ≤ n) = True := eq_true (by omega)
    have hf : ffP n s (fun x y => wayB x (tt x) y (tt y)) x = false := by
      unfold ffP
      rw [h2, Nat.sub_self]
      exact decide_eq_false (fun q => q rfl)
    simp (disch := first | assumption | omega) only [KL, KB, KC, KI, KJ, KZ, bI_0, bI_n, nI00, nI10, ne_eq, Classical.not_not, not_true_eq_false, not_false_eq_true, if_true, if_false, ite_not, ite_self, Bool.false_eq_true, nIne1, List.cons_append, List.nil_append, kMask, mask, O_mo, en, nIle, hin, hf, nI_add]
  · rintro s0 i hi ih ls h ⟨u, rfl, rfl, h2⟩
    have hin : (n ≤ i) = False := eq_false (by omega)
    rw [show n - i = (n - (i + 1)) + 1 by omega] at h2
    cases hb : (s.testBit x && s.testBit i) with
    | false =>
      have hb' : ((s.testBit x && s.testBit i) = true) = False := eq_false (by rw [hb]; decide)
      have h3 := h2.trans (firstJ_f (by rw [hb]; rfl))
      simp (disch := first | assumption | omega) only [f_X11_firstFight, kb_X11_firstFight_57, kb_X11_firstFight_0, KL, KB, KC, KI, KJ, KZ, bI_0, bI_n, nI00, nI10, ne_eq, Classical.not_not, not_true_eq_false, not_false_eq_true, if_true, if_false, ite_not, ite_self, Bool.false_eq_true, nIne1, List.cons_append, List.nil_append, kMask, mask, O_mo, en, nIle, hin, nI_shr, nI_and, bit2', hb', nI_add]
      exact ih _ _ ⟨_, rfl, rfl, h3⟩
    | true =>
      have hb' : ((s.testBit x && s.testBit i) = true) = True := eq_true hb
      rw [Bool.and_eq_true] at hb
      obtain ⟨e1, b1⟩ := ht x hx hb.1
      obtain ⟨e2, b2⟩ := ht i hi hb.2
      have e4 := fun h => m_fights x (tt x) i (tt i) (by omega) (by omega) (by omega) (by omega) h
      cases w : wayB x (tt x) i (tt i) with
      | true =>
        have h3 := h2.trans (firstJ_t (by rw [hb.1, hb.2, w]; rfl))
        have hf : ffP n s (fun x y => wayB x (tt x) y (tt y)) x = true := by
          unfold ffP
          rw [h3]
          exact decide_eq_true (fun q => (nIne1 (by omega)).mp q)
        simp only [w, if_true] at e4
        simp (disch := first | assumption | omega) only [f_X11_firstFight, kb_X11_firstFight_57, kb_X11_firstFight_0, KL, KB, KC, KI, KJ, KZ, bI_0, bI_n, nI00, nI10, ne_eq, Classical.not_not, not_true_eq_false, not_false_eq_true, if_true, if_false, ite_not, ite_self, Bool.false_eq_true, nIne1, List.cons_append, List.nil_append, kMask, mask, O_mo, AR, en, e1, e2, nIle, hin, nI_shr, nI_and, bit2', hb', e4, hf]
      | false =>
        have h3 := h2.trans (firstJ_f (by rw [w, Bool.and_false]))
        simp only [w, Bool.false_eq_true, if_false] at e4
        simp (disch := first | assumption | omega) only [f_X11_firstFight, kb_X11_firstFight_57, kb_X11_firstFight_0, KL, KB, KC, KI, KJ, KZ, bI_0, bI_n, nI00, nI10, ne_eq, Classical.not_not, not_true_eq_false, not_false_eq_true, if_true, if_false, ite_not, ite_self, Bool.false_eq_true, nIne1, List.cons_append, List.nil_append, kMask, mask, O_mo, AR, en, e1, e2, nIle, hin, nI_shr, nI_and, bit2', hb', e4, nI_add]
        exact ih _ _ ⟨_, rfl, rfl, h3⟩
theorem m_firstF {n s : Nat} {tt : Nat → Nat} {g : GG} {m o : Nat} (en : g 188 20 = nI n) (n6 : n ≤ 6) (hs : s < 64) (ht : ∀ r, r < n → s.testBit r = true → g 200 r = nI (tt r) ∧ tt r < 6) : f_X11_firstFight [.ref 188, .int (nI s)] (hp g m o) = some (some (.int (ffJ n s (fun x y => wayB x (tt x) y (tt y)))), hp g m o) := by
  simp (disch := first | assumption | omega) only [f_X11_firstFight, kb_X11_firstFight_57, kb_X11_firstFight_0, KL, KB, KC, KI, KJ, KZ, bI_0, bI_n, nI00, nI10, ne_eq, Classical.not_not, not_true_eq_false, not_false_eq_true, if_true, if_false, ite_not, ite_self, Bool.false_eq_true, nIne1]
  unfold kl_X11_firstFight_2
  refine kFor n (by unfold FU; omega) (fun i ls h => ∃ u, ls = [.ref 188, .int (nI s), .int (nI i)] ++ u ∧ h = hp g m o ∧ ffJ n s (fun x y => wayB x (tt x) y (tt y)) = firstJ (ffP n s (fun x y => wayB x (tt x) y (tt y))) (n - i) i) (fun r => r = some (some (.int (ffJ n s (fun x y => wayB x (tt x) y (tt y)))), hp g m o)) ?_ ?_ 0 _ _ (by omega) ⟨[], rfl, rfl, rfl⟩
  · rintro s0 ls h ⟨u, rfl, rfl, h2⟩
    have hin : (n ≤ n) = True := eq_true (by omega)
    simp (disch := first | assumption | omega) only [KL, KB, KC, KI, KJ, KZ, bI_0, bI_n, nI00, nI10, ne_eq, Classical.not_not, not_true_eq_false, not_false_eq_true, if_true, if_false, ite_not, ite_self, Bool.false_eq_true, nIne1, List.cons_append, List.nil_append, kMask, mask, O_mo, en, nIle, hin]
    rw [h2, Nat.sub_self]; rfl
  · rintro s0 i hi ih ls h ⟨u, rfl, rfl, h2⟩
    have hin : (n ≤ i) = False := eq_false (by omega)
    rw [show n - i = (n - (i + 1)) + 1 by omega] at h2
    have hI := m_ff14 (m := m) (o := o) en n6 hs ht s0 i hi []
    simp only [List.append_nil] at hI
    simp (disch := first | assumption | omega) only [KL, KB, KC, KI, KJ, KZ, bI_0, bI_n, nI00, nI10, ne_eq, Classical.not_not, not_true_eq_false, not_false_eq_true, if_true, if_false, ite_not, ite_self, Bool.false_eq_true, nIne1, List.cons_append, List.nil_append, kMask, mask, O_mo, en, nIle, hin, nI_add, hI]
    cases hf : ffP n s (fun x y => wayB x (tt x) y (tt y)) i with
    | true =>
      rw [if_pos rfl, h2.trans (firstJ_t hf)]
    | false =>
      rw [if_neg (by decide)]
      exact ih _ _ ⟨[.int (nI n)], rfl, rfl, h2.trans (firstJ_f hf)⟩
theorem ffJ_congr {n s : Nat} {F G : Nat → Nat → Bool} (h : ∀ x y, x < n → y < n → s.testBit x = true → s.testBit y = true → F x y = G x y) : ffJ n s F = ffJ n s G := by
  unfold ffJ
  apply firstJ_congr
  intro x _ hx
  unfold ffP
  rw [firstJ_congr (q := fun y => s.testBit x && s.testBit y && G x y)]
  intro y h1 h2
  cases hb : (s.testBit x && s.testBit y) with
  | false => rfl
  | true =>
    rw [Bool.and_eq_true] at hb
    rw [h x y (by omega) (by omega) hb.1 hb.2]
theorem c_least6 (s : Nat) (hs : s < 64) (h : HP) : f_X10_leastOf [.int (nI s)] h = some (some (.int (firstJ (fun r => s.testBit r) 6 0)), h) := by
  simp (disch := first | assumption | omega) only [f_X10_leastOf, kb_X10_leastOf_0, KL, KB, KC, KI, KJ, KZ, bI_0, bI_n, nI00, nI10, ne_eq, Classical.not_not, not_true_eq_false, not_false_eq_true, if_true, if_false, ite_not, ite_self, Bool.false_eq_true, nIne1]
  unfold kl_X10_leastOf_2
  refine kFor 6 (by unfold FU; omega) (fun i ls h' => ls = [.int (nI s), .int (nI i)] ∧ h' = h ∧ firstJ (fun r => s.testBit r) 6 0 = firstJ (fun r => s.testBit r) (6 - i) i) (fun r => r = some (some (.int (firstJ (fun r => s.testBit r) 6 0)), h)) ?_ ?_ 0 _ _ (by omega) ⟨rfl, rfl, rfl⟩
  · rintro s0 ls h' ⟨rfl, rfl, h2⟩
    have hin : (6 ≤ 6) = True := eq_true (by omega)
    simp (disch := first | assumption | omega) only [KL, KB, KC, KI, KJ, KZ, bI_0, bI_n, nI00, nI10, ne_eq, Classical.not_not, not_true_eq_false, not_false_eq_true, if_true, if_false, ite_not, ite_self, Bool.false_eq_true, nIne1, kMask, mask, nIle, hin]
    rw [h2]; rfl
  · rintro s0 i hi ih ls h' ⟨rfl, rfl, h2⟩
    have hin : (6 ≤ i) = False := eq_false (by omega)
    rw [show 6 - i = (6 - (i + 1)) + 1 by omega] at h2
    cases t : s.testBit i with
    | true =>
      have hb : ((s >>> i).testBit 0 = false) = False := by rw [Nat.testBit_shiftRight, Nat.add_zero, t]; simp
      simp (disch := first | assumption | omega) only [KL, KB, KC, KI, KJ, KZ, bI_0, bI_n, nI00, nI10, ne_eq, Classical.not_not, not_true_eq_false, not_false_eq_true, if_true, if_false, ite_not, ite_self, Bool.false_eq_true, nIne1, kMask, mask, nIle, hin, nI_shr, nI_and, bit0, hb]
      rw [h2.trans (firstJ_t t)]
    | false =>
      have hb : ((s >>> i).testBit 0 = false) = True := by rw [Nat.testBit_shiftRight, Nat.add_zero, t]; simp
      simp (disch := first | assumption | omega) only [KL, KB, KC, KI, KJ, KZ, bI_0, bI_n, nI00, nI10, ne_eq, Classical.not_not, not_true_eq_false, not_false_eq_true, if_true, if_false, ite_not, ite_self, Bool.false_eq_true, nIne1, kMask, mask, nIle, hin, nI_shr, nI_and, bit0, hb, nI_add]
      exact ih _ _ ⟨rfl, rfl, h2.trans (firstJ_f t)⟩
theorem x_takeAway {X n s : Nat} {g : GG} {m o : Nat} (hX : isX X) (en : g X 0 = nI n) (n6 : n ≤ 6) (hs : s < 64) : ∃ g', f_X1_takeAway [.ref X, .int (nI s)] (hp g m o) = some (none, hp g' m o) ∧ (∀ a, a ≠ X + 2 → g' a = g a) ∧ ∀ i, g' (X + 2) i = if i < n ∧ s.testBit i = true then -1 else g (X + 2) i := by
  simp (disch := first | assumption | omega) only [f_X1_takeAway, kb_X1_takeAway_27, kb_X1_takeAway_0, KL, KB, KC, KI, KJ, KZ, bI_0, bI_n, nI00, nI10, ne_eq, Classical.not_not, not_true_eq_false, not_false_eq_true, if_true, if_false, ite_not, ite_self, Bool.false_eq_true, nIne1]
  unfold kl_X1_takeAway_2
  refine kFor n (by unfold FU; omega) (fun i ls h => ∃ g', ls = [.ref X, .int (nI s), .int (nI i)] ∧ h = hp g' m o ∧ (∀ a, a ≠ X + 2 → g' a = g a) ∧ ∀ j, g' (X + 2) j = if j < i ∧ s.testBit j = true then -1 else g (X + 2) j) (fun r => ∃ g', r = some (none, hp g' m o) ∧ (∀ a, a ≠ X + 2 → g' a = g a) ∧ ∀ i, g' (X + 2) i = if i < n ∧ s.testBit i = true then -1 else g (X + 2) i) ?_ ?_ 0 _ _ (by omega) ⟨g, rfl, rfl, fun _ _ => rfl, fun j => by rw [if_neg (by omega)]⟩
  · rintro s0 ls h ⟨g', rfl, rfl, h1, h2⟩
    have hin : (n ≤ n) = True := eq_true (by omega)
    have en' : g' X 0 = nI n := by rw [h1 X (by omega)]; exact en
    simp (disch := first | assumption | omega) only [KL, KB, KC, KI, KJ, KZ, bI_0, bI_n, nI00, nI10, ne_eq, Classical.not_not, not_true_eq_false, not_false_eq_true, if_true, if_false, ite_not, ite_self, Bool.false_eq_true, nIne1, kMask, mask, XO, en', nIle, hin]
    exact ⟨g', rfl, h1, h2⟩
  · rintro s0 i hi ih ls h ⟨g', rfl, rfl, h1, h2⟩
    have hin : (n ≤ i) = False := eq_false (by omega)
    have en' : g' X 0 = nI n := by rw [h1 X (by omega)]; exact en
    cases t : s.testBit i with
    | true =>
      have hb : ((s >>> i).testBit 0 = false) = False := by rw [Nat.testBit_shiftRight, Nat.add_zero, t]; simp
      simp (disch := first | assumption | omega) only [f_X1_takeAway, kb_X1_takeAway_27, kb_X1_takeAway_0, KL, KB, KC, KI, KJ, KZ, bI_0, bI_n, nI00, nI10, ne_eq, Classical.not_not, not_true_eq_false, not_false_eq_true, if_true, if_false, ite_not, ite_self, Bool.false_eq_true, nIne1, kMask, mask, XO, en', nIle, hin, nI_shr, nI_and, bit0, hb, nI_add, Nat.zero_add]
      refine ih _ _ ⟨upd2 g' (X + 2) i (-1), rfl, rfl, fun a ha => by rw [uN ha]; exact h1 a ha, fun j => ?_⟩
      by_cases q : j = i
      · subst q
        rw [uS, if_pos ⟨by omega, t⟩]
      · rw [uO (Or.inr q), h2 j]
        by_cases c : j < i ∧ s.testBit j = true
        · rw [if_pos c, if_pos ⟨by omega, c.2⟩]
        · rw [if_neg c, if_neg (fun e => c ⟨by omega, e.2⟩)]
    | false =>
      have hb : ((s >>> i).testBit 0 = false) = True := by rw [Nat.testBit_shiftRight, Nat.add_zero, t]; simp
      simp (disch := first | assumption | omega) only [f_X1_takeAway, kb_X1_takeAway_27, kb_X1_takeAway_0, KL, KB, KC, KI, KJ, KZ, bI_0, bI_n, nI00, nI10, ne_eq, Classical.not_not, not_true_eq_false, not_false_eq_true, if_true, if_false, ite_not, ite_self, Bool.false_eq_true, nIne1, kMask, mask, XO, en', nIle, hin, nI_shr, nI_and, bit0, hb, nI_add]
      refine ih _ _ ⟨g', rfl, rfl, h1, fun j => ?_⟩
      rw [h2 j]
      by_cases c : j < i ∧ s.testBit j = true
      · rw [if_pos c, if_pos ⟨by omega, c.2⟩]
      · rw [if_neg c, if_neg (fun e => c ⟨by have : j ≠ i := fun q => (by rw [q, t] at e; cases e.2); omega, e.2⟩)]
