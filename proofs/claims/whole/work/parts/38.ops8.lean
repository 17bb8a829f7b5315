-- ===== look =====
theorem sumF_acc {F : Nat → Int32} : ∀ (k : Nat) (a b : Int32) (i : Nat), sumF F (a + b) i k = a + sumF F b i k := by
  intro k
  induction k with
  | zero => intro a b i; rfl
  | succ k ih =>
    intro a b i
    show sumF F (a + b + F i) (i + 1) k = a + sumF F (b + F i) (i + 1) k
    rw [Int32.add_assoc, ih]
theorem sumF_shift {F : Nat → Int32} (d : Nat) : ∀ (k : Nat) (a : Int32) (i : Nat), sumF F a (d + i) k = sumF (fun t => F (d + t)) a i k := by
  intro k
  induction k with
  | zero => intro a i; rfl
  | succ k ih =>
    intro a i
    show sumF F (a + F (d + i)) (d + i + 1) k = sumF (fun t => F (d + t)) (a + F (d + i)) (i + 1) k
    rw [Nat.add_assoc]
    exact ih _ _
theorem sumF_rows {F : Nat → Int32} {G : Nat → Int32} (h : ∀ c, c < 6 → sumF (fun t => F (6 * c + t)) (nI 0) 0 6 = G c) : ∀ (k c : Nat) (a : Int32), c + k ≤ 6 → sumF F a (6 * c) (6 * k) = sumF G a c k := by
  intro k
  induction k with
  | zero => intro c a _; rfl
  | succ k ih =>
    intro c a hc
    rw [show 6 * (k + 1) = 6 + 6 * k by omega, sumF_split, show 6 * c + 6 = 6 * (c + 1) by omega, ih (c + 1) _ (by omega)]
    show sumF G _ (c + 1) k = sumF G (a + G c) (c + 1) k
    have e : sumF F a (6 * c) 6 = a + G c := by
      have e1 := sumF_shift (F := F) (6 * c) 6 a 0
      rw [Nat.add_zero] at e1
      rw [e1, ← h c (by omega), ← sumF_acc]
      show _ = sumF _ (a + 0) 0 6
      rw [Int32.add_zero]
    rw [e]
theorem le_at {a kd n : Nat} {g : GG} {m o : Nat} (hs : SH a = (kd, n)) (h1 : kd ≠ 0) (h2 : kd < 6) (k : KK) (ls st : List Value) : kLen k ls (.ref a :: st) (hp g m o) = k ls (.int (nI n) :: st) (hp g m o) := by
  have e : hSh (hp g m o) a = (kd, n) := hs
  show (if (hSh (hp g m o) a).1 ≠ 0 ∧ (hSh (hp g m o) a).1 < 6 then k ls (.int (Int32.ofNat (hSh (hp g m o) a).2) :: st) (hp g m o) else none) = _
  rw [e]
  exact if_pos ⟨h1, h2⟩
theorem LE : (∀ (g : GG) (m o : Nat) (k : KK) (ls st : List Value), kLen k ls (.ref 3 :: st) (hp g m o) = k ls (.int (nI 4) :: st) (hp g m o)) ∧ (∀ (g : GG) (m o : Nat) (k : KK) (ls st : List Value), kLen k ls (.ref 4 :: st) (hp g m o) = k ls (.int (nI 6) :: st) (hp g m o)) := ⟨fun g m o k ls st => le_at (kd := 3) (n := 4) rfl (by decide) (by decide) k ls st, fun g m o k ls st => le_at (kd := 4) (n := 6) rfl (by decide) (by decide) k ls st⟩
theorem x_leads (g : GG) (m o X r : Nat) (hX : isX X) (hr : r < 6) : f_X1_leads [.ref X, .int (nI r)] (hp g m o) = some (some (.int (if g (X + 9) r = -1 then nI 0 else nI 1)), hp g m o) := by
  simp (disch := first | assumption | omega) only [f_X1_leads, kb_X1_leads_17, kb_X1_leads_0, KL, KB, KC, KI, KJ, KZ, bI_0, bI_n, nI00, nI10, ne_eq, Classical.not_not, not_true_eq_false, not_false_eq_true, if_true, if_false, ite_not, ite_self, Bool.false_eq_true, nIne1, XO, nI_add, Nat.zero_add]
  split <;> rfl
theorem x_linksFrom (g : GG) (m o X n : Nat) (hX : isX X) (en : g X 0 = nI n) (n6 : n ≤ 6) : f_X1_linksFrom [.ref X] (hp g m o) = some (some (.int (sumF (fun r => if g (X + 9) r = -1 then nI 0 else nI 1) (nI 0) 0 n)), hp g m o) := by
  simp (disch := first | assumption | omega) only [f_X1_linksFrom, kb_X1_linksFrom_0, KL, KB, KC, KI, KJ, KZ, bI_0, bI_n, nI00, nI10, ne_eq, Classical.not_not, not_true_eq_false, not_false_eq_true, if_true, if_false, ite_not, ite_self, Bool.false_eq_true, nIne1]
  unfold kl_X1_linksFrom_4
  refine kFix_rule (fun k ls st h => ∃ (i : Nat) (acc' : Int32), i + k = n ∧ ls = [.ref X, .int acc', .int (nI i)] ∧ st = [] ∧ h = hp g m o ∧ sumF (fun r => if g (X + 9) r = -1 then nI 0 else nI 1) acc' i k = sumF (fun r => if g (X + 9) r = -1 then nI 0 else nI 1) (nI 0) 0 n) (fun r => r = some (some (.int (sumF (fun r => if g (X + 9) r = -1 then nI 0 else nI 1) (nI 0) 0 n)), hp g m o)) ?_ FU n (by show n < 10000; omega) _ _ _ ⟨0, nI 0, by omega, rfl, rfl, rfl, rfl⟩
  rintro s k ih ls st h ⟨i, acc', hk, rfl, rfl, rfl, hs⟩
  cases k with
  | zero =>
    have hin : (n ≤ i) = True := eq_true (by omega)
    simp (disch := first | assumption | omega) only [KL, KB, KC, KI, KJ, KZ, bI_0, bI_n, nI00, nI10, ne_eq, Classical.not_not, not_true_eq_false, not_false_eq_true, if_true, if_false, ite_not, ite_self, Bool.false_eq_true, nIne1, kMask, mask, XO, en, nIle, hin]
    show some (some (Value.int acc'), hp g m o) = _
    rw [← hs]; rfl
  | succ k =>
    have hin : (n ≤ i) = False := eq_false (by omega)
    by_cases hl : g (X + 9) i = -1
    · simp (disch := first | assumption | omega) only [KL, KB, KC, KI, KJ, KZ, bI_0, bI_n, nI00, nI10, ne_eq, Classical.not_not, not_true_eq_false, not_false_eq_true, if_true, if_false, ite_not, ite_self, Bool.false_eq_true, nIne1, kMask, mask, XO, en, nIle, hin, x_leads g m o X i hX, hl, kb_X1_linksFrom_23, nI_add]
      refine ih k (by omega) _ _ _ ⟨i + 1, acc', by omega, rfl, rfl, rfl, ?_⟩
      rw [← hs]
      show _ = sumF _ (acc' + if g (X + 9) i = -1 then nI 0 else nI 1) (i + 1) k
      rw [if_pos hl]
      show _ = sumF _ (acc' + 0) (i + 1) k
      rw [Int32.add_zero]
    · simp (disch := first | assumption | omega) only [KL, KB, KC, KI, KJ, KZ, bI_0, bI_n, nI00, nI10, ne_eq, Classical.not_not, not_true_eq_false, not_false_eq_true, if_true, if_false, ite_not, ite_self, Bool.false_eq_true, nIne1, kMask, mask, XO, en, nIle, hin, x_leads g m o X i hX, hl, kb_X1_linksFrom_23, nI_add]
      refine ih k (by omega) _ _ _ ⟨i + 1, acc' + nI 1, by omega, rfl, rfl, rfl, ?_⟩
      rw [← hs]
      show _ = sumF _ (acc' + if g (X + 9) i = -1 then nI 0 else nI 1) (i + 1) k
      rw [if_neg hl]
theorem links_c (g : GG) (m o : Nat) (N : Nat → Nat) (hN : ∀ c, c < 6 → g (17 + 10 * c) 0 = nI (N c) ∧ N c ≤ 6) (acc : Int32) : kl_X9_linksInAll_13 [.ref 1, .int acc, .ref 4, .int (nI 6), .int (nI 0)] [] (hp g m o) = some (some (.int (sumF (fun c => sumF (fun r => if g (17 + 10 * c + 9) r = -1 then nI 0 else nI 1) (nI 0) 0 (N c)) acc 0 6)), hp g m o) := by
  unfold kl_X9_linksInAll_13
  refine kFix_rule (fun k ls st h => ∃ (i : Nat) (acc' : Int32) (a : Value) (t : List Value), i + k = 6 ∧ ls = [a, .int acc', .ref 4, .int (nI 6), .int (nI i)] ++ t ∧ st = [] ∧ h = hp g m o ∧ sumF (fun c => sumF (fun r => if g (17 + 10 * c + 9) r = -1 then nI 0 else nI 1) (nI 0) 0 (N c)) acc' i k = sumF (fun c => sumF (fun r => if g (17 + 10 * c + 9) r = -1 then nI 0 else nI 1) (nI 0) 0 (N c)) acc 0 6) (fun r => r = some (some (.int (sumF (fun c => sumF (fun r => if g (17 + 10 * c + 9) r = -1 then nI 0 else nI 1) (nI 0) 0 (N c)) acc 0 6)), hp g m o)) ?_ FU 6 (by decide) _ _ _ ⟨0, acc, _, [], by omega, rfl, rfl, rfl, rfl⟩
  rintro s k ih ls st h ⟨i, acc', a, t, hk, rfl, rfl, rfl, hs⟩
  cases k with
  | zero =>
    have hin : (6 ≤ i) = True := eq_true (by omega)
    simp (disch := first | assumption | omega) only [KL, KB, KC, KI, KJ, KZ, bI_0, bI_n, nI00, nI10, ne_eq, Classical.not_not, not_true_eq_false, not_false_eq_true, if_true, if_false, ite_not, ite_self, Bool.false_eq_true, nIne1, List.cons_append, List.nil_append, kMask, mask, nIle, hin]
    show some (some (Value.int acc'), hp g m o) = _
    rw [← hs]; rfl
  | succ k =>
    have hin : (6 ≤ i) = False := eq_false (by omega)
    have hX := isX_live i (by omega)
    obtain ⟨en, n6⟩ := hN i (by omega)
    simp (disch := first | assumption | omega) only [KL, KB, KC, KI, KJ, KZ, bI_0, bI_n, nI00, nI10, ne_eq, Classical.not_not, not_true_eq_false, not_false_eq_true, if_true, if_false, ite_not, ite_self, Bool.false_eq_true, nIne1, List.cons_append, List.nil_append, kMask, mask, nIle, hin, nI_add, aalX, XO, x_linksFrom g m o _ (N i) hX en n6]
    exact ih k (by omega) _ _ _ ⟨i + 1, acc' + _, _, _, by omega, rfl, rfl, rfl, hs⟩
theorem look_m0 (g : GG) (m o : Nat) (b : Value) (acc : Int32) : kl_X11_look_34 [.ref 188, b, .int acc, .int (nI 0)] [] (hp g m o) = some (some (.int (sumF (fun k => g 189 (3380 + k)) acc 0 4)), hp g m o) := by
  unfold kl_X11_look_34
  refine kFix_rule (fun k ls st h => ∃ (i : Nat) (acc' : Int32) (b : Value), i + k = 4 ∧ ls = [.ref 188, b, .int acc', .int (nI i)] ∧ st = [] ∧ h = hp g m o ∧ sumF (fun k => g 189 (3380 + k)) acc' i k = sumF (fun k => g 189 (3380 + k)) acc 0 4) (fun r => r = some (some (.int (sumF (fun k => g 189 (3380 + k)) acc 0 4)), hp g m o)) ?_ FU 4 (by decide) _ _ _ ⟨0, acc, b, by omega, rfl, rfl, rfl, rfl⟩
  rintro s k ih ls st h ⟨i, acc', b, hk, rfl, rfl, rfl, hs⟩
  cases k with
  | zero =>
    have hin : (4 ≤ i) = True := eq_true (by omega)
    simp (disch := first | assumption | omega) only [KL, KB, KC, KI, KJ, KZ, bI_0, bI_n, nI00, nI10, ne_eq, Classical.not_not, not_true_eq_false, not_false_eq_true, if_true, if_false, ite_not, ite_self, Bool.false_eq_true, nIne1, kMask, mask, nIle, hin]
    show some (some (Value.int acc'), hp g m o) = _
    rw [← hs]; rfl
  | succ k =>
    have hin : (4 ≤ i) = False := eq_false (by omega)
    simp (disch := first | assumption | omega) only [KL, KB, KC, KI, KJ, KZ, bI_0, bI_n, nI00, nI10, ne_eq, Classical.not_not, not_true_eq_false, not_false_eq_true, if_true, if_false, ite_not, ite_self, Bool.false_eq_true, nIne1, kMask, mask, O_mo, AR, nIle, hin, nI_add]
    exact ih k (by omega) _ _ _ ⟨i + 1, acc' + g 189 (3380 + i), _, by omega, rfl, rfl, rfl, hs⟩
theorem look_m1 (g : GG) (m o : Nat) (b : Value) (acc : Int32) : kl_X11_look_62 [.ref 188, b, .int acc, .int (nI 0)] [] (hp g m o) = some (some (.int (sumF (fun i => if g 189 (10 + 560 * (i / 6) + 92 * (i % 6) + 89) = -1 then nI 0 else nI 1) acc 0 36)), hp g m o) := by
  unfold kl_X11_look_62
  refine kFix_rule (fun k ls st h => ∃ (i : Nat) (acc' : Int32) (b : Value), i + k = 36 ∧ ls = [.ref 188, b, .int acc', .int (nI i)] ∧ st = [] ∧ h = hp g m o ∧ sumF (fun i => if g 189 (10 + 560 * (i / 6) + 92 * (i % 6) + 89) = -1 then nI 0 else nI 1) acc' i k = sumF (fun i => if g 189 (10 + 560 * (i / 6) + 92 * (i % 6) + 89) = -1 then nI 0 else nI 1) acc 0 36) (fun r => r = some (some (.int (sumF (fun i => if g 189 (10 + 560 * (i / 6) + 92 * (i % 6) + 89) = -1 then nI 0 else nI 1) acc 0 36)), hp g m o)) ?_ FU 36 (by decide) _ _ _ ⟨0, acc, b, by omega, rfl, rfl, rfl, rfl⟩
  rintro s k ih ls st h ⟨i, acc', b, hk, rfl, rfl, rfl, hs⟩
  cases k with
  | zero =>
    have hin : (36 ≤ i) = True := eq_true (by omega)
    simp (disch := first | assumption | omega) only [KL, KB, KC, KI, KJ, KZ, bI_0, bI_n, nI00, nI10, ne_eq, Classical.not_not, not_true_eq_false, not_false_eq_true, if_true, if_false, ite_not, ite_self, Bool.false_eq_true, nIne1, kMask, mask, nIle, hin]
    show some (some (Value.int acc'), hp g m o) = _
    rw [← hs]; rfl
  | succ k =>
    have hin : (36 ≤ i) = False := eq_false (by omega)
    have h6 : (nI 6 = 0) = False := eq_false (by decide)
    by_cases hl : g 189 (10 + 560 * (i / 6) + 92 * (i % 6) + 89) = -1
    · simp (disch := first | assumption | omega) only [KL, KB, KC, KI, KJ, KZ, bI_0, bI_n, nI00, nI10, ne_eq, Classical.not_not, not_true_eq_false, not_false_eq_true, if_true, if_false, ite_not, ite_self, Bool.false_eq_true, nIne1, kMask, mask, O_mo, m_get, nIle, hin, h6, nI_div, nI_rem2, kb_X11_look_92, hl, nI_add]
      exact ih k (by omega) _ _ _ ⟨i + 1, acc' + nI 0, _, by omega, rfl, rfl, rfl, by rw [← hs]; show _ = sumF _ (acc' + if _ then _ else _) (i + 1) k; rw [if_pos hl]⟩
    · simp (disch := first | assumption | omega) only [KL, KB, KC, KI, KJ, KZ, bI_0, bI_n, nI00, nI10, ne_eq, Classical.not_not, not_true_eq_false, not_false_eq_true, if_true, if_false, ite_not, ite_self, Bool.false_eq_true, nIne1, kMask, mask, O_mo, m_get, nIle, hin, h6, nI_div, nI_rem2, kb_X11_look_92, hl, nI_add]
      exact ih k (by omega) _ _ _ ⟨i + 1, acc' + nI 1, _, by omega, rfl, rfl, rfl, by rw [← hs]; show _ = sumF _ (acc' + if _ then _ else _) (i + 1) k; rw [if_neg hl]⟩
theorem ag_look (a0 : Int32) : Ag RT f_X10_look f_X11_look [.int a0] := by
  intro j g m o hj hR
  rcases in_cases a0 3 (by decide) with ⟨w, hw, rfl⟩ | h0
  · have hw' : w = 0 ∨ w = 1 ∨ w = 2 ∨ w = 3 := by omega
    rcases hw' with rfl | rfl | rfl | rfl
    · have hs : sumF (fun k => g (5 + 3 * k) 0) (nI 0) 0 4 = sumF (fun k => g 189 (3380 + k)) (nI 0) 0 4 := sumF_congr 4 _ _ (fun k hk => by
        obtain ⟨rl, -, p, q⟩ := hR.1.2.2.1 (0 + k) (by omega)
        have e1 := p.1
        have e2 := q.1
        rw [Nat.zero_add 5] at e1
        show g (5 + 3 * (0 + k)) 0 = _
        rw [e1, e2])
      refine ⟨sumF (fun k => g (5 + 3 * k) 0) (nI 0) 0 4, g, m, o, g, ?_, ?_, RT_mono _ _ _ _ hR⟩
      · simp (disch := first | assumption | omega) only [f_X10_look, kb_X10_look_60, kb_X10_look_0, f_X9_linesInAll, kb_X9_linesInAll_0, KL, KB, KC, KI, KJ, KZ, bI_0, bI_n, nI00, nI10, ne_eq, Classical.not_not, not_true_eq_false, not_false_eq_true, if_true, if_false, ite_not, ite_self, Bool.false_eq_true, nIne1, SW0, O_fp, O_w, LE, lines_c]
      · simp (disch := first | assumption | omega) only [f_X11_look, kb_X11_look_92, kb_X11_look_114, kb_X11_look_0, KL, KB, KC, KI, KJ, KZ, bI_0, bI_n, nI00, nI10, ne_eq, Classical.not_not, not_true_eq_false, not_false_eq_true, if_true, if_false, ite_not, ite_self, Bool.false_eq_true, nIne1, SW0, O_mo, look_m0, hs]
    · have hN : ∃ N : Nat → Nat, ∀ c, c < 6 → XRn g (17 + 10 * c) 189 (10 + 560 * c) (N c) j := by
        refine ⟨fun c => if h : c < 6 then Classical.choose (hR.at h) else 0, fun c hc => ?_⟩
        simp only [dif_pos hc]
        exact Classical.choose_spec (hR.at hc)
      obtain ⟨N, hN⟩ := hN
      have hs : sumF (fun c => sumF (fun r => if g (17 + 10 * c + 9) r = -1 then nI 0 else nI 1) (nI 0) 0 (N c)) (nI 0) 0 6 = sumF (fun i => if g 189 (10 + 560 * (i / 6) + 92 * (i % 6) + 89) = -1 then nI 0 else nI 1) (nI 0) 0 36 := by
        refine (sumF_rows (fun c hc => ?_) 6 0 (nI 0) (by omega)).symm
        obtain ⟨n3, n6, en, em, fFa, fCa, fCo, fRo, fCt, fTo, fLi⟩ := hN c hc
        have hm : ∀ t, t < 6 → (if g 189 (10 + 560 * ((6 * c + t) / 6) + 92 * ((6 * c + t) % 6) + 89) = -1 then nI 0 else nI 1) = (if g (17 + 10 * c + 9) t = -1 then nI 0 else nI 1) := by
          intro t ht
          rw [show (6 * c + t) / 6 = c by omega, show (6 * c + t) % 6 = t by omega]
          rcases fLi t ht with ⟨p, q⟩ | ⟨to, ro, room, p1, p2, p3, p4, q1, q2, q3, s1, s2, s3⟩
          · rw [p, q]
          · rw [q1, s1]
        rw [show (6 : Nat) = N c + (6 - N c) by omega, sumF_split]
        have e1 : sumF (fun t => if g 189 (10 + 560 * (((N c + (6 - N c)) * c + t) / (N c + (6 - N c))) + 92 * (((N c + (6 - N c)) * c + t) % (N c + (6 - N c))) + 89) = -1 then nI 0 else nI 1) (nI 0) 0 (N c) = sumF (fun r => if g (17 + 10 * c + 9) r = -1 then nI 0 else nI 1) (nI 0) 0 (N c) := by
          rw [show N c + (6 - N c) = 6 by omega]
          exact sumF_congr _ _ _ (fun t ht => hm (0 + t) (by omega))
        rw [e1]
        refine sumF_zero _ _ _ (fun t ht => ?_)
        rw [show N c + (6 - N c) = 6 by omega]
        show (if _ then _ else _) = _
        rw [hm _ (by omega)]
        rcases fLi (0 + N c + t) (by omega) with ⟨p, q⟩ | ⟨to, ro, room, p1, -⟩
        · rw [p]; rfl
        · omega
      have hL := fun acc => links_c g m o N (fun c hc => ⟨(hN c hc).2.2.1, (hN c hc).2.1⟩) acc
      refine ⟨sumF (fun c => sumF (fun r => if g (17 + 10 * c + 9) r = -1 then nI 0 else nI 1) (nI 0) 0 (N c)) (nI 0) 0 6, g, m, o, g, ?_, ?_, RT_mono _ _ _ _ hR⟩
      · simp (disch := first | assumption | omega) only [f_X10_look, kb_X10_look_60, kb_X10_look_0, f_X9_linksInAll, kb_X9_linksInAll_0, KL, KB, KC, KI, KJ, KZ, bI_0, bI_n, nI00, nI10, ne_eq, Classical.not_not, not_true_eq_false, not_false_eq_true, if_true, if_false, ite_not, ite_self, Bool.false_eq_true, nIne1, SW1, O_fp, O_w, LE, hL]
      · simp (disch := first | assumption | omega) only [f_X11_look, kb_X11_look_92, kb_X11_look_114, kb_X11_look_0, KL, KB, KC, KI, KJ, KZ, bI_0, bI_n, nI00, nI10, ne_eq, Classical.not_not, not_true_eq_false, not_false_eq_true, if_true, if_false, ite_not, ite_self, Bool.false_eq_true, nIne1, SW1, O_mo, look_m1, hs]
    · obtain ⟨-, -, -, -, hI, -⟩ := id hR
      rcases hI with ⟨p, q⟩ | ⟨p, q, -⟩
      · refine ⟨nI 0, g, m, o, g, ?_, ?_, RT_mono _ _ _ _ hR⟩
        · simp (disch := first | assumption | omega) only [f_X10_look, kb_X10_look_60, kb_X10_look_0, KL, KB, KC, KI, KJ, KZ, bI_0, bI_n, nI00, nI10, ne_eq, Classical.not_not, not_true_eq_false, not_false_eq_true, if_true, if_false, ite_not, ite_self, Bool.false_eq_true, nIne1, SW2, O_fp, p]
        · simp (disch := first | assumption | omega) only [f_X11_look, kb_X11_look_92, kb_X11_look_114, kb_X11_look_0, KL, KB, KC, KI, KJ, KZ, bI_0, bI_n, nI00, nI10, ne_eq, Classical.not_not, not_true_eq_false, not_false_eq_true, if_true, if_false, ite_not, ite_self, Bool.false_eq_true, nIne1, SW2, O_mo, q]
      · refine ⟨nI 1, g, m, o, g, ?_, ?_, RT_mono _ _ _ _ hR⟩
        · simp (disch := first | assumption | omega) only [f_X10_look, kb_X10_look_60, kb_X10_look_0, KL, KB, KC, KI, KJ, KZ, bI_0, bI_n, nI00, nI10, ne_eq, Classical.not_not, not_true_eq_false, not_false_eq_true, if_true, if_false, ite_not, ite_self, Bool.false_eq_true, nIne1, SW2, O_fp, p]
        · simp (disch := first | assumption | omega) only [f_X11_look, kb_X11_look_92, kb_X11_look_114, kb_X11_look_0, KL, KB, KC, KI, KJ, KZ, bI_0, bI_n, nI00, nI10, ne_eq, Classical.not_not, not_true_eq_false, not_false_eq_true, if_true, if_false, ite_not, ite_self, Bool.false_eq_true, nIne1, SW2, O_mo, q]
    · have e := hR.1.1
      rw [Nat.zero_add] at e
      refine ⟨g 1 0, g, m, o, g, ?_, ?_, RT_mono _ _ _ _ hR⟩
      · simp (disch := first | assumption | omega) only [f_X10_look, kb_X10_look_60, kb_X10_look_0, KL, KB, KC, KI, KJ, KZ, bI_0, bI_n, nI00, nI10, ne_eq, Classical.not_not, not_true_eq_false, not_false_eq_true, if_true, if_false, ite_not, ite_self, Bool.false_eq_true, nIne1, SW3, O_fp, O_w]
      · simp (disch := first | assumption | omega) only [f_X11_look, kb_X11_look_92, kb_X11_look_114, kb_X11_look_0, KL, KB, KC, KI, KJ, KZ, bI_0, bI_n, nI00, nI10, ne_eq, Classical.not_not, not_true_eq_false, not_false_eq_true, if_true, if_false, ite_not, ite_self, Bool.false_eq_true, nIne1, SW3, O_mo, AR, e]
  · refine ⟨-1, g, m, o, g, ?_, ?_, RT_mono _ _ _ _ hR⟩
    · simp (disch := first | assumption | omega) only [f_X10_look, kb_X10_look_60, kb_X10_look_0, KL, KB, KC, KI, KJ, KZ, bI_0, bI_n, nI00, nI10, ne_eq, Classical.not_not, not_true_eq_false, not_false_eq_true, if_true, if_false, ite_not, ite_self, Bool.false_eq_true, nIne1, SWN4 h0]
    · simp (disch := first | assumption | omega) only [f_X11_look, kb_X11_look_92, kb_X11_look_114, kb_X11_look_0, KL, KB, KC, KI, KJ, KZ, bI_0, bI_n, nI00, nI10, ne_eq, Classical.not_not, not_true_eq_false, not_false_eq_true, if_true, if_false, ite_not, ite_self, Bool.false_eq_true, nIne1, SWN4 h0]
