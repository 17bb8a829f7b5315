-- ===== the class asks how each slot answers each =====
def bN (b : Bool) : Nat := if b = true then 1 else 0
theorem bW_bN (b : Bool) : bW b = nI (bN b) := by cases b <;> rfl
/-- what is asked of two, the first's being first told apart -/
def fvS (F : Nat → Int32) (f : Int32) (i : Nat) : Int32 := if i = 14 then f else F i
theorem c_byRule (g : GG) (m o k : Nat) (rl : ARule) (F : Nat → Int32) (hk : k < 4) (hC : ruleC g (5 + 3 * k) rl) (hw : wfR rl) (hF : ∀ i, i < 16 → i ≠ 14 → g 78 i = F i) : ∃ g', f_X0_byRule [.ref 164, .int (nI k)] (hp g m o) = some (some (.int (nI (bN (firstW (fvS F (nI 0)) rl) ||| bN (firstW (fvS F (nI 1)) rl) <<< 1))), hp g' m o) ∧ (∀ a, a ≠ 78 → a ≠ 79 → g' a = g a) ∧ ∀ i, i ≠ 14 → g' 78 i = g 78 i := by
  have hRk := isR_live k hk
  have hF0 : ∀ i, i < 16 → upd2 g 78 14 (nI 0) 78 i = fvS F (nI 0) i := fun i hi => by
    by_cases q : i = 14
    · subst q; rw [uS]; rfl
    · rw [uO (Or.inr q), hF i hi q]; exact (if_neg q).symm
  have hC0 : ruleC (upd2 g 78 14 (nI 0)) (5 + 3 * k) rl := hC.congr (fun a _ _ => uN (by omega))
  obtain ⟨g1, e1, p1⟩ := c_first _ m o (5 + 3 * k) rl _ hRk (by omega) hC0 hw hF0
  have hC1 : ruleC g1 (5 + 3 * k) rl := hC0.congr (fun a _ _ => p1 a (by omega))
  have w1 := c_isWait g1 m o (5 + 3 * k) rl (fvS F (nI 0)) hRk hC1 hw
  have hF1 : ∀ i, i < 16 → upd2 g1 78 14 (nI 1) 78 i = fvS F (nI 1) i := fun i hi => by
    by_cases q : i = 14
    · subst q; rw [uS]; rfl
    · rw [uO (Or.inr q), p1 78 (by omega), uO (Or.inr q), hF i hi q]; exact (if_neg q).symm
  have hC2 : ruleC (upd2 g1 78 14 (nI 1)) (5 + 3 * k) rl := hC1.congr (fun a _ _ => uN (by omega))
  obtain ⟨g2, e2, p2⟩ := c_first _ m o (5 + 3 * k) rl _ hRk (by omega) hC2 hw hF1
  have w2 := c_isWait g2 m o (5 + 3 * k) rl (fvS F (nI 1)) hRk (hC2.congr (fun a _ _ => p2 a (by omega))) hw
  have rc : ∀ (g : GG) (k2 : KK) (ls st : List Value) (v0 : Value), kRecv 7 5 1 k2 ls (v0 :: .ref (5 + 3 * k) :: st) (hp g m o) = k2 ls (v0 :: .ref (5 + 3 * k) :: st) (hp g m o) := fun g k2 ls st v0 => rc_at hRk.1 rfl
  refine ⟨g2, ?_, fun a a1 a2 => by rw [p2 a a2, uN a1, p1 a a2, uN a1], fun i hi => by rw [p2 78 (by omega), uO (Or.inr hi), p1 78 (by omega), uO (Or.inr hi)]⟩
  have tail : ∀ v : Int32, kb_X0_byRule_41 [.ref 164, .int (nI k), .ref (5 + 3 * k)] [.int v] (hp g1 m o) = some (some (.int (v ||| nI (bN (firstW (fvS F (nI 1)) rl) <<< 1))), hp g2 m o) := by
    intro v
    cases b : firstW (fvS F (nI 1)) rl with
    | true =>
      rw [b, if_pos rfl] at w2
      simp (disch := first | assumption | omega) only [kb_X0_byRule_73, kb_X0_byRule_41, KL, KB, KC, KI, KJ, KZ, bI_0, bI_n, nI00, nI10, ne_eq, Classical.not_not, not_true_eq_false, not_false_eq_true, if_true, if_false, ite_not, ite_self, Bool.false_eq_true, nIne1, O_co, O_pr, O_w, AR, rc, e2, w2, nI_shl]
      rfl
    | false =>
      rw [b, if_neg (by decide)] at w2
      simp (disch := first | assumption | omega) only [kb_X0_byRule_73, kb_X0_byRule_41, KL, KB, KC, KI, KJ, KZ, bI_0, bI_n, nI00, nI10, ne_eq, Classical.not_not, not_true_eq_false, not_false_eq_true, if_true, if_false, ite_not, ite_self, Bool.false_eq_true, nIne1, O_co, O_pr, O_w, AR, rc, e2, w2, nI_shl]
      rfl
  cases b : firstW (fvS F (nI 0)) rl with
  | true =>
    rw [b, if_pos rfl] at w1
    have := tail (nI 1)
    rw [nI_or] at this
    simp (disch := first | assumption | omega) only [f_X0_byRule, kb_X0_byRule_0, KL, KB, KC, KI, KJ, KZ, bI_0, bI_n, nI00, nI10, ne_eq, Classical.not_not, not_true_eq_false, not_false_eq_true, if_true, if_false, ite_not, ite_self, Bool.false_eq_true, nIne1, O_co, O_pr, O_w, AR, aalR, rc, e1, w1]
    exact this
  | false =>
    rw [b, if_neg (by decide)] at w1
    have := tail (nI 0)
    rw [nI_or] at this
    simp (disch := first | assumption | omega) only [f_X0_byRule, kb_X0_byRule_0, KL, KB, KC, KI, KJ, KZ, bI_0, bI_n, nI00, nI10, ne_eq, Classical.not_not, not_true_eq_false, not_false_eq_true, if_true, if_false, ite_not, ite_self, Bool.false_eq_true, nIne1, O_co, O_pr, O_w, AR, aalR, rc, e1, w1]
    exact this
/-- what the pair is filled with for two slots -/
def fvX (X n : Nat) (co : Nat → List Goods) (g : GG) (x y : Nat) : Nat → Int32 := fvec n (x / 2) (y / 2) (fun r => g (X + 1) r) (fun r => g (X + 1) (6 + r)) (fun r => g (X + 1) (12 + r)) (cG co x) (cG co y) (nI 0)
theorem ftB_th {co : Nat → List Goods} {x y : Nat} (h : ftB co x y = true) : thB co x = true ∧ thB co y = true ∧ y / 2 ≠ x / 2 ∧ wayB (x / 2) (cG co x).1 (y / 2) (cG co y).1 = true := by
  unfold ftB at h
  rw [Bool.and_eq_true, Bool.and_eq_true, Bool.and_eq_true] at h
  exact ⟨h.1.1.1, h.1.1.2, of_decide_eq_true h.1.2, h.2⟩
theorem bit1s (s i : Nat) (hs : s < 2147483648) (hi : i < 32) : (nI s >>> (nI i &&& 31)) &&& nI 1 = bW (s.testBit i) := by
  rw [nI_shr s i hs hi, nI_and, and1, Nat.testBit_shiftRight, Nat.add_zero]
  cases s.testBit i <;> rfl
theorem setN_lt12 (p : Nat → Bool) : setN p 12 < 4096 := setN_lt p 12
theorem c_ask {X n : Nat} {co : Nat → List Goods} {g : GG} (hX : isX X) (hX1 : X + 9 < 77) (hX2 : 16 < X) (n3 : 3 ≤ n) (n6 : n ≤ 6) (h : CO X n co g) (hf : ∀ x, x < 12 → g 167 x = nI (setN (ftB co x) 12)) (by_ rule : Int32) (told : Nat → Int32) (ht : ∀ r, r < n → (rule ≠ -1 → told r = rule) ∧ (rule = -1 → ∃ v, v < 2 ∧ g (X + 1) (18 + r) = nI v ∧ g 2 v = told r)) (ANS : Nat → Nat → Int32) (hA : ∀ (g' : GG) (x y : Nat), (∀ a, a ≠ 78 → a ≠ 79 → a ≠ 166 → g' a = g a) → x < 12 → y < 12 → ftB co x y = true → (∀ i, i < 16 → g' 78 i = fvX X n co g x y i) → ∃ g'', f_X0_answer [.ref 164, .int by_, .int (told (x / 2))] (hp g' X (OO n)) = some (some (.int (ANS x y)), hp g'' X (OO n)) ∧ ∀ a, a ≠ 78 → a ≠ 79 → g'' a = g' a) : ∃ g', f_X0_ask [.ref 164, .int by_, .int rule] (hp g X (OO n)) = some (none, hp g' X (OO n)) ∧ (∀ a, a ≠ 78 → a ≠ 79 → a ≠ 166 → g' a = g a) ∧ ∀ x y, x < 12 → y < 12 → ftB co x y = true → g' 166 (x * 12 + y) = ANS x y := by
  simp (disch := first | assumption | omega) only [f_X0_ask, kb_X0_ask_0, KL, KB, KC, KI, KJ, KZ, bI_0, bI_n, nI00, nI10, ne_eq, Classical.not_not, not_true_eq_false, not_false_eq_true, if_true, if_false, ite_not, ite_self, Bool.false_eq_true, nIne1]
  unfold kl_X0_ask_2
  refine kFor 12 (by unfold FU; omega) (fun i ls h' => ∃ (g' : GG) (u : List Value), ls = [.ref 164, .int by_, .int rule, .int (nI i)] ++ u ∧ h' = hp g' X (OO n) ∧ (∀ a, a ≠ 78 → a ≠ 79 → a ≠ 166 → g' a = g a) ∧ ∀ x y, x < i → y < 12 → ftB co x y = true → g' 166 (x * 12 + y) = ANS x y) (fun r => ∃ g', r = some (none, hp g' X (OO n)) ∧ (∀ a, a ≠ 78 → a ≠ 79 → a ≠ 166 → g' a = g a) ∧ ∀ x y, x < 12 → y < 12 → ftB co x y = true → g' 166 (x * 12 + y) = ANS x y) ?_ ?_ 0 _ _ (by omega) ⟨g, [], rfl, rfl, fun _ _ _ _ => rfl, fun x y hx => by omega⟩
  · rintro s0 ls h' ⟨g', u, rfl, rfl, h1, h2⟩
    have hin : (12 ≤ 12) = True := eq_true (by omega)
    simp (disch := first | assumption | omega) only [KL, KB, KC, KI, KJ, KZ, bI_0, bI_n, nI00, nI10, ne_eq, Classical.not_not, not_true_eq_false, not_false_eq_true, if_true, if_false, ite_not, ite_self, Bool.false_eq_true, nIne1, List.cons_append, List.nil_append, kMask, mask, nIle, hin]
    exact ⟨g', rfl, h1, h2⟩
  · rintro s0 i hi ih ls h' ⟨g', u, rfl, rfl, h1, h2⟩
    have hin : (12 ≤ i) = False := eq_false (by omega)
    -- the row of i
    have inner : ∀ (g' : GG) (u : List Value), (∀ a, a ≠ 78 → a ≠ 79 → a ≠ 166 → g' a = g a) → (∀ x y, x < i → y < 12 → ftB co x y = true → g' 166 (x * 12 + y) = ANS x y) → (fun r : RS => ∃ g', r = some (none, hp g' X (OO n)) ∧ (∀ a, a ≠ 78 → a ≠ 79 → a ≠ 166 → g' a = g a) ∧ ∀ x y, x < 12 → y < 12 → ftB co x y = true → g' 166 (x * 12 + y) = ANS x y) (kl_X0_ask_11 s0 ([.ref 164, .int by_, .int rule, .int (nI i), .int (nI 0)] ++ u) [] (hp g' X (OO n))) := by
      intro g' u h1 h2
      unfold kl_X0_ask_11
      refine kFor 12 (by unfold FU; omega) (fun jj ls h' => ∃ (g' : GG) (u : List Value), ls = [.ref 164, .int by_, .int rule, .int (nI i), .int (nI jj)] ++ u ∧ h' = hp g' X (OO n) ∧ (∀ a, a ≠ 78 → a ≠ 79 → a ≠ 166 → g' a = g a) ∧ (∀ x y, x < i → y < 12 → ftB co x y = true → g' 166 (x * 12 + y) = ANS x y) ∧ ∀ y, y < jj → ftB co i y = true → g' 166 (i * 12 + y) = ANS i y) (fun r => ∃ g', r = some (none, hp g' X (OO n)) ∧ (∀ a, a ≠ 78 → a ≠ 79 → a ≠ 166 → g' a = g a) ∧ ∀ x y, x < 12 → y < 12 → ftB co x y = true → g' 166 (x * 12 + y) = ANS x y) ?_ ?_ 0 _ _ (by omega) ⟨g', u, rfl, rfl, h1, h2, fun y hy => by omega⟩
      · rintro s1 ls h' ⟨g', u, rfl, rfl, h1, h2, h3⟩
        have hin : (12 ≤ 12) = True := eq_true (by omega)
        simp (disch := first | assumption | omega) only [KL, KB, KC, KI, KJ, KZ, bI_0, bI_n, nI00, nI10, ne_eq, Classical.not_not, not_true_eq_false, not_false_eq_true, if_true, if_false, ite_not, ite_self, Bool.false_eq_true, nIne1, List.cons_append, List.nil_append, kMask, mask, nIle, hin, nI_add]
        refine ih _ _ ⟨g', [.int (nI 12)], rfl, rfl, h1, fun x y hx hy hxy => ?_⟩
        by_cases q : x = i
        · subst q; exact h3 y hy hxy
        · exact h2 x y (by omega) hy hxy
      · rintro s1 jj hj ih2 ls h' ⟨g', u, rfl, rfl, h1, h2, h3⟩
        have hin : (12 ≤ jj) = False := eq_false (by omega)
        have ef : g' 167 i = nI (setN (ftB co i) 12) := by rw [h1 167 (by omega) (by omega) (by omega)]; exact hf i hi
        have hS12 := setN_lt12 (ftB co i)
        have hb1 : (nI ((setN (ftB co i) 12 >>> jj) &&& 1) = 0) = (ftB co i jj = false) := by
          rw [bit0, Nat.testBit_shiftRight, Nat.add_zero, setN_bit, decide_eq_true hj, Bool.true_and]
        have hC : CO X n co g' := h.congr (h1 _ (by omega) (by omega) (by omega)) (h1 _ (by omega) (by omega) (by omega)) (h1 _ (by omega) (by omega) (by omega))
        cases hxy : ftB co i jj with
        | false =>
          have hx' : (ftB co i jj = false) = True := eq_true hxy
          simp (disch := first | assumption | omega) only [kb_X0_ask_118, kb_X0_ask_97, KL, KB, KC, KI, KJ, KZ, bI_0, bI_n, nI00, nI10, ne_eq, Classical.not_not, not_true_eq_false, not_false_eq_true, if_true, if_false, ite_not, ite_self, Bool.false_eq_true, nIne1, List.cons_append, List.nil_append, kMask, mask, nIle, hin, O_co, AR, ef, nI_shr, nI_and, hb1, hx', nI_add]
          refine ih2 _ _ ⟨g', [], rfl, rfl, h1, h2, fun y hy hxy' => ?_⟩
          by_cases q : y = jj
          · subst q; rw [hxy] at hxy'; cases hxy'
          · exact h3 y (by omega) hxy'
        | true =>
          have hx' : (ftB co i jj = false) = False := eq_false (by rw [hxy]; decide)
          obtain ⟨t1, t2, t3, t4⟩ := ftB_th hxy
          obtain ⟨x1, x2, x3⟩ := thB_lt hC hi t1
          obtain ⟨y1, y2, y3⟩ := thB_lt hC hj t2
          obtain ⟨g2, e2, p2, p3⟩ := c_put g' X (OO n) X n (i / 2) (jj / 2) (cG co i) (cG co jj) hX (by omega) hC.1 n3 n6 x1 y1 (Ne.symm t3) x2.1 x2.2.2.1 x2.2.2.2 y2.1 y2.2.2.1 y2.2.2.2
          have zX1 : g' (X + 1) = g (X + 1) := h1 _ (by omega) (by omega) (by omega)
          obtain ⟨g3, e3, p4⟩ := hA g2 i jj (fun a a1 a2 a3 => by rw [p2 a a1]; exact h1 a a1 a2 a3) hi hj hxy (fun t ht => by rw [p3 t ht]; unfold fvX; rw [zX1])
          have hix : i * 12 + jj < 144 := by omega
          have e98 : kb_X0_ask_97 s0 s1 [.ref 164, .int by_, .int rule, .int (nI i), .int (nI jj)] [.int (told (i / 2))] (hp g2 X (OO n)) = kb_X0_ask_118 s0 s1 [.ref 164, .int by_, .int rule, .int (nI i), .int (nI jj), .int (told (i / 2))] [] (hp (upd2 g3 166 (i * 12 + jj) (ANS i jj)) X (OO n)) := by
            simp (disch := first | assumption | omega) only [kb_X0_ask_97, KL, KB, KC, KI, KJ, KZ, bI_0, bI_n, nI00, nI10, ne_eq, Classical.not_not, not_true_eq_false, not_false_eq_true, if_true, if_false, ite_not, ite_self, Bool.false_eq_true, nIne1, O_co, AR, nI_mul, nI_add, e3]
          have fin : (fun r : RS => ∃ g', r = some (none, hp g' X (OO n)) ∧ (∀ a, a ≠ 78 → a ≠ 79 → a ≠ 166 → g' a = g a) ∧ ∀ x y, x < 12 → y < 12 → ftB co x y = true → g' 166 (x * 12 + y) = ANS x y) (kb_X0_ask_97 s0 s1 [.ref 164, .int by_, .int rule, .int (nI i), .int (nI jj)] [.int (told (i / 2))] (hp g2 X (OO n))) := by
            rw [e98]
            simp (disch := first | assumption | omega) only [kb_X0_ask_118, KL, KB, KC, KI, KJ, KZ, bI_0, bI_n, nI00, nI10, ne_eq, Classical.not_not, not_true_eq_false, not_false_eq_true, if_true, if_false, ite_not, ite_self, Bool.false_eq_true, nIne1, List.cons_append, List.nil_append, nI_add]
            refine ih2 _ _ ⟨_, [.int (told (i / 2))], rfl, rfl, fun a a1 a2 a3 => by rw [uN a3, p4 a a1 a2, p2 a a1]; exact h1 a a1 a2 a3, fun x y hx hy hxy' => ?_, fun y hy hxy' => ?_⟩
            · rw [uO (by omega), p4 166 (by omega) (by omega), p2 166 (by omega)]
              exact h2 x y hx hy hxy'
            · by_cases q : y = jj
              · subst q; exact uS
              · rw [uO (by omega), p4 166 (by omega) (by omega), p2 166 (by omega)]
                exact h3 y (by omega) hxy'
          by_cases hr : rule = -1
          · obtain ⟨v, v2, ev, ek⟩ := (ht (i / 2) x1).2 hr
            have efa := x_fact g2 X (OO n) X 3 (i / 2) hX (by omega) (by omega)
            have ev' : g2 (X + 1) (3 * 6 + i / 2) = nI v := by rw [p2 _ (by omega), zX1]; exact ev
            rw [ev'] at efa
            have ek' : g2 2 v = told (i / 2) := by rw [p2 _ (by omega), h1 2 (by omega) (by omega) (by omega)]; exact ek
            simp (disch := first | assumption | omega) only [kl_X0_ask_11, kb_X0_ask_118, KL, KB, KC, KI, KJ, KZ, bI_0, bI_n, nI00, nI10, ne_eq, Classical.not_not, not_true_eq_false, not_false_eq_true, if_true, if_false, ite_not, ite_self, Bool.false_eq_true, nIne1, List.cons_append, List.nil_append, kMask, mask, nIle, hin, O_co, O_pr, O_w, XO, AR, ef, nI_shr, nI_and, hb1, hx', nd2, x3, y3, e2, hr, eq_self, efa, ek']
            rw [hr] at fin
            exact fin
          · have et := (ht (i / 2) x1).1 hr
            rw [et] at fin
            simp (disch := first | assumption | omega) only [kl_X0_ask_11, kb_X0_ask_118, KL, KB, KC, KI, KJ, KZ, bI_0, bI_n, nI00, nI10, ne_eq, Classical.not_not, not_true_eq_false, not_false_eq_true, if_true, if_false, ite_not, ite_self, Bool.false_eq_true, nIne1, List.cons_append, List.nil_append, kMask, mask, nIle, hin, O_co, O_pr, O_w, XO, AR, ef, nI_shr, nI_and, hb1, hx', nd2, x3, y3, e2, hr]
            exact fin
    have := inner g' (u.tail) h1 h2
    cases u with
    | nil =>
      simp only [List.cons_append, List.nil_append, List.tail_nil] at this
      simp (disch := first | assumption | omega) only [KL, KB, KC, KI, KJ, KZ, bI_0, bI_n, nI00, nI10, ne_eq, Classical.not_not, not_true_eq_false, not_false_eq_true, if_true, if_false, ite_not, ite_self, Bool.false_eq_true, nIne1, List.cons_append, List.nil_append, kMask, mask, nIle, hin]
      exact this
    | cons u0 u =>
      have := inner g' [] h1 h2
      simp only [List.cons_append, List.nil_append] at this
      simp (disch := first | assumption | omega) only [KL, KB, KC, KI, KJ, KZ, bI_0, bI_n, nI00, nI10, ne_eq, Classical.not_not, not_true_eq_false, not_false_eq_true, if_true, if_false, ite_not, ite_self, Bool.false_eq_true, nIne1, List.cons_append, List.nil_append, kMask, mask, nIle, hin]
      exact this
/-- what the class holds once it is settled who waits for whom -/
def STL (co : Nat → List Goods) (V : Nat → Nat → Bool → Bool) (g : GG) : Prop := ∀ x, x < 12 → g 167 x = nI (setN (ftB co x) 12) ∧ g 169 x = nI (setN (fun y => ftB co x y && V x y false) 12) ∧ g 168 x = nI (setN (fun y => ftB co x y && V x y true) 12)
theorem c_settle {X n : Nat} {co : Nat → List Goods} {g : GG} {o : Nat} (hf : ∀ x, x < 12 → g 167 x = nI (setN (ftB co x) 12)) (by_ told : Int32) (V : Nat → Nat → Bool → Bool) (hV : ∀ (g' : GG) (x y : Nat), (∀ a, a ≠ 168 → a ≠ 169 → g' a = g a) → x < 12 → y < 12 → ftB co x y = true → ∃ v : Int32, f_X0_verdicts [.ref 164, .int by_, .int told, .int (nI x), .int (nI y)] (hp g' X o) = some (some (.int v), hp g' X o) ∧ v &&& nI 1 = bW (V x y false) ∧ (v >>> (nI 1 &&& 31)) &&& nI 1 = bW (V x y true)) : ∃ g', f_X0_settle [.ref 164, .int by_, .int told] (hp g X o) = some (none, hp g' X o) ∧ (∀ a, a ≠ 168 → a ≠ 169 → g' a = g a) ∧ STL co V g' := by
  simp (disch := first | assumption | omega) only [f_X0_settle, kb_X0_settle_0, KL, KB, KC, KI, KJ, KZ, bI_0, bI_n, nI00, nI10, ne_eq, Classical.not_not, not_true_eq_false, not_false_eq_true, if_true, if_false, ite_not, ite_self, Bool.false_eq_true, nIne1]
  unfold kl_X0_settle_2
  refine kFor 12 (by unfold FU; omega) (fun i ls h' => ∃ (g' : GG) (u : List Value), ls = [.ref 164, .int by_, .int told, .int (nI i)] ++ u ∧ h' = hp g' X o ∧ (∀ a, a ≠ 168 → a ≠ 169 → g' a = g a) ∧ ∀ x, x < i → g' 169 x = nI (setN (fun y => ftB co x y && V x y false) 12) ∧ g' 168 x = nI (setN (fun y => ftB co x y && V x y true) 12)) (fun r => ∃ g', r = some (none, hp g' X o) ∧ (∀ a, a ≠ 168 → a ≠ 169 → g' a = g a) ∧ STL co V g') ?_ ?_ 0 _ _ (by omega) ⟨g, [], rfl, rfl, fun _ _ _ => rfl, fun x hx => by omega⟩
  · rintro s0 ls h' ⟨g', u, rfl, rfl, h1, h2⟩
    have hin : (12 ≤ 12) = True := eq_true (by omega)
    simp (disch := first | assumption | omega) only [KL, KB, KC, KI, KJ, KZ, bI_0, bI_n, nI00, nI10, ne_eq, Classical.not_not, not_true_eq_false, not_false_eq_true, if_true, if_false, ite_not, ite_self, Bool.false_eq_true, nIne1, List.cons_append, List.nil_append, kMask, mask, nIle, hin]
    exact ⟨g', rfl, h1, fun x hx => ⟨by rw [h1 167 (by omega) (by omega)]; exact hf x hx, h2 x hx⟩⟩
  · rintro s0 i hi ih ls h' ⟨g', u, rfl, rfl, h1, h2⟩
    have hin : (12 ≤ i) = False := eq_false (by omega)
    have ef : g' 167 i = nI (setN (ftB co i) 12) := by rw [h1 167 (by omega) (by omega)]; exact hf i hi
    have hS12 := setN_lt12 (ftB co i)
    -- what is written at the row's end
    have fin : ∀ (u : List Value) (A B : Nat) (v6 : Value), A = setN (fun y => ftB co i y && V i y false) 12 → B = setN (fun y => ftB co i y && V i y true) 12 → ∃ g'', kb_X0_settle_93 s0 ([.ref 164, .int by_, .int told, .int (nI i), .int (nI A), .int (nI B), v6] ++ u) [] (hp g' X o) = some (none, hp g'' X o) ∧ (∀ a, a ≠ 168 → a ≠ 169 → g'' a = g a) ∧ STL co V g'' := by
      intro u A B v6 hA hB
      simp (disch := first | assumption | omega) only [kb_X0_settle_93, KL, KB, KC, KI, KJ, KZ, bI_0, bI_n, nI00, nI10, ne_eq, Classical.not_not, not_true_eq_false, not_false_eq_true, if_true, if_false, ite_not, ite_self, Bool.false_eq_true, nIne1, List.cons_append, List.nil_append, O_co, AR, nI_add]
      refine ih _ _ ⟨_, _, rfl, rfl, fun a a1 a2 => by rw [uN a1, uN a2]; exact h1 a a1 a2, fun x hx => ?_⟩
      by_cases q : x = i
      · subst q
        exact ⟨by rw [uN (by omega), uS, hA], by rw [uS, hB]⟩
      · rw [uN (by omega), uO (by omega), uO (by omega), uN (by omega)]
        exact h2 x (by omega)
    have inner : ∀ (u : List Value), (fun r : RS => ∃ g', r = some (none, hp g' X o) ∧ (∀ a, a ≠ 168 → a ≠ 169 → g' a = g a) ∧ STL co V g') (kl_X0_settle_17 s0 ([.ref 164, .int by_, .int told, .int (nI i), .int (nI 0), .int (nI 0), .int (nI 0)] ++ u) [] (hp g' X o)) := by
      intro u
      unfold kl_X0_settle_17
      refine kFor 12 (by unfold FU; omega) (fun jj ls h' => ∃ (u : List Value), ls = [.ref 164, .int by_, .int told, .int (nI i), .int (nI (setN (fun y => ftB co i y && V i y false) jj)), .int (nI (setN (fun y => ftB co i y && V i y true) jj)), .int (nI jj)] ++ u ∧ h' = hp g' X o) (fun r => ∃ g', r = some (none, hp g' X o) ∧ (∀ a, a ≠ 168 → a ≠ 169 → g' a = g a) ∧ STL co V g') ?_ ?_ 0 _ _ (by omega) ⟨u, rfl, rfl⟩
      · rintro s1 ls h' ⟨u, rfl, rfl⟩
        have hin : (12 ≤ 12) = True := eq_true (by omega)
        have := fin [] _ _ (.int (nI 12)) rfl rfl
        simp only [List.cons_append, List.nil_append] at this
        simp (disch := first | assumption | omega) only [KL, KB, KC, KI, KJ, KZ, bI_0, bI_n, nI00, nI10, ne_eq, Classical.not_not, not_true_eq_false, not_false_eq_true, if_true, if_false, ite_not, ite_self, Bool.false_eq_true, nIne1, List.cons_append, List.nil_append, kMask, mask, nIle, hin]
        exact this
      · rintro s1 jj hj ih2 ls h' ⟨u, rfl, rfl⟩
        have hin : (12 ≤ jj) = False := eq_false (by omega)
        by_cases hz0 : setN (ftB co i) 12 >>> jj = 0
        · -- none beyond
          have hnone : ∀ y, jj ≤ y → y < 12 → ftB co i y = false := fun y h1 h2 => by
            have : (setN (ftB co i) 12 >>> jj).testBit (y - jj) = false := by rw [hz0, Nat.zero_testBit]
            rw [Nat.testBit_shiftRight, show jj + (y - jj) = y by omega, setN_bit, decide_eq_true h2, Bool.true_and] at this
            exact this
          have hz : (nI (setN (ftB co i) 12 >>> jj) = 0) = True := by rw [hz0]; exact eq_true rfl
          have e1 : setN (fun y => ftB co i y && V i y false) jj = setN (fun y => ftB co i y && V i y false) 12 := setN_ext (by omega) (fun y h1 h2 => by rw [hnone y h1 h2, Bool.false_and])
          have e2 : setN (fun y => ftB co i y && V i y true) jj = setN (fun y => ftB co i y && V i y true) 12 := setN_ext (by omega) (fun y h1 h2 => by rw [hnone y h1 h2, Bool.false_and])
          have := fin [] _ _ (.int (nI jj)) e1 e2
          simp only [List.cons_append, List.nil_append] at this
          simp (disch := first | assumption | omega) only [KL, KB, KC, KI, KJ, KZ, bI_0, bI_n, nI00, nI10, ne_eq, Classical.not_not, not_true_eq_false, not_false_eq_true, if_true, if_false, ite_not, ite_self, Bool.false_eq_true, nIne1, List.cons_append, List.nil_append, kMask, mask, nIle, hin, O_co, AR, ef, nI_shr, hz]
          exact this
        · have hlt : setN (ftB co i) 12 >>> jj < 2147483648 := by
            have : setN (ftB co i) 12 >>> jj ≤ setN (ftB co i) 12 := by rw [Nat.shiftRight_eq_div_pow]; exact Nat.div_le_self _ _
            omega
          have hz : (nI (setN (ftB co i) 12 >>> jj) = 0) = False := by rw [nIk0 hlt]; exact eq_false hz0
          have hb1 : (nI ((setN (ftB co i) 12 >>> jj) &&& 1) = 0) = (ftB co i jj = false) := by
            rw [bit0, Nat.testBit_shiftRight, Nat.add_zero, setN_bit, decide_eq_true hj, Bool.true_and]
          cases hxy : ftB co i jj with
          | false =>
            have hx' : (ftB co i jj = false) = True := eq_true hxy
            have e1 : setN (fun y => ftB co i y && V i y false) (jj + 1) = setN (fun y => ftB co i y && V i y false) jj := by show setN (fun y => ftB co i y && V i y false) jj ||| (if (ftB co i jj && V i jj false) = true then 1 <<< jj else 0) = _; rw [hxy, Bool.false_and, if_neg (by decide), Nat.or_zero]
            have e2 : setN (fun y => ftB co i y && V i y true) (jj + 1) = setN (fun y => ftB co i y && V i y true) jj := by show setN (fun y => ftB co i y && V i y true) jj ||| (if (ftB co i jj && V i jj true) = true then 1 <<< jj else 0) = _; rw [hxy, Bool.false_and, if_neg (by decide), Nat.or_zero]
            simp (disch := first | assumption | omega) only [kb_X0_settle_87, KL, KB, KC, KI, KJ, KZ, bI_0, bI_n, nI00, nI10, ne_eq, Classical.not_not, not_true_eq_false, not_false_eq_true, if_true, if_false, ite_not, ite_self, Bool.false_eq_true, nIne1, List.cons_append, List.nil_append, kMask, mask, nIle, hin, O_co, AR, ef, nI_shr, hz, nI_and, hb1, hx', nI_add]
            exact ih2 _ _ ⟨[], by rw [e1, e2]; rfl, rfl⟩
          | true =>
            have hx' : (ftB co i jj = false) = False := eq_false (by rw [hxy]; decide)
            obtain ⟨v, ev, v1, v2⟩ := hV g' i jj h1 hi hj hxy
            have sl : ∀ b : Bool, bW b <<< (nI jj &&& 31) = nI (if b = true then 1 <<< jj else 0) := fun b => by
              cases b with
              | true => exact nI_shl 1 jj (by omega)
              | false => exact (nI_shl 0 jj (by omega)).trans (by rw [Nat.zero_shiftLeft]; rfl)
            have e1 : setN (fun y => ftB co i y && V i y false) (jj + 1) = setN (fun y => ftB co i y && V i y false) jj ||| (if V i jj false = true then 1 <<< jj else 0) := by show setN (fun y => ftB co i y && V i y false) jj ||| (if (ftB co i jj && V i jj false) = true then 1 <<< jj else 0) = _; rw [hxy, Bool.true_and]
            have e2 : setN (fun y => ftB co i y && V i y true) (jj + 1) = setN (fun y => ftB co i y && V i y true) jj ||| (if V i jj true = true then 1 <<< jj else 0) := by show setN (fun y => ftB co i y && V i y true) jj ||| (if (ftB co i jj && V i jj true) = true then 1 <<< jj else 0) = _; rw [hxy, Bool.true_and]
            simp (disch := first | assumption | omega) only [kb_X0_settle_87, KL, KB, KC, KI, KJ, KZ, bI_0, bI_n, nI00, nI10, ne_eq, Classical.not_not, not_true_eq_false, not_false_eq_true, if_true, if_false, ite_not, ite_self, Bool.false_eq_true, nIne1, List.cons_append, List.nil_append, kMask, mask, nIle, hin, O_co, AR, ef, nI_shr, hz, nI_and, hb1, hx', ev, v1, v2, sl, nI_or, nI_add]
            exact ih2 _ _ ⟨_, by rw [e1, e2]; rfl, rfl⟩
    have := inner (u.drop 3)
    have h3 := inner []
    simp only [List.cons_append, List.nil_append] at h3
    match u with
    | [] =>
      simp (disch := first | assumption | omega) only [KL, KB, KC, KI, KJ, KZ, bI_0, bI_n, nI00, nI10, ne_eq, Classical.not_not, not_true_eq_false, not_false_eq_true, if_true, if_false, ite_not, ite_self, Bool.false_eq_true, nIne1, List.cons_append, List.nil_append, kMask, mask, nIle, hin]
      exact h3
    | [u0] =>
      simp (disch := first | assumption | omega) only [KL, KB, KC, KI, KJ, KZ, bI_0, bI_n, nI00, nI10, ne_eq, Classical.not_not, not_true_eq_false, not_false_eq_true, if_true, if_false, ite_not, ite_self, Bool.false_eq_true, nIne1, List.cons_append, List.nil_append, kMask, mask, nIle, hin]
      exact h3
    | u0 :: u1 :: u2 =>
      simp (disch := first | assumption | omega) only [KL, KB, KC, KI, KJ, KZ, bI_0, bI_n, nI00, nI10, ne_eq, Classical.not_not, not_true_eq_false, not_false_eq_true, if_true, if_false, ite_not, ite_self, Bool.false_eq_true, nIne1, List.cons_append, List.nil_append, kMask, mask, nIle, hin]
      exact h3
