-- ===== all that can come: slots, who fights =====
theorem nd1 (x : Nat) : x &&& 1 = x % 2 := Nat.and_one_is_mod x
theorem nd2 (x : Nat) : x >>> 1 = x / 2 := Nat.shiftRight_eq_div_pow x 1
theorem setN_ext {p : Nat → Bool} {n N : Nat} (hn : n ≤ N) (h : ∀ i, n ≤ i → i < N → p i = false) : setN p n = setN p N := by
  apply Nat.eq_of_testBit_eq
  intro i
  rw [setN_bit, setN_bit]
  by_cases h1 : i < n
  · rw [decide_eq_true h1, decide_eq_true (by omega : i < N)]
  · by_cases h2 : i < N
    · rw [decide_eq_false h1, decide_eq_true h2, h i (by omega) h2]; rfl
    · rw [decide_eq_false h1, decide_eq_false h2]
/-- is there a comer of this slot; its goods -/
def thB (co : Nat → List Goods) (x : Nat) : Bool := decide (x % 2 < (co (x / 2)).length)
def cG (co : Nat → List Goods) (x : Nat) : Goods := (co (x / 2)).getD (x % 2) (0, 0, 0)
def ftB (co : Nat → List Goods) (x y : Nat) : Bool := thB co x && thB co y && decide (y / 2 ≠ x / 2) && wayB (x / 2) (cG co x).1 (y / 2) (cG co y).1
/-- what stands in the class's cells of the comers -/
def CO (X n : Nat) (co : Nat → List Goods) (g : GG) : Prop := g X 0 = nI n ∧ ∀ r, r < 6 → (co r).length ≤ 2 ∧ (n ≤ r → co r = []) ∧ (∀ z ∈ co r, okGo n r z) ∧ g (X + 4) r = nI (co r).length ∧ ∀ (i : Nat) (z : Goods), (co r)[i]? = some z → g (X + 3) (2 * r + i) = nI (goodsN z)
theorem CK.co {X n : Nat} {co : Nat → List Goods} {fa : FA} {U : Nat → ARule} {K : Nat → Nat} {g : GG} (h : CK X n co fa U K g) : CO X n co g := ⟨h.1, h.2.2.1⟩
theorem CO.congr {X n : Nat} {co : Nat → List Goods} {g g' : GG} (h : CO X n co g) (h0 : g' X = g X) (h3 : g' (X + 3) = g (X + 3)) (h4 : g' (X + 4) = g (X + 4)) : CO X n co g' := ⟨by rw [h0]; exact h.1, fun r hr => by rw [h3, h4]; exact h.2 r hr⟩
theorem thB_lt {X n : Nat} {co : Nat → List Goods} {g : GG} (h : CO X n co g) {x : Nat} (hx : x < 12) (ht : thB co x = true) : x / 2 < n ∧ okGo n (x / 2) (cG co x) ∧ g (X + 3) x = nI (goodsN (cG co x)) := by
  have hl := of_decide_eq_true ht
  obtain ⟨a1, a2, a3, a4, a5⟩ := h.2 (x / 2) (by omega)
  have hr : x / 2 < n := by
    apply Nat.lt_of_not_le
    intro q
    rw [a2 q] at hl
    exact absurd hl (Nat.not_lt_zero _)
  have hz : (co (x / 2))[x % 2]? = some (cG co x) := by unfold cG; rw [List.getD_eq_getElem?_getD, List.getElem?_eq_getElem hl]; rfl
  refine ⟨hr, a3 _ (List.mem_of_getElem? hz), ?_⟩
  have := a5 _ _ hz
  rwa [show 2 * (x / 2) + x % 2 = x by omega] at this
theorem thB_ge {X n : Nat} {co : Nat → List Goods} {g : GG} (h : CO X n co g) {x : Nat} (hx : x < 12) (hx2 : 2 * n ≤ x) : thB co x = false := by
  cases t : thB co x with
  | false => rfl
  | true => have := (thB_lt h hx t).1; omega
theorem c_isThere {X n : Nat} {co : Nat → List Goods} {g : GG} {o : Nat} (hX : isX X) (h : CO X n co g) (x : Nat) (hx : x < 12) : f_X0_isThere [.ref 164, .int (nI x)] (hp g X o) = some (some (.int (bW (thB co x))), hp g X o) := by
  obtain ⟨a1, a2, a3, a4, a5⟩ := h.2 (x / 2) (by omega)
  cases t : thB co x with
  | true =>
    have hl := of_decide_eq_true t
    have hle : ((co (x / 2)).length ≤ x % 2) = False := eq_false (by omega)
    simp (disch := first | assumption | omega) only [f_X0_isThere, kb_X0_isThere_22, kb_X0_isThere_0, KL, KB, KC, KI, KJ, KZ, bI_0, bI_n, nI00, nI10, ne_eq, Classical.not_not, not_true_eq_false, not_false_eq_true, if_true, if_false, ite_not, ite_self, Bool.false_eq_true, nIne1, O_co, XO, nI_and, nI_shr, nd1, nd2, a4, nIle, hle, bW_t]
  | false =>
    have hl := of_decide_eq_false t
    have hle : ((co (x / 2)).length ≤ x % 2) = True := eq_true (by omega)
    simp (disch := first | assumption | omega) only [f_X0_isThere, kb_X0_isThere_22, kb_X0_isThere_0, KL, KB, KC, KI, KJ, KZ, bI_0, bI_n, nI00, nI10, ne_eq, Classical.not_not, not_true_eq_false, not_false_eq_true, if_true, if_false, ite_not, ite_self, Bool.false_eq_true, nIne1, O_co, XO, nI_and, nI_shr, nd1, nd2, a4, nIle, hle, bW_f]
theorem c_fightingWith {X n : Nat} {co : Nat → List Goods} {g : GG} {o : Nat} (hX : isX X) (n6 : n ≤ 6) (h : CO X n co g) (x : Nat) (hx : x < 12) (hxt : thB co x = true) : f_X0_fightingWith [.ref 164, .int (nI x)] (hp g X o) = some (some (.int (nI (setN (ftB co x) 12))), hp g X o) := by
  have hs : setN (ftB co x) 12 = setN (ftB co x) (2 * n) := (setN_ext (by omega) (fun i h1 h2 => by unfold ftB; rw [thB_ge h h2 h1, Bool.and_false, Bool.false_and, Bool.false_and])).symm
  rw [hs]
  obtain ⟨x1, x2, x3⟩ := thB_lt h hx hxt
  simp (disch := first | assumption | omega) only [f_X0_fightingWith, kb_X0_fightingWith_76, kb_X0_fightingWith_0, KL, KB, KC, KI, KJ, KZ, bI_0, bI_n, nI00, nI10, ne_eq, Classical.not_not, not_true_eq_false, not_false_eq_true, if_true, if_false, ite_not, ite_self, Bool.false_eq_true, nIne1]
  unfold kl_X0_fightingWith_4
  refine kFor (2 * n) (by unfold FU; omega) (fun i ls h' => ls = [.ref 164, .int (nI x), .int (nI (setN (ftB co x) i)), .int (nI i)] ∧ h' = hp g X o) (fun r => r = some (some (.int (nI (setN (ftB co x) (2 * n)))), hp g X o)) ?_ ?_ 0 _ _ (by omega) ⟨rfl, rfl⟩
  · rintro s0 ls h' ⟨rfl, rfl⟩
    have hin : (2 * n ≤ 2 * n) = True := eq_true (by omega)
    simp (disch := first | assumption | omega) only [KL, KB, KC, KI, KJ, KZ, bI_0, bI_n, nI00, nI10, ne_eq, Classical.not_not, not_true_eq_false, not_false_eq_true, if_true, if_false, ite_not, ite_self, Bool.false_eq_true, nIne1, kMask, mask, O_co, XO, h.1, nI_mul, nIle, hin]
  · rintro s0 i hi ih ls h' ⟨rfl, rfl⟩
    have hin : (2 * n ≤ i) = False := eq_false (by omega)
    by_cases q : i / 2 = x / 2
    · have hq : (i / 2 = x / 2) = True := eq_true q
      have hf : ftB co x i = false := by unfold ftB; rw [decide_eq_false (fun e => e q), Bool.and_false, Bool.false_and]
      have hS : setN (ftB co x) (i + 1) = setN (ftB co x) i := by show _ ||| _ = _; rw [if_neg (by rw [hf]; decide), Nat.or_zero]
      simp (disch := first | assumption | omega) only [f_X0_fightingWith, kb_X0_fightingWith_76, kb_X0_fightingWith_0, KL, KB, KC, KI, KJ, KZ, bI_0, bI_n, nI00, nI10, ne_eq, Classical.not_not, not_true_eq_false, not_false_eq_true, if_true, if_false, ite_not, ite_self, Bool.false_eq_true, nIne1, kMask, mask, O_co, XO, h.1, nI_mul, nIle, hin, nI_shr, nd2, nIeq, hq, nI_add]
      exact ih _ _ ⟨by rw [hS], rfl⟩
    · have hq : (i / 2 = x / 2) = False := eq_false q
      have et := c_isThere (o := o) hX h i (by omega)
      cases t : thB co i with
      | false =>
        have hf : ftB co x i = false := by unfold ftB; rw [t, Bool.and_false, Bool.false_and, Bool.false_and]
        have hS : setN (ftB co x) (i + 1) = setN (ftB co x) i := by show _ ||| _ = _; rw [if_neg (by rw [hf]; decide), Nat.or_zero]
        rw [t] at et
        simp (disch := first | assumption | omega) only [f_X0_fightingWith, kb_X0_fightingWith_76, kb_X0_fightingWith_0, KL, KB, KC, KI, KJ, KZ, bI_0, bI_n, nI00, nI10, ne_eq, Classical.not_not, not_true_eq_false, not_false_eq_true, if_true, if_false, ite_not, ite_self, Bool.false_eq_true, nIne1, kMask, mask, O_co, XO, h.1, nI_mul, nIle, hin, nI_shr, nd2, nIeq, hq, et, bW_f, nI_add]
        exact ih _ _ ⟨by rw [hS], rfl⟩
      | true =>
        rw [t] at et
        obtain ⟨y1, y2, y3⟩ := thB_lt h (by omega : i < 12) t
        have i12 : i < 12 := by omega
        have t1 := fun h => c_toIn (cG co x) (by have := x2.1; omega) x2.2.2.1 x2.2.2.2 h
        have t2 := fun h => c_toIn (cG co i) (by have := y2.1; omega) y2.2.2.1 y2.2.2.2 h
        have hw := fun h => c_ways (x / 2) (cG co x).1 (i / 2) (cG co i).1 (by omega) (by have := x2.1; omega) (by omega) (by have := y2.1; omega) h
        have hf0 : ftB co x i = wayB (x / 2) (cG co x).1 (i / 2) (cG co i).1 := by unfold ftB; rw [hxt, t, decide_eq_true q]; rfl
        cases w : wayB (x / 2) (cG co x).1 (i / 2) (cG co i).1 with
        | true =>
          have hS : setN (ftB co x) (i + 1) = setN (ftB co x) i ||| 1 <<< i := by show _ ||| _ = _; rw [if_pos (by rw [hf0]; exact w)]
          simp only [w, if_true] at hw
          simp (disch := first | assumption | omega) only [f_X0_fightingWith, kb_X0_fightingWith_76, kb_X0_fightingWith_0, KL, KB, KC, KI, KJ, KZ, bI_0, bI_n, nI00, nI10, ne_eq, Classical.not_not, not_true_eq_false, not_false_eq_true, if_true, if_false, ite_not, ite_self, Bool.false_eq_true, nIne1, kMask, mask, O_co, XO, h.1, nI_mul, nIle, hin, nI_shr, nd2, nIeq, hq, et, bW_t, x3, y3, t1, t2, hw, nI_shl, nI_or, nI_add]
          exact ih _ _ ⟨by rw [hS], rfl⟩
        | false =>
          have hS : setN (ftB co x) (i + 1) = setN (ftB co x) i := by show _ ||| _ = _; rw [if_neg (by rw [hf0, w]; decide), Nat.or_zero]
          simp only [w, Bool.false_eq_true, if_false] at hw
          simp (disch := first | assumption | omega) only [f_X0_fightingWith, kb_X0_fightingWith_76, kb_X0_fightingWith_0, KL, KB, KC, KI, KJ, KZ, bI_0, bI_n, nI00, nI10, ne_eq, Classical.not_not, not_true_eq_false, not_false_eq_true, if_true, if_false, ite_not, ite_self, Bool.false_eq_true, nIne1, kMask, mask, O_co, XO, h.1, nI_mul, nIle, hin, nI_shr, nd2, nIeq, hq, et, bW_t, x3, y3, t1, t2, hw, nI_add]
          exact ih _ _ ⟨by rw [hS], rfl⟩
/-- how many numbers there are -/
def nuN (co : Nat → List Goods) : Nat → Nat
  | 0 => 1
  | k + 1 => nuN co k * ((co k).length + 1)
theorem aalO {g : GG} {m o c : Nat} (hc : c < 4) (k : KK) (ls st : List Value) : kAal 4 k ls (.int (nI c) :: .ref 165 :: st) (hp g m o) = k ls (.ref (172 + 3 * c) :: st) (hp g m o) := by
  have h : c = 0 ∨ c = 1 ∨ c = 2 ∨ c = 3 := by omega
  rcases h with rfl | rfl | rfl | rfl <;> rfl
theorem ftB_of_not {co : Nat → List Goods} {x : Nat} (h : thB co x = false) (y : Nat) : ftB co x y = false := by unfold ftB; rw [h]; rfl
theorem setN_none {p : Nat → Bool} (n : Nat) (h : ∀ i, p i = false) : setN p n = 0 := by
  apply Nat.eq_of_testBit_eq
  intro i
  rw [setN_bit, h i, Bool.and_false, Nat.zero_testBit]
def OO (n : Nat) : Nat := 172 + 3 * (n - 3)
theorem c_meet75 {X n : Nat} {co : Nat → List Goods} {g : GG} (hX : isX X) (hX1 : X + 9 < 161) (n6 : n ≤ 6) (h : CO X n co g) (v : Value) : ∃ g', kl_X0_meet_75 [.ref 164, .ref X, v, .int (nI 0)] [] (hp g X (OO n)) = some (none, hp g' X (OO n)) ∧ (∀ a, a ≠ 167 → g' a = g a) ∧ ∀ x, x < 12 → g' 167 x = nI (setN (ftB co x) 12) := by
  unfold kl_X0_meet_75
  refine kFor 12 (by unfold FU; omega) (fun i ls h' => ∃ (g' : GG) (v : Value), ls = [.ref 164, .ref X, v, .int (nI i)] ∧ h' = hp g' X (OO n) ∧ (∀ a, a ≠ 167 → g' a = g a) ∧ ∀ x, x < i → g' 167 x = nI (setN (ftB co x) 12)) (fun r => ∃ g', r = some (none, hp g' X (OO n)) ∧ (∀ a, a ≠ 167 → g' a = g a) ∧ ∀ x, x < 12 → g' 167 x = nI (setN (ftB co x) 12)) ?_ ?_ 0 _ _ (by omega) ⟨g, v, rfl, rfl, fun _ _ => rfl, fun x hx => by omega⟩
  · rintro s0 ls h' ⟨g', v, rfl, rfl, h1, h2⟩
    have hin : (12 ≤ 12) = True := eq_true (by omega)
    simp (disch := first | assumption | omega) only [KL, KB, KC, KI, KJ, KZ, bI_0, bI_n, nI00, nI10, ne_eq, Classical.not_not, not_true_eq_false, not_false_eq_true, if_true, if_false, ite_not, ite_self, Bool.false_eq_true, nIne1, kMask, mask, nIle, hin]
    exact ⟨g', rfl, h1, h2⟩
  · rintro s0 i hi ih ls h' ⟨g', v, rfl, rfl, h1, h2⟩
    have hin : (12 ≤ i) = False := eq_false (by omega)
    have hC : CO X n co g' := h.congr (h1 _ (by omega)) (h1 _ (by omega)) (h1 _ (by omega))
    have en := hC.1
    have fin : ∀ V : Nat, V = setN (ftB co i) 12 → ∃ g'', s0 [.ref 164, .ref X, .long 0, .int (nI (i + 1))] [] (hp (upd2 g' 167 i (nI V)) X (OO n)) = some (none, hp g'' X (OO n)) ∧ (∀ a, a ≠ 167 → g'' a = g a) ∧ ∀ x, x < 12 → g'' 167 x = nI (setN (ftB co x) 12) := fun V hV => ih _ _ ⟨_, _, rfl, rfl, fun a ha => by rw [uN ha]; exact h1 a ha, fun x hx => by
      by_cases q : x = i
      · subst q; rw [uS, hV]
      · rw [uO (Or.inr q)]; exact h2 x (by omega)⟩
    by_cases q : i < 2 * n
    · have hle : (2 * n ≤ i) = False := eq_false (by omega)
      have et := c_isThere (o := OO n) hX hC i hi
      cases t : thB co i with
      | true =>
        rw [t] at et
        have ef := c_fightingWith (o := OO n) hX n6 hC i hi t
        simp (disch := first | assumption | omega) only [kb_X0_meet_113, kb_X0_meet_112, KL, KB, KC, KI, KJ, KZ, bI_0, bI_n, nI00, nI10, ne_eq, Classical.not_not, not_true_eq_false, not_false_eq_true, if_true, if_false, ite_not, ite_self, Bool.false_eq_true, nIne1, kMask, mask, nIle, hin, O_co, XO, AR, en, nI_mul, hle, et, bW_t, ef, nI_add]
        exact fin _ rfl
      | false =>
        rw [t] at et
        simp (disch := first | assumption | omega) only [kb_X0_meet_113, kb_X0_meet_112, KL, KB, KC, KI, KJ, KZ, bI_0, bI_n, nI00, nI10, ne_eq, Classical.not_not, not_true_eq_false, not_false_eq_true, if_true, if_false, ite_not, ite_self, Bool.false_eq_true, nIne1, kMask, mask, nIle, hin, O_co, XO, AR, en, nI_mul, hle, et, bW_f, nI_add]
        exact fin 0 (setN_none 12 (ftB_of_not t)).symm
    · have hle : (2 * n ≤ i) = True := eq_true (by omega)
      have t := thB_ge hC hi (by omega)
      simp (disch := first | assumption | omega) only [kb_X0_meet_113, kb_X0_meet_112, KL, KB, KC, KI, KJ, KZ, bI_0, bI_n, nI00, nI10, ne_eq, Classical.not_not, not_true_eq_false, not_false_eq_true, if_true, if_false, ite_not, ite_self, Bool.false_eq_true, nIne1, kMask, mask, nIle, hin, O_co, XO, AR, en, nI_mul, hle, nI_add]
      exact fin 0 (setN_none 12 (ftB_of_not t)).symm
theorem putMet {g : GG} {m o X : Nat} (hX : X < 212) (k : KK) (ls st : List Value) : kPutR 0 20 3 k ls (.ref X :: .ref 164 :: st) (hp g m o) = k ls st (hp g X o) := by
  have e : upd2 (RR m o) 164 3 (some X) = RR X o := by
    funext a i
    unfold upd2 RR
    by_cases h : a = 164 ∧ i = 3
    · rw [if_pos h, if_pos h]
    · rw [if_neg h, if_neg h, if_neg h]
  show (if hSh (hp g m o) 164 = (40 + 0, 20) ∧ X < hN (hp g m o) then k ls st (setR (hp g m o) 164 3 (some X)) else none) = _
  rw [if_pos ⟨rfl, hX⟩]
  show k ls st (SH, g, upd2 (RR m o) 164 3 (some X), 212, 24944) = _
  rw [e]
  rfl
theorem putOrd {g : GG} {m o X : Nat} (hX : X < 212) (k : KK) (ls st : List Value) : kPutR 0 20 4 k ls (.ref X :: .ref 164 :: st) (hp g m o) = k ls st (hp g m X) := by
  have e : upd2 (RR m o) 164 4 (some X) = RR m X := by
    funext a i
    unfold upd2 RR
    by_cases h : a = 164 ∧ i = 4
    · rw [if_pos h, if_neg (fun q => by omega), if_pos h]
    · rw [if_neg h]
      by_cases h3 : a = 164 ∧ i = 3
      · rw [if_pos h3, if_pos h3]
      · rw [if_neg h3, if_neg h, if_neg h3, if_neg h]
  show (if hSh (hp g m o) 164 = (40 + 0, 20) ∧ X < hN (hp g m o) then k ls st (setR (hp g m o) 164 4 (some X)) else none) = _
  rw [if_pos ⟨rfl, hX⟩]
  show k ls st (SH, g, upd2 (RR m o) 164 4 (some X), 212, 24944) = _
  rw [e]
  rfl
theorem c_meet {X n : Nat} {co : Nat → List Goods} {g : GG} {m o : Nat} (hX : isX X) (hX1 : X + 9 < 161) (n3 : 3 ≤ n) (n6 : n ≤ 6) (h : CO X n co g) : ∃ g', f_X0_meet [.ref 164, .ref X] (hp g m o) = some (none, hp g' X (OO n)) ∧ (∀ a, a ≠ 164 → a ≠ 167 → g' a = g a) ∧ (∀ i, i ≠ 5 → g' 164 i = g 164 i) ∧ g' 164 5 = nI (nuN co n) ∧ ∀ x, x < 12 → g' 167 x = nI (setN (ftB co x) 12) := by
  have h0 : (nI (n - 3) < 0) = False := nIlt0 (by omega)
  have hle : (4 ≤ n - 3) = False := eq_false (by omega)
  have hlen : ∀ (k : KK) (ls st : List Value) (g : GG) (m o : Nat), kLen k ls (.ref 165 :: st) (hp g m o) = k ls (.int (nI 4) :: st) (hp g m o) := fun _ _ _ _ _ _ => rfl
  have key : ∀ v : Value, ∃ g', kl_X0_meet_42 [.ref 164, .ref X, v, .int (nI 0)] [] (hp (upd2 g 164 5 (nI 1)) X (OO n)) = some (none, hp g' X (OO n)) ∧ (∀ a, a ≠ 164 → a ≠ 167 → g' a = g a) ∧ (∀ i, i ≠ 5 → g' 164 i = g 164 i) ∧ g' 164 5 = nI (nuN co n) ∧ ∀ x, x < 12 → g' 167 x = nI (setN (ftB co x) 12) := by
    intro v
    unfold kl_X0_meet_42
    refine kFor n (by unfold FU; omega) (fun i ls h' => ∃ (g' : GG) (v : Value), ls = [.ref 164, .ref X, v, .int (nI i)] ∧ h' = hp g' X (OO n) ∧ (∀ a, a ≠ 164 → g' a = g a) ∧ (∀ i, i ≠ 5 → g' 164 i = g 164 i) ∧ g' 164 5 = nI (nuN co i)) (fun r => ∃ g', r = some (none, hp g' X (OO n)) ∧ (∀ a, a ≠ 164 → a ≠ 167 → g' a = g a) ∧ (∀ i, i ≠ 5 → g' 164 i = g 164 i) ∧ g' 164 5 = nI (nuN co n) ∧ ∀ x, x < 12 → g' 167 x = nI (setN (ftB co x) 12)) ?_ ?_ 0 _ _ (by omega) ⟨_, v, rfl, rfl, fun a ha => uN ha, fun i hi => uO (Or.inr hi), uS⟩
    · rintro s0 ls h' ⟨g', v, rfl, rfl, h1, h2, h3⟩
      have hin : (n ≤ n) = True := eq_true (by omega)
      have hC : CO X n co g' := h.congr (h1 _ (by omega)) (h1 _ (by omega)) (h1 _ (by omega))
      have en := hC.1
      obtain ⟨g2, e2, p1, p2⟩ := c_meet75 hX hX1 n6 hC (.long 0)
      simp (disch := first | assumption | omega) only [KL, KB, KC, KI, KJ, KZ, bI_0, bI_n, nI00, nI10, ne_eq, Classical.not_not, not_true_eq_false, not_false_eq_true, if_true, if_false, ite_not, ite_self, Bool.false_eq_true, nIne1, kMask, mask, nIle, hin, XO, en]
      exact ⟨g2, e2, fun a a1 a2 => by rw [p1 a a2]; exact h1 a a1, fun i hi => by rw [p1 164 (by omega)]; exact h2 i hi, by rw [p1 164 (by omega)]; exact h3, p2⟩
    · rintro s0 i hi ih ls h' ⟨g', v, rfl, rfl, h1, h2, h3⟩
      have hin : (n ≤ i) = False := eq_false (by omega)
      have hC : CO X n co g' := h.congr (h1 _ (by omega)) (h1 _ (by omega)) (h1 _ (by omega))
      have en := hC.1
      have e4 := (hC.2 i (by omega)).2.2.2.1
      simp (disch := first | assumption | omega) only [KL, KB, KC, KI, KJ, KZ, bI_0, bI_n, nI00, nI10, ne_eq, Classical.not_not, not_true_eq_false, not_false_eq_true, if_true, if_false, ite_not, ite_self, Bool.false_eq_true, nIne1, kMask, mask, nIle, hin, XO, O_co, en, h3, e4, nI_add, nI_mul]
      exact ih _ _ ⟨_, _, rfl, rfl, fun a ha => by rw [uN ha]; exact h1 a ha, fun i hi => by rw [uO (Or.inr hi)]; exact h2 i hi, uS⟩
  have en := h.1
  obtain ⟨g', e, w⟩ := key (.int (nI (n - 3)))
  refine ⟨g', ?_, w⟩
  rw [← e]
  simp (disch := first | assumption | omega) only [f_X0_meet, kb_X0_meet_0, kb_X0_meet_35, KL, KB, KC, KI, KJ, KZ, bI_0, bI_n, nI00, nI10, ne_eq, Classical.not_not, not_true_eq_false, not_false_eq_true, if_true, if_false, ite_not, ite_self, Bool.false_eq_true, nIne1, XO, O_co, putMet, putOrd, en, nI_sub, h0, hlen, nIle, hle, aalO]
  rfl
