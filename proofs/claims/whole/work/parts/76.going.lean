-- ===== the class: by rules; who goes of a state of all that can come =====
theorem fvS_fvec (n x y : Nat) (sz sl sg : Nat → Int32) (p q : Goods) (f0 f : Int32) : fvS (fvec n x y sz sl sg p q f0) f = fvec n x y sz sl sg p q f := by
  funext i
  unfold fvS
  by_cases h : i = 14
  · subst h; rfl
  · rw [if_neg h]
    match i, h with
    | 0, _ => rfl
    | 1, _ => rfl
    | 2, _ => rfl
    | 3, _ => rfl
    | 4, _ => rfl
    | 5, _ => rfl
    | 6, _ => rfl
    | 7, _ => rfl
    | 8, _ => rfl
    | 9, _ => rfl
    | 10, _ => rfl
    | 11, _ => rfl
    | 12, _ => rfl
    | 13, _ => rfl
    | 14, h => exact absurd rfl h
    | k + 15, _ => rfl
/-- what a slot answers another one by the rules kr of the roads: f: the other one is first -/
def VR (n : Nat) (co : Nat → List Goods) (fa : FA) (rl : Nat → ARule) (x y : Nat) (f : Bool) : Bool := firstW (fvec n (x / 2) (y / 2) (fun r => nI (fa 0 r)) (fun r => nI (fa 1 r)) (fun r => nI (fa 2 r)) (cG co x) (cG co y) (bW f)) (rl (x / 2))
theorem bN2 (a b : Bool) : nI (bN a ||| bN b <<< 1) &&& nI 1 = bW a ∧ (nI (bN a ||| bN b <<< 1) >>> (nI 1 &&& 31)) &&& nI 1 = bW b := by
  cases a <;> cases b <;> decide
theorem c_verdict0 (g : GG) (m o x y : Nat) (told : Nat) (hx : x < 12) (hy : y < 12) (ht : told < 2147483648) : f_X0_verdicts [.ref 164, .int (nI 0), .int (nI told), .int (nI x), .int (nI y)] (hp g m o) = some (some (.int (g 166 (x * 12 + y))), hp g m o) := by
  have hix : x * 12 + y < 144 := by omega
  have sw : ∀ (k0 k1 k2 kd : KK) (ls st : List Value) (h : HP), kSw 1 [k0, k1, k2] kd ls (.int (nI 0) :: st) h = kd ls st h := fun _ _ _ _ _ _ _ => rfl
  simp (disch := first | assumption | omega) only [f_X0_verdicts, kb_X0_verdicts_0, KL, KB, KC, KI, KJ, KZ, bI_0, bI_n, nI00, nI10, ne_eq, Classical.not_not, not_true_eq_false, not_false_eq_true, if_true, if_false, ite_not, ite_self, Bool.false_eq_true, nIne1, O_co, AR, nI_mul, nI_add, nI_shr, nd2, sw]
theorem c_askByRule {X n : Nat} {co : Nat → List Goods} {fa : FA} {U : Nat → ARule} {K : Nat → Nat} {g : GG} {m o : Nat} (hX : isX X) (hX1 : X + 9 < 77) (hX2 : 16 < X) (n3 : 3 ≤ n) (n6 : n ≤ 6) (hK : CK X n co fa U K g) (rule : Int32) (kr : Nat → Nat) (hr : (rule = -1 ∧ ∀ r, kr r = K (fa 3 r)) ∨ ∃ k, k < 4 ∧ rule = nI k ∧ ∀ r, kr r = k) : ∃ g', f_X0_askByRule [.ref 164, .ref X, .int rule] (hp g m o) = some (none, hp g' X (OO n)) ∧ (∀ a, a ≠ 78 → a ≠ 79 → a ≠ 164 → a ≠ 166 → a ≠ 167 → a ≠ 168 → a ≠ 169 → g' a = g a) ∧ g' 164 5 = nI (nuN co n) ∧ (∀ i, i ≠ 5 → g' 164 i = g 164 i) ∧ STL co (VR n co fa (fun r => U (kr r))) g' := by
  obtain ⟨g1, e1, p1, p2, p3, p4⟩ := c_meet (g := g) (m := m) (o := o) hX (by omega) n3 n6 hK.co
  have z1 : ∀ a, a < 77 → g1 a = g a := fun a ha => p1 a (by omega) (by omega)
  have hC1 : CO X n co g1 := hK.co.congr (z1 _ (by omega)) (z1 _ (by omega)) (z1 _ (by omega))
  have hkr : ∀ r, r < n → kr r < 4 := fun r hr' => by
    rcases hr with ⟨-, h⟩ | ⟨k, k4, -, h⟩
    · rw [h]
      have h3 := hK.2.1 3 (by omega) r (by omega)
      have hm : mostN 3 = 1 := rfl
      rw [hm] at h3
      exact (hK.2.2.2.2 _ (by omega)).1
    · rw [h]; exact k4
  obtain ⟨g2, e2, q1, q2⟩ := c_ask (g := g1) hX hX1 hX2 n3 n6 hC1 p4 (nI 0) rule (fun r => nI (kr r)) (fun r hr' => by
    rcases hr with ⟨h0, h⟩ | ⟨k, k4, h0, h⟩
    · refine ⟨fun q => absurd h0 q, fun _ => ?_⟩
      have h3 := hK.2.1 3 (by omega) r (by omega)
      have hm : mostN 3 = 1 := rfl
      rw [hm] at h3
      exact ⟨fa 3 r, by omega, by rw [z1 _ (by omega)]; exact h3.2, by rw [z1 _ (by omega)]; rw [h r]; exact (hK.2.2.2.2 _ (by omega)).2⟩
    · exact ⟨fun _ => by rw [h r, h0], fun q => by rw [h0] at q; exact ((nIne1 (by omega)).mp q).elim⟩) (fun x y => nI (bN (VR n co fa (fun r => U (kr r)) x y false) ||| bN (VR n co fa (fun r => U (kr r)) x y true) <<< 1)) (fun g' x y w1 hx hy hxy w2 => by
    obtain ⟨t1, t2, t3, t4⟩ := ftB_th hxy
    obtain ⟨x1, x2, x3⟩ := thB_lt hC1 hx t1
    obtain ⟨y1, y2, y3⟩ := thB_lt hC1 hy t2
    have hk := hkr _ x1
    obtain ⟨u1, u2⟩ := hK.2.2.2.1 _ hk
    have hf0 := fun r (hr : r < n) => (hK.2.1 0 (by omega) r (by omega)).2
    have hf1 := fun r (hr : r < n) => (hK.2.1 1 (by omega) r (by omega)).2
    have hf2 := fun r (hr : r < n) => (hK.2.1 2 (by omega) r (by omega)).2
    simp only [Nat.mul_zero, Nat.zero_add] at hf0
    simp only [show 6 * 1 = 6 from rfl] at hf1
    simp only [show 6 * 2 = 12 from rfl] at hf2
    have hfv : fvX X n co g1 x y = fvec n (x / 2) (y / 2) (fun r => nI (fa 0 r)) (fun r => nI (fa 1 r)) (fun r => nI (fa 2 r)) (cG co x) (cG co y) (nI 0) := by
      unfold fvX
      rw [z1 _ (by omega)]
      exact fvec_congr (hf0 _ x1) (hf0 _ y1) (hf1 _ x1) (hf1 _ y1) (hf2 _ x1) (hf2 _ y1)
    rw [hfv] at w2
    obtain ⟨g3, e3, v1, v2⟩ := c_byRule g' X (OO n) (kr (x / 2)) (U (kr (x / 2))) _ hk (u2.congr (fun a a1 a2 => by rw [w1 a (by omega) (by omega) (by omega), z1 a (by omega)])) u1 (fun i hi _ => w2 i hi)
    rw [fvS_fvec, fvS_fvec] at e3
    have sw : ∀ (k0 k1 k2 kd : KK) (ls st : List Value) (h : HP), kSw 1 [k0, k1, k2] kd ls (.int (nI 0) :: st) h = kd ls st h := fun _ _ _ _ _ _ _ => rfl
    refine ⟨g3, ?_, v1⟩
    simp (disch := first | assumption | omega) only [f_X0_answer, kb_X0_answer_0, KL, KB, KC, KI, KJ, KZ, bI_0, bI_n, nI00, nI10, ne_eq, Classical.not_not, not_true_eq_false, not_false_eq_true, if_true, if_false, ite_not, ite_self, Bool.false_eq_true, nIne1, O_co, sw, e3]
    rfl)
  have hf2 : ∀ x, x < 12 → g2 167 x = nI (setN (ftB co x) 12) := fun x hx => by rw [q1 167 (by omega) (by omega) (by omega)]; exact p4 x hx
  obtain ⟨g3, e3, r1, r2⟩ := c_settle (g := g2) (X := X) (n := n) (o := OO n) hf2 (nI 0) (nI 0) (VR n co fa (fun r => U (kr r))) (fun g' x y w1 hx hy hxy => by
    have hv := c_verdict0 g' X (OO n) x y 0 hx hy (by omega)
    have := q2 x y hx hy hxy
    rw [w1 166 (by omega) (by omega), this] at hv
    exact ⟨_, hv, bN2 _ _⟩)
  refine ⟨g3, ?_, fun a a1 a2 a3 a4 a5 a6 a7 => by rw [r1 a a6 a7, q1 a a1 a2 a4, p1 a a3 a5], ?_, fun i hi => ?_, r2⟩
  · simp (disch := first | assumption | omega) only [f_X0_askByRule, kb_X0_askByRule_0, KL, KB, KC, KI, KJ, KZ, bI_0, bI_n, nI00, nI10, ne_eq, Classical.not_not, not_true_eq_false, not_false_eq_true, if_true, if_false, ite_not, ite_self, Bool.false_eq_true, nIne1, O_co, e1, e2, e3]
  · rw [r1 164 (by omega) (by omega), q1 164 (by omega) (by omega) (by omega)]; exact p3
  · rw [r1 164 (by omega) (by omega), q1 164 (by omega) (by omega) (by omega)]; exact p2 i hi
-- the orders' objects
theorem OO_cases {n : Nat} (n3 : 3 ≤ n) (n6 : n ≤ 6) : OO n = 172 ∨ OO n = 175 ∨ OO n = 178 ∨ OO n = 181 := by unfold OO; omega
theorem OO_obj {n : Nat} (n3 : 3 ≤ n) (n6 : n ≤ 6) : SH (OO n) = (43, 3) ∧ SH (OO n + 1) = (1, 144) ∧ SH (OO n + 2) = (1, 144) ∧ ∀ m o, RR m o (OO n) 1 = some (OO n + 1) ∧ RR m o (OO n) 2 = some (OO n + 2) := by
  rcases OO_cases n3 n6 with h | h | h | h <;> rw [h] <;> exact ⟨rfl, rfl, rfl, fun m o => ⟨rfl, rfl⟩⟩
theorem OO_many {n : Nat} (n3 : 3 ≤ n) (n6 : n ≤ 6) {g : GG} (h : ORD g) : g (OO n) 0 = nI (ordMany n) := (h n n3 n6).1
theorem ordMany_le {n : Nat} (n6 : n ≤ 6) : ordMany n ≤ 24 := by unfold ordMany; split; omega; split; omega; omega
theorem ord_bits : (List.range 4).all (fun a => (List.range (ordMany (a + 3))).all (fun k => (List.range (a + 3)).all (fun r => decide (ordAhead (a + 3) k r < 4096) && (List.range 12).all (fun y => (ordAhead (a + 3) k r).testBit y == (decide (y / 2 < a + 3) && decide (ordRank (a + 3) k (y / 2) < ordRank (a + 3) k r)))))) = true := by decide +kernel
theorem ord_bit {n k r y : Nat} (n3 : 3 ≤ n) (n6 : n ≤ 6) (hk : k < ordMany n) (hr : r < n) (hy : y < 12) : ordAhead n k r < 4096 ∧ (ordAhead n k r).testBit y = (decide (y / 2 < n) && decide (ordRank n k (y / 2) < ordRank n k r)) := by
  have h := ord_bits
  rw [List.all_eq_true] at h
  have h1 := h (n - 3) (List.mem_range.mpr (by omega))
  rw [show n - 3 + 3 = n by omega, List.all_eq_true] at h1
  have h2 := h1 k (List.mem_range.mpr hk)
  rw [List.all_eq_true] at h2
  have h3 := h2 r (List.mem_range.mpr hr)
  rw [Bool.and_eq_true] at h3
  have h4 := h3.2
  rw [List.all_eq_true] at h4
  exact ⟨of_decide_eq_true h3.1, eq_of_beq (h4 y (List.mem_range.mpr hy))⟩
/-- for whom x waits in an order, as slots -/
def awS (n k : Nat) (co : Nat → List Goods) (V : Nat → Nat → Bool → Bool) (x : Nat) : Nat := setN (fun y => ftB co x y && V x y (decide (ordRank n k (y / 2) < ordRank n k (x / 2)))) 12
theorem c_awaited {X n : Nat} {co : Nat → List Goods} {V : Nat → Nat → Bool → Bool} {g : GG} (n3 : 3 ≤ n) (n6 : n ≤ 6) (hO : ORD g) (hS : STL co V g) (hth : ∀ x, x < 12 → thB co x = true → x / 2 < n) (x k : Nat) (hx : x < 12) (hk : k < ordMany n) : f_X0_awaited [.ref 164, .int (nI x), .int (nI k)] (hp g X (OO n)) = some (some (.int (nI (awS n k co V x))), hp g X (OO n)) := by
  obtain ⟨o1, o2, o3, o4⟩ := OO_obj n3 n6
  have gr2 : ∀ (k : KK) (ls st : List Value), kGetR 3 3 2 k ls (.ref (OO n) :: st) (hp g X (OO n)) = k ls (.ref (OO n + 2) :: st) (hp g X (OO n)) := fun k ls st => gr_at o1 (o4 _ _).2 k ls st
  have hk24 := ordMany_le (n := n) n6
  have hix : k * 6 + x / 2 < 144 := by omega
  have ia2 : ∀ (kk : KK) (ls st : List Value), kIal kk ls (.int (nI (k * 6 + x / 2)) :: .ref (OO n + 2) :: st) (hp g X (OO n)) = kk ls (.int (g (OO n + 2) (k * 6 + x / 2)) :: st) (hp g X (OO n)) := fun kk ls st => ial_at o3 (by decide) hix kk ls st
  obtain ⟨s0, s1, s2⟩ := hS x hx
  have hahead : g (OO n + 2) (k * 6 + x / 2) = nI (if x / 2 < n then ordAhead n k (x / 2) else 0) := by
    have := ((hO n n3 n6).2 k hk (x / 2) (by omega)).2
    rw [show OO n + 2 = 174 + 3 * (n - 3) by unfold OO; omega, show k * 6 + x / 2 = 6 * k + x / 2 by omega, this]
    split <;> rfl
  simp (disch := first | assumption | omega) only [f_X0_awaited, kb_X0_awaited_0, KL, KB, KC, KI, KJ, KZ, bI_0, bI_n, nI00, nI10, ne_eq, Classical.not_not, not_true_eq_false, not_false_eq_true, if_true, if_false, ite_not, ite_self, Bool.false_eq_true, nIne1, O_co, AR, gr2, nI_mul, nI_shr, nd2, nI_add, ia2, hahead, s1, s2, nI_and, nI_andn, nI_or]
  have hfin : ((setN (fun y => ftB co x y && V x y true) 12 &&& if x / 2 < n then ordAhead n k (x / 2) else 0) ||| (setN (fun y => ftB co x y && V x y false) 12 ^^^ (setN (fun y => ftB co x y && V x y false) 12 &&& if x / 2 < n then ordAhead n k (x / 2) else 0))) = awS n k co V x := by
    apply Nat.eq_of_testBit_eq
    intro y
    unfold awS
    rw [Nat.testBit_or, Nat.testBit_and, subN_bit, setN_bit, setN_bit, setN_bit]
    by_cases hy : y < 12
    · rw [decide_eq_true hy, Bool.true_and, Bool.true_and, Bool.true_and]
      cases hf : ftB co x y with
      | false => simp
      | true =>
        obtain ⟨t1, t2, -, -⟩ := ftB_th hf
        have hxn := hth x hx t1
        have hyn := hth y hy t2
        rw [if_pos hxn, (ord_bit n3 n6 hk hxn hy).2, decide_eq_true hyn]
        cases decide (ordRank n k (y / 2) < ordRank n k (x / 2)) <;> simp
    · rw [decide_eq_false hy]; simp
  rw [hfin]
/-- digits: which comer of each road, 0 none -/
def DG (n : Nat) (co : Nat → List Goods) (d : Nat → Nat) : Prop := (∀ r, d r ≤ (co r).length) ∧ ∀ r, n ≤ r → d r = 0
def slD (d : Nat → Nat) : Nat := setN (fun x => decide (d (x / 2) = x % 2 + 1)) 12
def sD (n : Nat) (d : Nat → Nat) : Nat := setN (fun r => decide (0 < d r)) n
def xD (d : Nat → Nat) (r : Nat) : Nat := 2 * r + (d r - 1)
/-- who waits for whom of a state in an order, by roads -/
def WD (n k : Nat) (co : Nat → List Goods) (V : Nat → Nat → Bool → Bool) (d : Nat → Nat) (r q : Nat) : Bool := wayB r (cG co (xD d r)).1 q (cG co (xD d q)).1 && V (xD d r) (xD d q) (decide (ordRank n k q < ordRank n k r))
def FD (co : Nat → List Goods) (d : Nat → Nat) (r q : Nat) : Bool := wayB r (cG co (xD d r)).1 q (cG co (xD d q)).1
theorem slD_bit (d : Nat → Nat) {x : Nat} (hx : x < 12) : (slD d).testBit x = decide (d (x / 2) = x % 2 + 1) := by unfold slD; rw [setN_bit, decide_eq_true hx, Bool.true_and]
theorem sD_bit {n : Nat} (d : Nat → Nat) {r : Nat} (hr : r < n) : (sD n d).testBit r = decide (0 < d r) := by unfold sD; rw [setN_bit, decide_eq_true hr, Bool.true_and]
theorem slD_x {d : Nat → Nat} {x : Nat} (h : d (x / 2) = x % 2 + 1) : xD d (x / 2) = x := by unfold xD; omega
theorem ft_of {n : Nat} {co : Nat → List Goods} {d : Nat → Nat} (hd : DG n co d) {x y : Nat} (hx : d (x / 2) = x % 2 + 1) (hy : d (y / 2) = y % 2 + 1) (hne : y / 2 ≠ x / 2) : ftB co x y = wayB (x / 2) (cG co x).1 (y / 2) (cG co y).1 := by
  unfold ftB thB
  have h1 := hd.1 (x / 2)
  have h2 := hd.1 (y / 2)
  rw [decide_eq_true (by omega), decide_eq_true (by omega), decide_eq_true hne]
  rfl
/-- the class's condition of going is the roads' -/
theorem going_iff {n k : Nat} {co : Nat → List Goods} {V : Nat → Nat → Bool → Bool} {d : Nat → Nat} (n6 : n ≤ 6) (hlen : ∀ r, (co r).length ≤ 2) (hd : DG n co d) {x : Nat} (hx : x < 12) (hxs : d (x / 2) = x % 2 + 1) : (awS n k co V x &&& slD d = 0) ↔ (goS n (sD n d) (WD n k co V d)).testBit (x / 2) = true := by
  have hxn : x / 2 < n := by
    apply Nat.lt_of_not_le
    intro q
    rw [hd.2 _ q] at hxs
    omega
  unfold goS
  rw [setN_bit, decide_eq_true hxn, Bool.true_and, mayP_iff (by omega), sD_bit d hxn]
  constructor
  · intro h
    refine ⟨decide_eq_true (by omega), fun q hq hne hqs => ?_⟩
    rw [sD_bit d hq] at hqs
    have hq0 := of_decide_eq_true hqs
    have hq2 := hd.1 q
    have hq3 := hlen q
    -- the other's slot
    have hy12 : xD d q < 12 := by unfold xD; omega
    have hyq : xD d q / 2 = q := by unfold xD; omega
    have hys : d (xD d q / 2) = xD d q % 2 + 1 := by rw [hyq]; unfold xD; omega
    have hb : (awS n k co V x &&& slD d).testBit (xD d q) = false := by rw [h, Nat.zero_testBit]
    unfold awS at hb
    rw [Nat.testBit_and, slD_bit d hy12, decide_eq_true hys, Bool.and_true, setN_bit, decide_eq_true hy12, Bool.true_and, ft_of hd hxs hys (by rw [hyq]; exact hne), hyq] at hb
    unfold WD
    rw [slD_x hxs]
    exact hb
  · rintro ⟨-, h⟩
    apply Nat.eq_of_testBit_eq
    intro y
    rw [Nat.zero_testBit]
    unfold awS
    by_cases hy : y < 12
    · rw [Nat.testBit_and, setN_bit, decide_eq_true hy, Bool.true_and, slD_bit d hy]
      by_cases hys : d (y / 2) = y % 2 + 1
      · rw [decide_eq_true hys, Bool.and_true]
        by_cases hne : y / 2 = x / 2
        · unfold ftB
          rw [decide_eq_false (fun e => e hne), Bool.and_false, Bool.false_and, Bool.false_and]
        · rw [ft_of hd hxs hys hne]
          have hyn : y / 2 < n := by
            apply Nat.lt_of_not_le
            intro q
            rw [hd.2 _ q] at hys
            omega
          have := h (y / 2) hyn hne (by rw [sD_bit d hyn]; exact decide_eq_true (by omega))
          unfold WD at this
          rw [slD_x hxs, slD_x hys] at this
          exact this
      · rw [decide_eq_false hys, Bool.and_false]
    · rw [Nat.testBit_and, setN_bit, decide_eq_false hy]; rfl
/-- those that go, as slots -/
def gS (d : Nat → Nat) (G : Nat) : Nat := setN (fun x => decide (d (x / 2) = x % 2 + 1) && G.testBit (x / 2)) 12
theorem shr_zero {s j : Nat} (h : s >>> j = 0) : ∀ y, j ≤ y → s.testBit y = false := fun y hy => by
  have : (s >>> j).testBit (y - j) = false := by rw [h, Nat.zero_testBit]
  rw [Nat.testBit_shiftRight, show j + (y - j) = y by omega] at this
  exact this
theorem c_going {X n k : Nat} {co : Nat → List Goods} {V : Nat → Nat → Bool → Bool} {d : Nat → Nat} {g : GG} (n3 : 3 ≤ n) (n6 : n ≤ 6) (hO : ORD g) (hS : STL co V g) (hth : ∀ x, x < 12 → thB co x = true → x / 2 < n) (hlen : ∀ r, (co r).length ≤ 2) (hd : DG n co d) (hk : k < ordMany n) : f_X0_going [.ref 164, .int (nI (slD d)), .int (nI k)] (hp g X (OO n)) = some (some (.int (nI (gS d (goS n (sD n d) (WD n k co V d))))), hp g X (OO n)) := by
  have hs12 : slD d < 4096 := setN_lt12 _
  generalize hG : goS n (sD n d) (WD n k co V d) = G
  simp (disch := first | assumption | omega) only [f_X0_going, kb_X0_going_0, KL, KB, KC, KI, KJ, KZ, bI_0, bI_n, nI00, nI10, ne_eq, Classical.not_not, not_true_eq_false, not_false_eq_true, if_true, if_false, ite_not, ite_self, Bool.false_eq_true, nIne1]
  unfold kl_X0_going_5
  refine kFor 12 (by unfold FU; omega) (fun i ls h' => ls = [.ref 164, .int (nI (slD d)), .int (nI k), .int (nI (setN (fun x => decide (d (x / 2) = x % 2 + 1) && G.testBit (x / 2)) i)), .int (nI i)] ∧ h' = hp g X (OO n)) (fun r => r = some (some (.int (nI (gS d G))), hp g X (OO n))) ?_ ?_ 0 _ _ (by omega) ⟨rfl, rfl⟩
  · rintro s0 ls h' ⟨rfl, rfl⟩
    have hin : (12 ≤ 12) = True := eq_true (by omega)
    simp (disch := first | assumption | omega) only [kb_X0_going_53, KL, KB, KC, KI, KJ, KZ, bI_0, bI_n, nI00, nI10, ne_eq, Classical.not_not, not_true_eq_false, not_false_eq_true, if_true, if_false, ite_not, ite_self, Bool.false_eq_true, nIne1, kMask, mask, nIle, hin]
    rfl
  · rintro s0 i hi ih ls h' ⟨rfl, rfl⟩
    have hin : (12 ≤ i) = False := eq_false (by omega)
    by_cases hz0 : slD d >>> i = 0
    · have hz : (nI (slD d >>> i) = 0) = True := by rw [hz0]; exact eq_true rfl
      have e1 : setN (fun x => decide (d (x / 2) = x % 2 + 1) && G.testBit (x / 2)) i = gS d G := setN_ext (by omega) (fun y h1 h2 => by
        have := shr_zero hz0 y h1
        rw [slD_bit d h2] at this
        rw [this, Bool.false_and])
      simp (disch := first | assumption | omega) only [kb_X0_going_53, KL, KB, KC, KI, KJ, KZ, bI_0, bI_n, nI00, nI10, ne_eq, Classical.not_not, not_true_eq_false, not_false_eq_true, if_true, if_false, ite_not, ite_self, Bool.false_eq_true, nIne1, kMask, mask, nIle, hin, nI_shr, hz]
      rw [e1]
    · have hlt : slD d >>> i < 2147483648 := by
        have : slD d >>> i ≤ slD d := by rw [Nat.shiftRight_eq_div_pow]; exact Nat.div_le_self _ _
        omega
      have hz : (nI (slD d >>> i) = 0) = False := by rw [nIk0 hlt]; exact eq_false hz0
      have hb1 : (nI ((slD d >>> i) &&& 1) = 0) = (decide (d (i / 2) = i % 2 + 1) = false) := by
        rw [bit0, Nat.testBit_shiftRight, Nat.add_zero, slD_bit d hi]
      by_cases hb : d (i / 2) = i % 2 + 1
      · have hx' : (decide (d (i / 2) = i % 2 + 1) = false) = False := eq_false (by rw [decide_eq_true hb]; decide)
        have ea := c_awaited (X := X) n3 n6 hO hS hth i k hi hk
        have hgo := going_iff (k := k) (V := V) n6 hlen hd hi hb
        rw [hG] at hgo
        have hawl : awS n k co V i &&& slD d < 4096 := Nat.lt_of_le_of_lt Nat.and_le_right hs12
        have haz : (nI (awS n k co V i &&& slD d) = 0) = (awS n k co V i &&& slD d = 0) := nIk0 (by omega)
        have hSs : setN (fun x => decide (d (x / 2) = x % 2 + 1) && G.testBit (x / 2)) (i + 1) = setN (fun x => decide (d (x / 2) = x % 2 + 1) && G.testBit (x / 2)) i ||| (if G.testBit (i / 2) = true then 1 <<< i else 0) := by
          show _ ||| (if (decide (d (i / 2) = i % 2 + 1) && G.testBit (i / 2)) = true then 1 <<< i else 0) = _
          rw [decide_eq_true hb, Bool.true_and]
        by_cases hg : G.testBit (i / 2) = true
        · have hz2 : (awS n k co V i &&& slD d = 0) = True := eq_true (hgo.mpr hg)
          rw [if_pos hg] at hSs
          simp (disch := first | assumption | omega) only [kb_X0_going_47, KL, KB, KC, KI, KJ, KZ, bI_0, bI_n, nI00, nI10, ne_eq, Classical.not_not, not_true_eq_false, not_false_eq_true, if_true, if_false, ite_not, ite_self, Bool.false_eq_true, nIne1, kMask, mask, nIle, hin, nI_shr, hz, nI_and, hb1, hx', O_co, ea, haz, hz2, nI_shl, nI_or, nI_add]
          exact ih _ _ ⟨by rw [hSs], rfl⟩
        · have hz2 : (awS n k co V i &&& slD d = 0) = False := eq_false (fun q => hg (hgo.mp q))
          rw [if_neg hg, Nat.or_zero] at hSs
          simp (disch := first | assumption | omega) only [kb_X0_going_47, KL, KB, KC, KI, KJ, KZ, bI_0, bI_n, nI00, nI10, ne_eq, Classical.not_not, not_true_eq_false, not_false_eq_true, if_true, if_false, ite_not, ite_self, Bool.false_eq_true, nIne1, kMask, mask, nIle, hin, nI_shr, hz, nI_and, hb1, hx', O_co, ea, haz, hz2, nI_add]
          exact ih _ _ ⟨by rw [hSs], rfl⟩
      · have hx' : (decide (d (i / 2) = i % 2 + 1) = false) = True := eq_true (decide_eq_false hb)
        have hSs : setN (fun x => decide (d (x / 2) = x % 2 + 1) && G.testBit (x / 2)) (i + 1) = setN (fun x => decide (d (x / 2) = x % 2 + 1) && G.testBit (x / 2)) i := by
          show _ ||| (if (decide (d (i / 2) = i % 2 + 1) && G.testBit (i / 2)) = true then 1 <<< i else 0) = _
          rw [decide_eq_false hb, Bool.false_and, if_neg (by decide), Nat.or_zero]
        simp (disch := first | assumption | omega) only [kb_X0_going_47, KL, KB, KC, KI, KJ, KZ, bI_0, bI_n, nI00, nI10, ne_eq, Classical.not_not, not_true_eq_false, not_false_eq_true, if_true, if_false, ite_not, ite_self, Bool.false_eq_true, nIne1, kMask, mask, nIle, hin, nI_shr, hz, nI_and, hb1, hx', nI_add]
        exact ih _ _ ⟨by rw [hSs], rfl⟩
