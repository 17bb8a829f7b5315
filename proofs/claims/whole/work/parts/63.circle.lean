-- ===== circle =====
def optJ (p : Nat → Bool) : Nat → Nat → Option Nat
  | 0, _ => none
  | k + 1, i => if p i = true then some i else optJ p k (i + 1)
def jI : Option Nat → Int32
  | none => -1
  | some y => nI y
theorem firstJ_opt (p : Nat → Bool) : ∀ k i, firstJ p k i = jI (optJ p k i) := by
  intro k
  induction k with
  | zero => intro i; rfl
  | succ k ih =>
    intro i
    show (if p i = true then nI i else firstJ p k (i + 1)) = jI (if p i = true then some i else optJ p k (i + 1))
    by_cases h : p i = true
    · rw [if_pos h, if_pos h]; rfl
    · rw [if_neg h, if_neg h, ih]
theorem optJ_some {p : Nat → Bool} : ∀ k i y, optJ p k i = some y → i ≤ y ∧ y < i + k ∧ p y = true ∧ ∀ u, i ≤ u → u < y → p u = false := by
  intro k
  induction k with
  | zero => intro i y h; cases h
  | succ k ih =>
    intro i y h
    have h' : (if p i = true then some i else optJ p k (i + 1)) = some y := h
    by_cases q : p i = true
    · rw [if_pos q] at h'
      cases h'
      exact ⟨Nat.le_refl _, by omega, q, fun u h1 h2 => by omega⟩
    · rw [if_neg q] at h'
      obtain ⟨a, b, c, d⟩ := ih (i + 1) y h'
      refine ⟨by omega, by omega, c, fun u h1 h2 => ?_⟩
      by_cases e : u = i
      · subst e; exact Bool.eq_false_iff.mpr q
      · exact d u (by omega) h2
theorem optJ_none {p : Nat → Bool} : ∀ k i, optJ p k i = none ↔ ∀ u, i ≤ u → u < i + k → p u = false := by
  intro k
  induction k with
  | zero => intro i; exact ⟨fun _ u h1 h2 => by omega, fun _ => rfl⟩
  | succ k ih =>
    intro i
    show (if p i = true then some i else optJ p k (i + 1)) = none ↔ _
    by_cases q : p i = true
    · rw [if_pos q]
      constructor
      · intro h; cases h
      · intro h
        have := h i (by omega) (by omega)
        rw [q] at this; cases this
    · rw [if_neg q, ih (i + 1)]
      constructor
      · intro h u h1 h2
        by_cases e : u = i
        · subst e; exact Bool.eq_false_iff.mpr q
        · exact h u (by omega) (by omega)
      · intro h u h1 h2
        exact h u (by omega) (by omega)
theorem optJ_ext {p : Nat → Bool} {n N : Nat} (hn : n ≤ N) (h : ∀ i, n ≤ i → p i = false) : optJ p N 0 = optJ p n 0 := by
  cases e : optJ p n 0 with
  | none =>
    rw [optJ_none] at e ⊢
    intro u h1 h2
    by_cases q : u < n
    · exact e u h1 (by omega)
    · exact h u (by omega)
  | some y =>
    obtain ⟨a, b, c, d⟩ := optJ_some _ _ _ e
    cases e2 : optJ p N 0 with
    | none =>
      rw [optJ_none] at e2
      have := e2 y a (by omega)
      rw [c] at this; cases this
    | some z =>
      obtain ⟨a', b', c', d'⟩ := optJ_some _ _ _ e2
      congr 1
      rcases Nat.lt_trichotomy y z with h1 | h1 | h1
      · have := d' y a h1
        rw [c] at this; cases this
      · exact h1.symm
      · have := d z a' h1
        rw [c'] at this; cases this
/-- the walk: where it closes, if it does, and what it has passed -/
def circ (nx : Nat → Option Nat) : Nat → List Nat → Option Nat → Option Nat × List Nat
  | 0, p, _ => (none, p)
  | _ + 1, p, none => (none, p)
  | k + 1, p, some x => if x ∈ p then (some (p.idxOf x), p) else circ nx k (p ++ [x]) (nx x)
theorem nodup_len {p : List Nat} {n : Nat} (h : p.Nodup) (hl : ∀ y ∈ p, y < n) : p.length ≤ n := by
  induction n generalizing p with
  | zero =>
    cases p with
    | nil => exact Nat.le_refl _
    | cons a t => have := hl a List.mem_cons_self; omega
  | succ n ih =>
    by_cases hn : n ∈ p
    · have h1 := ih (p := p.erase n) (h.erase n) (fun y hy => by
        rw [h.mem_erase_iff] at hy
        have := hl y hy.2
        have := hy.1
        omega)
      rw [List.length_erase_of_mem hn] at h1
      omega
    · have h1 := ih (p := p) h (fun y hy => by
        have := hl y hy
        have : y ≠ n := fun e => hn (by rw [← e]; exact hy)
        omega)
      omega
theorem nodup_full {p : List Nat} {n x : Nat} (h : p.Nodup) (hl : ∀ y ∈ p, y < n) (hn : n ≤ p.length) (hx : x < n) : x ∈ p := by
  apply Classical.byContradiction
  intro hc
  have h1 : (x :: p).Nodup := List.nodup_cons.mpr ⟨hc, h⟩
  have := nodup_len (n := n) h1 (fun y hy => by
    rcases List.mem_cons.mp hy with rfl | hy
    · exact hx
    · exact hl y hy)
  rw [List.length_cons] at this
  omega
theorem nodup_snoc {p : List Nat} {x : Nat} (h : p.Nodup) (hx : x ∉ p) : (p ++ [x]).Nodup := by
  rw [List.nodup_append]
  refine ⟨h, List.nodup_cons.mpr ⟨List.not_mem_nil, List.nodup_nil⟩, fun a ha b hb => ?_⟩
  rw [List.mem_singleton] at hb
  subst hb
  intro e
  subst e
  exact hx ha
theorem idx_unique {p : List Nat} (h : p.Nodup) {i x : Nat} (hi : p[i]? = some x) : p.idxOf x = i := by
  obtain ⟨hl, e⟩ := List.getElem?_eq_some_iff.mp hi
  rw [← e]
  exact h.idxOf_getElem i hl
def nxO (n s : Nat) (W : Nat → Nat → Bool) (x : Nat) : Option Nat := optJ (awP s W x) n 0
theorem nxO_some {n s : Nat} {W : Nat → Nat → Bool} {x y : Nat} (h : nxO n s W x = some y) : y < n ∧ s.testBit y = true := by
  obtain ⟨-, a, b, -⟩ := optJ_some _ _ _ h
  unfold awP at b
  rw [Bool.and_eq_true, Bool.and_eq_true] at b
  exact ⟨by omega, b.1.2⟩
/-- what the class holds of the walk when it is done -/
def CIR (R : Option Nat × List Nat) (g : GG) : Prop := match R.1 with
  | none => g 80 4 = nI 0
  | some b => g 80 3 = nI b ∧ g 80 4 = nI (R.2.length - b) ∧ b < R.2.length ∧ R.2.length ≤ 6 ∧ ∀ (t y : Nat), R.2[t]? = some y → g 81 t = nI y ∧ y < 6
theorem jI_eq {x : Option Nat} {y : Nat} (hx : ∀ z, x = some z → z < 6) (hy : y < 6) : (nI y = jI x) = (x = some y) := by
  cases x with
  | none =>
    show (nI y = -1) = _
    rw [nIne1 (by omega)]
    simp
  | some z =>
    have := hx z rfl
    show (nI y = nI z) = _
    rw [nIeq (by omega) (by omega), Option.some.injEq]
    exact propext ⟨fun h => h.symm, fun h => h.symm⟩
theorem c_wc100 (g : GG) (m o : Nat) (p : List Nat) (x : Option Nat) (hp' : p.Nodup) (hl : p.length ≤ 6) (hy : ∀ y ∈ p, y < 6) (hx : ∀ y, x = some y → y ∈ p) (h85 : ∀ (t y : Nat), p[t]? = some y → g 81 t = nI y) (h4 : g 80 4 = nI 0) (v1 v2 v3 v5 : Value) (u : List Value) : ∃ g', kb_X8_walkCircle_97 ([.ref 80, v1, v2, v3, .int (jI x), v5, .int (nI p.length)] ++ u) [] (hp g m o) = some (none, hp g' m o) ∧ (∀ a, a ≠ 80 → g' a = g a) ∧ CIR (x.map p.idxOf, p) g' := by
  have hx6 : ∀ z, x = some z → z < 6 := fun z hz => hy z (hx z hz)
  have key : ∀ u, ∃ g', kl_X8_walkCircle_100 ([.ref 80, v1, v2, v3, .int (jI x), v5, .int (nI p.length), .int (nI 0)] ++ u) [] (hp g m o) = some (none, hp g' m o) ∧ (∀ a, a ≠ 80 → g' a = g a) ∧ CIR (x.map p.idxOf, p) g' := by
    intro u
    unfold kl_X8_walkCircle_100
    refine kFor p.length (by unfold FU; omega) (fun i ls h => ∃ (g' : GG) (v1 v2 v3 v5 : Value) (u : List Value), ls = [.ref 80, v1, v2, v3, .int (jI x), v5, .int (nI p.length), .int (nI i)] ++ u ∧ h = hp g' m o ∧ (∀ a, a ≠ 80 → g' a = g a) ∧ (match x with
      | none => g' 80 4 = nI 0
      | some y => if p.idxOf y < i then g' 80 3 = nI (p.idxOf y) ∧ g' 80 4 = nI (p.length - p.idxOf y) else True)) (fun r => ∃ g', r = some (none, hp g' m o) ∧ (∀ a, a ≠ 80 → g' a = g a) ∧ CIR (x.map p.idxOf, p) g') ?_ ?_ 0 _ _ (by omega) ⟨g, v1, v2, v3, v5, u, rfl, rfl, fun _ _ => rfl, ?_⟩
    · rintro s0 ls h ⟨g', v1, v2, v3, v5, u, rfl, rfl, h1, h2⟩
      have hin : (p.length ≤ p.length) = True := eq_true (by omega)
      simp (disch := first | assumption | omega) only [kb_X8_walkCircle_134, KL, KB, KC, KI, KJ, KZ, bI_0, bI_n, nI00, nI10, ne_eq, Classical.not_not, not_true_eq_false, not_false_eq_true, if_true, if_false, ite_not, ite_self, Bool.false_eq_true, nIne1, List.cons_append, List.nil_append, kMask, mask, nIle, hin]
      refine ⟨g', rfl, h1, ?_⟩
      cases x with
      | none => exact h2
      | some y =>
        have hlt := List.idxOf_lt_length_of_mem (hx y rfl)
        simp only [hlt, if_true] at h2
        exact ⟨h2.1, h2.2, hlt, hl, fun t z hz => ⟨by rw [h1 81 (by omega)]; exact h85 t z hz, hy z (List.mem_of_getElem? hz)⟩⟩
    · rintro s0 i hi ih ls h ⟨g', v1, v2, v3, v5, u, rfl, rfl, h1, h2⟩
      have hin : (p.length ≤ i) = False := eq_false (by omega)
      obtain ⟨z, hz⟩ : ∃ z, p[i]? = some z := ⟨p[i], List.getElem?_eq_getElem hi⟩
      have hz6 := hy z (List.mem_of_getElem? hz)
      have ez : g' 81 i = nI z := by rw [h1 81 (by omega)]; exact h85 i z hz
      have hidx := idx_unique hp' hz
      have hje := jI_eq hx6 hz6
      have i6 : i < 6 := by omega
      by_cases q : x = some z
      · have hq : (x = some z) = True := eq_true q
        simp (disch := first | assumption | omega) only [kb_X8_walkCircle_134, KL, KB, KC, KI, KJ, KZ, bI_0, bI_n, nI00, nI10, ne_eq, Classical.not_not, not_true_eq_false, not_false_eq_true, if_true, if_false, ite_not, ite_self, Bool.false_eq_true, nIne1, List.cons_append, List.nil_append, kMask, mask, nIle, hin, O_st, AR, ez, hje, hq, nI_sub, nI_add]
        refine ih _ _ ⟨_, _, _, _, _, _, rfl, rfl, fun a ha => by rw [uN ha, uN ha]; exact h1 a ha, ?_⟩
        subst q
        simp only [hidx]
        rw [if_pos (by omega)]
        exact ⟨by rw [uO (by omega), uS], uS⟩
      · have hq : (x = some z) = False := eq_false q
        simp (disch := first | assumption | omega) only [kb_X8_walkCircle_134, KL, KB, KC, KI, KJ, KZ, bI_0, bI_n, nI00, nI10, ne_eq, Classical.not_not, not_true_eq_false, not_false_eq_true, if_true, if_false, ite_not, ite_self, Bool.false_eq_true, nIne1, List.cons_append, List.nil_append, kMask, mask, nIle, hin, O_st, AR, ez, hje, hq, nI_add]
        refine ih _ _ ⟨_, _, _, _, _, _, rfl, rfl, h1, ?_⟩
        cases x with
        | none => exact h2
        | some y =>
          simp only [] at h2 ⊢
          have hne : p.idxOf y ≠ i := by
            intro e
            have hlt := List.idxOf_lt_length_of_mem (hx y rfl)
            have := List.getElem_idxOf hlt
            rw [List.getElem?_eq_getElem hi] at hz
            simp only [e] at this
            rw [this] at hz
            exact q hz
          by_cases c : p.idxOf y < i
          · rw [if_pos c] at h2
            rw [if_pos (by omega)]
            exact h2
          · rw [if_neg (by omega)]
            trivial
    · cases x with
      | none => exact h4
      | some y => simp only []; rw [if_neg (by omega)]; trivial
  obtain ⟨g', e, p1, p2⟩ := key u.tail
  refine ⟨g', ?_, p1, p2⟩
  rw [← e]
  cases u with
  | nil => simp (disch := first | assumption | omega) only [kb_X8_walkCircle_97, KL, KB, KC, KI, KJ, KZ, bI_0, bI_n, nI00, nI10, ne_eq, Classical.not_not, not_true_eq_false, not_false_eq_true, if_true, if_false, ite_not, ite_self, Bool.false_eq_true, nIne1, List.cons_append, List.nil_append, List.tail_nil]
  | cons u0 u => simp (disch := first | assumption | omega) only [kb_X8_walkCircle_97, KL, KB, KC, KI, KJ, KZ, bI_0, bI_n, nI00, nI10, ne_eq, Classical.not_not, not_true_eq_false, not_false_eq_true, if_true, if_false, ite_not, ite_self, Bool.false_eq_true, nIne1, List.cons_append, List.nil_append, List.tail_cons]
theorem c_circle {n s : Nat} {ct : Nat → ACart} {sz sl sg : FN} {kx : Nat → Nat} {rx : Nat → ARule} {X : Nat} {g : GG} {m o : Nat} (h : CSn n s ct sz sl sg kx rx X g) (hX : isX X) (hX1 : X + 9 < 77) (hX2 : 16 < X) (n3 : 3 ≤ n) (n6 : n ≤ 6) (hs : s < 2 ^ n) : ∃ g', f_X8_walkCircle [.ref 80, .ref X] (hp g m o) = some (none, hp g' m o) ∧ (∀ a, (a < 78 ∨ 81 < a) → g' a = g a) ∧ CIR (circ (nxO n s (wV n ct sz sl sg rx 0)) 7 [] (optJ (fun r => (s ^^^ (s &&& goS n s (wV n ct sz sl sg rx 0))).testBit r) 6 0)) g' := by
  have h0 : CSn n s ct sz sl sg kx rx X (upd2 g 80 4 (nI 0)) := h.low hX1 (fun a ha => by rw [uN (by omega)])
  have hset := x_cartSet (m := m) (o := o) hX (h0.cl n6) (by omega) n6 hs
  have s64 := lt64 hs n6
  obtain ⟨g1, e1, p1⟩ := c_goers hX (fun g' hg => (h0.sc hX1 hg).1) n6 s64 (h0.cw (m := m) (o := o) (mean := 0) hX hX1 hX2 n3 n6 (by omega)) _ SC.rfl'
  have G64 : goS n s (wV n ct sz sl sg rx 0) < 64 := goS_lt64 n6
  have hbase : ∀ a, (a < 78 ∨ 81 < a) → g1 a = g a := fun a ha => by rw [p1 a (by omega) (by omega), uN (by omega)]
  have h84 : g1 80 4 = nI 0 := by rw [p1 80 (by omega) (by omega), uS]
  generalize hW : wV n ct sz sl sg rx 0 = W at *
  generalize hG : goS n s W = G at *
  have U64 : s ^^^ (s &&& G) < 64 := lt64 (subN_lt hs) n6
  have e5 := fun h => c_least6 (s ^^^ (s &&& G)) U64 h
  by_cases hu : s ^^^ (s &&& G) = 0
  · have hz : (nI (s ^^^ (s &&& G)) = 0) = True := by rw [hu]; exact eq_true rfl
    refine ⟨g1, ?_, hbase, ?_⟩
    · simp (disch := first | assumption | omega) only [f_X8_walkCircle, kb_X8_walkCircle_0, KL, KB, KC, KI, KJ, KZ, bI_0, bI_n, nI00, nI10, ne_eq, Classical.not_not, not_true_eq_false, not_false_eq_true, if_true, if_false, ite_not, ite_self, Bool.false_eq_true, nIne1, O_st, XO, hset, e1, nI_andn, hz]
    · have : optJ (fun r => (s ^^^ (s &&& G)).testBit r) 6 0 = none := by
        rw [optJ_none]
        intro u _ _
        rw [hu, Nat.zero_testBit]
      rw [this]
      exact h84
  · have hz : (nI (s ^^^ (s &&& G)) = 0) = False := by rw [nIk0 (by omega)]; exact eq_false hu
    rw [firstJ_opt] at e5
    generalize hx0 : optJ (fun r => (s ^^^ (s &&& G)).testBit r) 6 0 = x0 at *
    have hx0' : ∀ y, x0 = some y → y < n ∧ s.testBit y = true := fun y hy => by
      rw [hy] at hx0
      obtain ⟨-, a, b, -⟩ := optJ_some _ _ _ hx0
      rw [subN_bit, Bool.and_eq_true] at b
      refine ⟨?_, b.1⟩
      apply Nat.lt_of_not_le
      intro q
      rw [bit_ge hs y q] at b
      cases b.1
    simp (disch := first | assumption | omega) only [f_X8_walkCircle, kb_X8_walkCircle_0, KL, KB, KC, KI, KJ, KZ, bI_0, bI_n, nI00, nI10, ne_eq, Classical.not_not, not_true_eq_false, not_false_eq_true, if_true, if_false, ite_not, ite_self, Bool.false_eq_true, nIne1, O_st, XO, hset, e1, nI_andn, hz, e5]
    unfold kl_X8_walkCircle_39
    refine kFor 6 (by unfold FU; omega) (fun i ls h => ∃ (g' : GG) (p : List Nat) (x : Option Nat) (S : Nat) (v3 : Value) (u : List Value), ls = [.ref 80, .ref X, .int (nI s), v3, .int (jI x), .int (nI S), .int (nI i)] ++ u ∧ h = hp g' m o ∧ (∀ a, (a < 78 ∨ 81 < a) → g' a = g a) ∧ g' 80 4 = nI 0 ∧ p.length = i ∧ p.Nodup ∧ (∀ y ∈ p, y < n) ∧ S < 64 ∧ (∀ y, S.testBit y = decide (y ∈ p)) ∧ (∀ y, x = some y → y < n ∧ s.testBit y = true) ∧ (∀ (t y : Nat), p[t]? = some y → g' 81 t = nI y) ∧ circ (nxO n s W) 7 [] x0 = circ (nxO n s W) (7 - i) p x) (fun r => ∃ g', r = some (none, hp g' m o) ∧ (∀ a, (a < 78 ∨ 81 < a) → g' a = g a) ∧ CIR (circ (nxO n s W) 7 [] x0) g') ?_ ?_ 0 _ _ (by omega) ⟨g1, [], x0, 0, _, [], rfl, rfl, hbase, h84, rfl, List.nodup_nil, fun y hy => (by cases hy), by omega, fun y => by rw [Nat.zero_testBit]; rfl, hx0', fun t y h => (by cases h), rfl⟩
    · rintro s0 ls h' ⟨g', p, x, S, v3, u, rfl, rfl, h1, h2, h3, h4, h5, hS, h6, h7, h8, h9⟩
      have hin : (6 ≤ 6) = True := eq_true (by omega)
      have hmem : ∀ y, x = some y → y ∈ p := fun y hy => nodup_full h4 h5 (by omega) (h7 y hy).1
      obtain ⟨g2, e2, q1, q2⟩ := c_wc100 g' m o p x h4 (by omega) (fun y hy => by have := h5 y hy; omega) hmem h8 h2 (.ref X) (.int (nI s)) (.long 0) (.int (nI S)) []
      rw [h3, List.append_nil] at e2
      simp (disch := first | assumption | omega) only [KL, KB, KC, KI, KJ, KZ, bI_0, bI_n, nI00, nI10, ne_eq, Classical.not_not, not_true_eq_false, not_false_eq_true, if_true, if_false, ite_not, ite_self, Bool.false_eq_true, nIne1, List.cons_append, List.nil_append, kMask, mask, nIle, hin]
      refine ⟨g2, e2, fun a ha => by rw [q1 a (by omega)]; exact h1 a ha, ?_⟩
      rw [h9]
      cases x with
      | none => exact q2
      | some y =>
        show CIR (if y ∈ p then (some (p.idxOf y), p) else _) g2
        rw [if_pos (hmem y rfl)]
        exact q2
    · rintro s0 i hi ih ls h' ⟨g', p, x, S, v3, u, rfl, rfl, h1, h2, h3, h4, h5, hS, h6, h7, h8, h9⟩
      have hin : (6 ≤ i) = False := eq_false (by omega)
      rw [show 7 - i = (7 - (i + 1)) + 1 by omega] at h9
      cases x with
      | none =>
        obtain ⟨g2, e2, q1, q2⟩ := c_wc100 g' m o p none h4 (by omega) (fun y hy => by have := h5 y hy; omega) (fun y hy => by cases hy) h8 h2 (.ref X) (.int (nI s)) (.long 0) (.int (nI S)) []
        have hj : jI none = -1 := rfl
        rw [h3, List.append_nil, hj] at e2
        simp (disch := first | assumption | omega) only [KL, KB, KC, KI, KJ, KZ, bI_0, bI_n, nI00, nI10, ne_eq, Classical.not_not, not_true_eq_false, not_false_eq_true, if_true, if_false, ite_not, ite_self, Bool.false_eq_true, nIne1, List.cons_append, List.nil_append, kMask, mask, nIle, hin, hj, eq_self]
        refine ⟨g2, e2, fun a ha => by rw [q1 a (by omega)]; exact h1 a ha, ?_⟩
        rw [h9]
        exact q2
      | some y =>
        obtain ⟨y1, y2⟩ := h7 y rfl
        have hj : jI (some y) = nI y := rfl
        by_cases hm : y ∈ p
        · obtain ⟨g2, e2, q1, q2⟩ := c_wc100 g' m o p (some y) h4 (by omega) (fun y hy => by have := h5 y hy; omega) (fun z hz => by cases hz; exact hm) h8 h2 (.ref X) (.int (nI s)) (.long 0) (.int (nI S)) []
          rw [h3, List.append_nil, hj] at e2
          have hb : ((S >>> y).testBit 0 = false) = False := by rw [Nat.testBit_shiftRight, Nat.add_zero, h6, decide_eq_true hm]; simp
          simp (disch := first | assumption | omega) only [KL, KB, KC, KI, KJ, KZ, bI_0, bI_n, nI00, nI10, ne_eq, Classical.not_not, not_true_eq_false, not_false_eq_true, if_true, if_false, ite_not, ite_self, Bool.false_eq_true, nIne1, List.cons_append, List.nil_append, kMask, mask, nIle, hin, hj, nIne1, nI_shr, nI_and, bit0, hb]
          refine ⟨g2, e2, fun a ha => by rw [q1 a (by omega)]; exact h1 a ha, ?_⟩
          rw [h9]
          show CIR (if y ∈ p then (some (p.idxOf y), p) else _) g2
          rw [if_pos hm]
          exact q2
        · have hb : ((S >>> y).testBit 0 = false) = True := by rw [Nat.testBit_shiftRight, Nat.add_zero, h6, decide_eq_false hm]; simp
          have hC : CSn n s ct sz sl sg kx rx X (upd2 g' 81 i (nI y)) := h.low hX1 (fun a ha => by rw [uN (by omega)]; exact h1 a (by omega))
          have hCW := hC.cw (m := m) (o := o) (mean := 0) hX hX1 hX2 n3 n6 (by omega)
          rw [hW] at hCW
          obtain ⟨g2, e2, q2⟩ := c_least hX (fun g' hg => (hC.sc hX1 hg).1) n6 s64 hCW y y1 y2 _ SC.rfl'
          rw [firstJ_opt] at e2
          have i6 : i < 6 := hi
          simp (disch := first | assumption | omega) only [KL, KB, KC, KI, KJ, KZ, bI_0, bI_n, nI00, nI10, ne_eq, Classical.not_not, not_true_eq_false, not_false_eq_true, if_true, if_false, ite_not, ite_self, Bool.false_eq_true, nIne1, List.cons_append, List.nil_append, kMask, mask, nIle, hin, hj, nIne1, nI_shr, nI_and, bit0, hb, O_st, AR, nI_add, nI_shl, nI_or, e2]
          refine ih _ _ ⟨g2, p ++ [y], nxO n s W y, S ||| 1 <<< y, _, _, rfl, rfl, fun a ha => by rw [q2 a (by omega) (by omega), uN (by omega)]; exact h1 a ha, by rw [q2 80 (by omega) (by omega), uN (by omega)]; exact h2, by rw [List.length_append, h3]; rfl, nodup_snoc h4 hm, fun z hz => ?_, ?_, fun z => ?_, fun z hz => nxO_some hz, fun t z hz => ?_, ?_⟩
          · rcases List.mem_append.mp hz with hz | hz
            · exact h5 z hz
            · rw [List.mem_singleton] at hz; omega
          · apply Nat.or_lt_two_pow (n := 6) hS
            rw [Nat.one_shiftLeft]
            exact Nat.pow_lt_pow_right (by omega) (by omega)
          · rw [Nat.testBit_or, h6, Nat.one_shiftLeft, Nat.testBit_two_pow]
            by_cases e : z ∈ p
            · rw [decide_eq_true e, decide_eq_true (List.mem_append_left _ e), Bool.true_or]
            · by_cases e2 : y = z
              · subst e2
                rw [decide_eq_true (List.mem_append_right _ (List.mem_singleton.mpr rfl))]
                simp
              · rw [decide_eq_false e, decide_eq_false e2, decide_eq_false (fun q => by
                  rcases List.mem_append.mp q with q | q
                  · exact e q
                  · exact e2 (List.mem_singleton.mp q).symm)]
                rfl
          · rw [q2 81 (by omega) (by omega)]
            by_cases ht : t < p.length
            · rw [List.getElem?_append_left ht] at hz
              rw [uO (by omega)]
              exact h8 t z hz
            · rw [List.getElem?_append_right (by omega)] at hz
              have : t - p.length = 0 := by
                apply Nat.eq_zero_of_not_pos
                intro q
                rw [List.getElem?_eq_none (by rw [List.length_singleton]; omega)] at hz
                cases hz
              rw [this] at hz
              cases hz
              rw [show t = i by omega, uS]
          · rw [h9]
            show (if y ∈ p then (some (p.idxOf y), p) else circ (nxO n s W) (7 - (i + 1)) (p ++ [y]) (nxO n s W y)) = _
            rw [if_neg hm]
