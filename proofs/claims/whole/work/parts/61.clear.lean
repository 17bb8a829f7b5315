-- ===== cleared =====
def cntN (p : Nat → Bool) : Nat → Nat
  | 0 => 0
  | k + 1 => cntN p k + if p k = true then 1 else 0
theorem cntN_le (p : Nat → Bool) : ∀ n, cntN p n ≤ n := by
  intro n
  induction n with
  | zero => exact Nat.le_refl _
  | succ n ih => show cntN p n + _ ≤ n + 1; split <;> omega
theorem cntN_congr {p q : Nat → Bool} : ∀ n, (∀ i, i < n → p i = q i) → cntN p n = cntN q n := by
  intro n
  induction n with
  | zero => intro _; rfl
  | succ n ih =>
    intro h
    show cntN p n + _ = cntN q n + _
    rw [ih (fun i hi => h i (by omega)), h n (by omega)]
theorem cntN_mono {p q : Nat → Bool} : ∀ n, (∀ i, i < n → p i = true → q i = true) → cntN p n ≤ cntN q n := by
  intro n
  induction n with
  | zero => intro _; exact Nat.le_refl _
  | succ n ih =>
    intro h
    show cntN p n + _ ≤ cntN q n + _
    have h1 := ih (fun i hi => h i (by omega))
    by_cases hp : p n = true
    · rw [if_pos hp, if_pos (h n (by omega) hp)]; omega
    · rw [if_neg hp]; omega
theorem cntN_lt {p q : Nat → Bool} : ∀ n, (∀ i, i < n → p i = true → q i = true) → ∀ i, i < n → p i = false → q i = true → cntN p n < cntN q n := by
  intro n
  induction n with
  | zero => intro _ i hi; omega
  | succ n ih =>
    intro h i hi hp hq
    show cntN p n + _ < cntN q n + _
    by_cases e : i = n
    · subst e
      have := cntN_mono i (fun u hu => h u (by omega))
      rw [if_neg (by rw [hp]; decide), if_pos hq]
      omega
    · have h1 := ih (fun u hu => h u (by omega)) i (by omega) hp hq
      by_cases hp' : p n = true
      · rw [if_pos hp', if_pos (h n (by omega) hp')]; omega
      · rw [if_neg hp']; omega
theorem cntN_zero {p : Nat → Bool} : ∀ n, (∀ i, i < n → p i = false) → cntN p n = 0 := by
  intro n
  induction n with
  | zero => intro _; rfl
  | succ n ih =>
    intro h
    show cntN p n + _ = 0
    rw [ih (fun i hi => h i (by omega)), if_neg (by rw [h n (by omega)]; decide)]
theorem cntN_ext {p : Nat → Bool} {n : Nat} : ∀ k, (∀ i, n ≤ i → p i = false) → cntN p (n + k) = cntN p n := by
  intro k
  induction k with
  | zero => intro _; rfl
  | succ k ih =>
    intro h
    show cntN p (n + k) + (if p (n + k) = true then 1 else 0) = _
    rw [ih h, if_neg (by rw [h (n + k) (by omega)]; decide), Nat.add_zero]
def popN (s : Nat) : Nat := cntN (fun i => s.testBit i) 12
theorem bit_ge {s n : Nat} (h : s < 2 ^ n) : ∀ i, n ≤ i → s.testBit i = false := fun i hi => Nat.testBit_lt_two_pow (Nat.lt_of_lt_of_le h (Nat.pow_le_pow_right (by omega) hi))
theorem popN_6 {s : Nat} (h : s < 64) : popN s = cntN (fun i => s.testBit i) 6 := cntN_ext (n := 6) 6 (bit_ge (n := 6) h)
theorem popN_le (s : Nat) : popN s ≤ 12 := cntN_le _ _
theorem popN_le6 {s : Nat} (h : s < 64) : popN s ≤ 6 := by rw [popN_6 h]; exact cntN_le _ _
def bcE (x0 : Int32) : Int32 :=
  let x1 := x0 - ((x0.toUInt32 >>> ((nI 1).toUInt32 &&& Int32.toUInt32 31)).toInt32 &&& nI 1431655765)
  let x2 := (x1 &&& nI 858993459) + ((x1.toUInt32 >>> ((nI 2).toUInt32 &&& Int32.toUInt32 31)).toInt32 &&& nI 858993459)
  let x3 := (x2 + (x2.toUInt32 >>> ((nI 4).toUInt32 &&& Int32.toUInt32 31)).toInt32) &&& nI 252645135
  let x4 := x3 + (x3.toUInt32 >>> ((nI 8).toUInt32 &&& Int32.toUInt32 31)).toInt32
  let x5 := x4 + (x4.toUInt32 >>> ((nI 16).toUInt32 &&& Int32.toUInt32 31)).toInt32
  x5 &&& nI 63
theorem bc_run (x : Int32) (h : HP) : f_J6_bitCount_0f7a4 [.int x] h = some (some (.int (bcE x)), h) := rfl
theorem bc_all : (List.range 4096).all (fun s => decide (bcE (nI s) = nI (popN s))) = true := by decide +kernel
theorem c_bitCount (s : Nat) (hs : s < 4096) (h : HP) : f_J6_bitCount_0f7a4 [.int (nI s)] h = some (some (.int (nI (popN s))), h) := by
  rw [bc_run]
  have := List.all_eq_true.mp bc_all s (List.mem_range.mpr hs)
  rw [of_decide_eq_true this]
theorem and1v (a : Nat) : a &&& 1 = if a.testBit 0 = true then 1 else 0 := and1 a
theorem m_count0 (s : Nat) (hs : s < 64) (h : HP) : f_X11_count0 [.int (nI s)] h = some (some (.int (nI (popN s))), h) := by
  rw [popN_6 hs]
  simp (disch := first | assumption | omega) only [f_X11_count0, kb_X11_count0_0, KL, KB, KC, KI, KJ, KZ, bI_0, bI_n, nI00, nI10, ne_eq, Classical.not_not, not_true_eq_false, not_false_eq_true, if_true, if_false, ite_not, ite_self, Bool.false_eq_true, nIne1]
  unfold kl_X11_count0_4
  refine kFor 6 (by unfold FU; omega) (fun i ls h' => ls = [.int (nI s), .int (nI (cntN (fun i => s.testBit i) i)), .int (nI i)] ∧ h' = h) (fun r => r = some (some (.int (nI (cntN (fun i => s.testBit i) 6))), h)) ?_ ?_ 0 _ _ (by omega) ⟨rfl, rfl⟩
  · rintro s0 ls h' ⟨rfl, rfl⟩
    have hin : (6 ≤ 6) = True := eq_true (by omega)
    simp (disch := first | assumption | omega) only [KL, KB, KC, KI, KJ, KZ, bI_0, bI_n, nI00, nI10, ne_eq, Classical.not_not, not_true_eq_false, not_false_eq_true, if_true, if_false, ite_not, ite_self, Bool.false_eq_true, nIne1, kMask, mask, nIle, hin]
  · rintro s0 i hi ih ls h' ⟨rfl, rfl⟩
    have hin : (6 ≤ i) = False := eq_false (by omega)
    have hc : cntN (fun i => s.testBit i) (i + 1) = cntN (fun i => s.testBit i) i + ((s >>> i) &&& 1) := by
      rw [and1v, Nat.testBit_shiftRight, Nat.add_zero]; rfl
    simp (disch := first | assumption | omega) only [KL, KB, KC, KI, KJ, KZ, bI_0, bI_n, nI00, nI10, ne_eq, Classical.not_not, not_true_eq_false, not_false_eq_true, if_true, if_false, ite_not, ite_self, Bool.false_eq_true, nIne1, kMask, mask, nIle, hin, nI_shr, nI_and, nI_add]
    exact ih _ _ ⟨by rw [hc], rfl⟩
theorem CSn.low {n s : Nat} {ct : Nat → ACart} {sz sl sg : FN} {kx : Nat → Nat} {rx : Nat → ARule} {X : Nat} {g g' : GG} (h : CSn n s ct sz sl sg kx rx X g) (hX1 : X + 9 < 77) (z : ∀ a, a < 77 → g' a = g a) : CSn n s ct sz sl sg kx rx X g' := by
  obtain ⟨h1, h2, h3, h4, h5⟩ := h
  refine ⟨by rw [z X (by omega)]; exact h1, fun r hr hs => ?_, fun r hr hs => by rw [z _ (by omega)]; exact h3 r hr hs, fun r hr => by rw [z _ (by omega)]; exact h4 r hr, fun r hr => ?_⟩
  · have := h2 r hr hs
    unfold cC at this ⊢
    rw [z (X + 2) (by omega)]
    exact this
  · obtain ⟨a, b, c, v, d, e, f⟩ := h5 r hr
    exact ⟨a, b, c.congr (fun a _ _ => z a (by omega)), v, d, by rw [z _ (by omega)]; exact e, by rw [z _ (by omega)]; exact f⟩
/-- times, fights, who is left -/
def clrN (n : Nat) (W F : Nat → Nat → Bool) : Nat → Nat → Nat → Nat → Nat × Nat × Nat
  | 0, s, t, f => (t, f, s)
  | k + 1, s, t, f => if goS n s W = 0 then (t, f, s) else clrN n W F k (s ^^^ (s &&& goS n s W)) (t + 1) (f + if ffJ n (goS n s W) F = -1 then 0 else 1)
theorem goS_0 (n : Nat) (W : Nat → Nat → Bool) : goS n 0 W = 0 := by
  apply Nat.eq_of_testBit_eq
  intro i
  unfold goS mayP
  rw [setN_bit, Nat.zero_testBit, Bool.false_and, Bool.and_false]
theorem clrN_stop {n : Nat} {W F : Nat → Nat → Bool} {k s t f : Nat} (h : goS n s W = 0) : clrN n W F k s t f = (t, f, s) := by
  cases k with
  | zero => rfl
  | succ k => exact if_pos h
theorem clrN_go {n : Nat} {W F : Nat → Nat → Bool} {k s t f : Nat} (h : ¬ goS n s W = 0) : clrN n W F (k + 1) s t f = clrN n W F k (s ^^^ (s &&& goS n s W)) (t + 1) (f + if ffJ n (goS n s W) F = -1 then 0 else 1) := if_neg h
theorem goS_some {n s : Nat} {W : Nat → Nat → Bool} (h : ¬ goS n s W = 0) : ∃ r, r < n ∧ (goS n s W).testBit r = true ∧ s.testBit r = true := by
  obtain ⟨r, hr⟩ := Nat.exists_testBit_of_ne_zero h
  refine ⟨r, ?_, hr, goS_sub r hr⟩
  apply Nat.lt_of_not_le
  intro q
  rw [bit_ge goS_lt r q] at hr
  cases hr
theorem popN_drop {n s : Nat} {W : Nat → Nat → Bool} (hn : n ≤ 6) (h : ¬ goS n s W = 0) : popN (s ^^^ (s &&& goS n s W)) < popN s := by
  obtain ⟨r, h1, h2, h3⟩ := goS_some h
  refine cntN_lt 12 (fun i _ hi => ?_) r (by omega) ?_ h3
  · simp only [subN_bit, Bool.and_eq_true] at hi; exact hi.1
  · simp only [subN_bit, h2, h3]; rfl
theorem clrN_le {n : Nat} {W F : Nat → Nat → Bool} : ∀ k s t f, (clrN n W F k s t f).1 ≤ t + k ∧ (clrN n W F k s t f).2.1 ≤ f + k ∧ ∀ r, (clrN n W F k s t f).2.2.testBit r = true → s.testBit r = true := by
  intro k
  induction k with
  | zero => intro s t f; exact ⟨Nat.le_refl _, Nat.le_refl _, fun _ h => h⟩
  | succ k ih =>
    intro s t f
    by_cases h : goS n s W = 0
    · rw [clrN_stop h]; exact ⟨by show t ≤ _; omega, by show f ≤ _; omega, fun _ h => h⟩
    · rw [clrN_go h]
      obtain ⟨a, b, c⟩ := ih (s ^^^ (s &&& goS n s W)) (t + 1) (f + if ffJ n (goS n s W) F = -1 then 0 else 1)
      have hle : (if ffJ n (goS n s W) F = -1 then 0 else 1) ≤ 1 := by split <;> omega
      refine ⟨by omega, ?_, fun r hr => ?_⟩
      · generalize (if ffJ n (goS n s W) F = -1 then 0 else 1) = z at *
        omega
      · have := c r hr
        rw [subN_bit, Bool.and_eq_true] at this
        exact this.1
theorem c_clear {n s : Nat} {ct : Nat → ACart} {sz sl sg : FN} {kx : Nat → Nat} {rx : Nat → ARule} {X : Nat} {g : GG} {m o : Nat} (h : CSn n s ct sz sl sg kx rx X g) (hX : isX X) (hX1 : X + 9 < 77) (hX2 : 16 < X) (n3 : 3 ≤ n) (n6 : n ≤ 6) (hs : s < 2 ^ n) : ∃ g', f_X8_clear [.ref 80, .ref X] (hp g m o) = some (none, hp g' m o) ∧ (∀ a, a ≠ 78 → a ≠ 79 → a ≠ 80 → g' a = g a) ∧ g' 80 5 = nI (clrN n (wV n ct sz sl sg rx 0) (fun x y => wayB x (ct x).1.1 y (ct y).1.1) 6 s 0 0).1 ∧ g' 80 7 = nI (clrN n (wV n ct sz sl sg rx 0) (fun x y => wayB x (ct x).1.1 y (ct y).1.1) 6 s 0 0).2.1 ∧ g' 80 6 = nI (popN (clrN n (wV n ct sz sl sg rx 0) (fun x y => wayB x (ct x).1.1 y (ct y).1.1) 6 s 0 0).2.2) := by
  have c84 : ∀ a : Nat, a < 77 → a ≠ 80 := fun a h => by omega
  have h0 : CSn n s ct sz sl sg kx rx X (upd2 (upd2 g 80 5 (nI 0)) 80 7 (nI 0)) := h.low hX1 (fun a ha => by rw [uN (by omega), uN (by omega)])
  have hset := x_cartSet (m := m) (o := o) hX (h0.cl n6) (by omega) n6 hs
  generalize hW : wV n ct sz sl sg rx 0 = W
  generalize hF : (fun x y => wayB x (ct x).1.1 y (ct y).1.1) = F
  simp (disch := first | assumption | omega) only [f_X8_clear, kb_X8_clear_0, KL, KB, KC, KI, KJ, KZ, bI_0, bI_n, nI00, nI10, ne_eq, Classical.not_not, not_true_eq_false, not_false_eq_true, if_true, if_false, ite_not, ite_self, Bool.false_eq_true, nIne1, O_st, XO, hset]
  unfold kl_X8_clear_17
  refine kFor 6 (by unfold FU; omega) (fun i ls h => ∃ (g' : GG) (s' t f : Nat) (u : List Value), ls = [.ref 80, .ref X, .int (nI s'), .int (nI i)] ++ u ∧ h = hp g' m o ∧ (∀ a, a ≠ 78 → a ≠ 79 → a ≠ 80 → g' a = g a) ∧ g' 80 5 = nI t ∧ g' 80 7 = nI f ∧ (∀ r, s'.testBit r = true → s.testBit r = true) ∧ s' < 2 ^ n ∧ clrN n W F 6 s 0 0 = clrN n W F (6 - i) s' t f) (fun r => ∃ g', r = some (none, hp g' m o) ∧ (∀ a, a ≠ 78 → a ≠ 79 → a ≠ 80 → g' a = g a) ∧ g' 80 5 = nI (clrN n W F 6 s 0 0).1 ∧ g' 80 7 = nI (clrN n W F 6 s 0 0).2.1 ∧ g' 80 6 = nI (popN (clrN n W F 6 s 0 0).2.2)) ?_ ?_ 0 _ _ (by omega) ⟨_, s, 0, 0, [], rfl, rfl, fun a _ _ ha => by rw [uN ha, uN ha], by rw [uO (by omega), uS], uS, fun _ h => h, hs, rfl⟩
  · rintro s0 ls h' ⟨g', s', t, f, u, rfl, rfl, h1, h2, h3, h4, h5, h6⟩
    have hin : (6 ≤ 6) = True := eq_true (by omega)
    have hbc := fun h => c_bitCount s' (by have := lt64 h5 n6; omega) h
    simp (disch := first | assumption | omega) only [f_X8_clear, kb_X8_clear_87, kb_X8_clear_74, kb_X8_clear_0, KL, KB, KC, KI, KJ, KZ, bI_0, bI_n, nI00, nI10, ne_eq, Classical.not_not, not_true_eq_false, not_false_eq_true, if_true, if_false, ite_not, ite_self, Bool.false_eq_true, nIne1, List.cons_append, List.nil_append, kMask, mask, nIle, hin, O_st, hbc]
    refine ⟨_, rfl, fun a p q r => by rw [uN r]; exact h1 a p q r, ?_, ?_, ?_⟩
    all_goals rw [h6]
    · rw [uO (by omega)]; exact h2
    · rw [uO (by omega)]; exact h3
    · exact uS
  · rintro s0 i hi ih ls h' ⟨g', s', t, f, u, rfl, rfl, h1, h2, h3, h4, h5, h6⟩
    have hin : (6 ≤ i) = False := eq_false (by omega)
    have s64 := lt64 h5 n6
    have hbc := fun h => c_bitCount s' (by omega) h
    have hend : ∀ gg : GG, (∀ a, a ≠ 78 → a ≠ 79 → a ≠ 80 → gg a = g a) → gg 80 = g' 80 → goS n s' W = 0 → ∃ g'', some (none, hp (upd2 gg 80 6 (nI (popN s'))) m o) = (some (none, hp g'' m o) : RS) ∧ (∀ a, a ≠ 78 → a ≠ 79 → a ≠ 80 → g'' a = g a) ∧ g'' 80 5 = nI (clrN n W F 6 s 0 0).1 ∧ g'' 80 7 = nI (clrN n W F 6 s 0 0).2.1 ∧ g'' 80 6 = nI (popN (clrN n W F 6 s 0 0).2.2) := by
      intro gg h1 h84 hg
      rw [h6, clrN_stop hg]
      refine ⟨_, rfl, fun a p q r => by rw [uN r]; exact h1 a p q r, ?_, ?_, uS⟩
      · rw [uO (by omega), h84]; exact h2
      · rw [uO (by omega), h84]; exact h3
    by_cases hs0 : s' = 0
    · have hz : (nI s' = 0) = True := by rw [hs0]; exact eq_true rfl
      simp (disch := first | assumption | omega) only [f_X8_clear, kb_X8_clear_87, kb_X8_clear_74, kb_X8_clear_0, KL, KB, KC, KI, KJ, KZ, bI_0, bI_n, nI00, nI10, ne_eq, Classical.not_not, not_true_eq_false, not_false_eq_true, if_true, if_false, ite_not, ite_self, Bool.false_eq_true, nIne1, List.cons_append, List.nil_append, kMask, mask, nIle, hin, O_st, hz, hbc]
      exact hend g' h1 rfl (by rw [hs0]; exact goS_0 n W)
    · have hz : (nI s' = 0) = False := by rw [nIk0 (by omega)]; exact eq_false hs0
      have hC : CSn n s ct sz sl sg kx rx X g' := h.low hX1 (fun a ha => h1 a (by omega) (by omega) (by omega))
      have hCW := (hC.cw (m := m) (o := o) (mean := 0) hX hX1 hX2 n3 n6 (by omega)).mono (s' := s') h4
      rw [hW] at hCW
      obtain ⟨g1, e1, p1⟩ := c_goers hX (fun g' hg => (hC.sc hX1 hg).1) n6 s64 hCW g' SC.rfl'
      have G64 : goS n s' W < 64 := goS_lt64 n6
      by_cases hg0 : goS n s' W = 0
      · have hgz : (nI (goS n s' W) = 0) = True := by rw [hg0]; exact eq_true rfl
        simp (disch := first | assumption | omega) only [f_X8_clear, kb_X8_clear_87, kb_X8_clear_74, kb_X8_clear_0, KL, KB, KC, KI, KJ, KZ, bI_0, bI_n, nI00, nI10, ne_eq, Classical.not_not, not_true_eq_false, not_false_eq_true, if_true, if_false, ite_not, ite_self, Bool.false_eq_true, nIne1, List.cons_append, List.nil_append, kMask, mask, nIle, hin, O_st, hz, hbc, e1, hgz]
        exact hend g1 (fun a p q r => by rw [p1 a p q]; exact h1 a p q r) (p1 80 (by omega) (by omega)) hg0
      · have hgz : (nI (goS n s' W) = 0) = False := by rw [nIk0 (by omega)]; exact eq_false hg0
        have k5 : g1 80 5 = nI t := by rw [p1 80 (by omega) (by omega)]; exact h2
        have k7 : g1 80 7 = nI f := by rw [p1 80 (by omega) (by omega)]; exact h3
        have hC1 : CSn n s ct sz sl sg kx rx X (upd2 g1 80 5 (nI (t + 1))) := hC.low hX1 (fun a ha => by rw [uN (by omega), p1 a (by omega) (by omega)])
        have e5 := c_firstF (m := m) (o := o) (tt := fun r => (ct r).1.1) hX hC1.1 n6 G64 (fun r hr hb => ((hC1.cl n6).2 r hr).1 (h4 r (goS_sub r hb)))
        rw [hF] at e5
        have hsub : ∀ r, (s' ^^^ (s' &&& goS n s' W)).testBit r = true → s.testBit r = true := fun r hr => by
          rw [subN_bit, Bool.and_eq_true] at hr
          exact h4 r hr.1
        have h6' := h6
        rw [show 6 - i = (6 - (i + 1)) + 1 by omega, clrN_go hg0] at h6'
        by_cases hf : ffJ n (goS n s' W) F = -1
        · rw [if_pos hf] at h6'
          simp (disch := first | assumption | omega) only [f_X8_clear, kb_X8_clear_87, kb_X8_clear_74, kb_X8_clear_0, KL, KB, KC, KI, KJ, KZ, bI_0, bI_n, nI00, nI10, ne_eq, Classical.not_not, not_true_eq_false, not_false_eq_true, if_true, if_false, ite_not, ite_self, Bool.false_eq_true, nIne1, List.cons_append, List.nil_append, kMask, mask, nIle, hin, O_st, XO, hz, e1, hgz, k5, nI_add, e5, hf, nI_andn]
          exact ih _ _ ⟨_, s' ^^^ (s' &&& goS n s' W), t + 1, f, [.int (nI (goS n s' W))], rfl, rfl, fun a p q r => by rw [uN r, p1 a p q]; exact h1 a p q r, uS, by rw [uO (by omega)]; exact k7, hsub, subN_lt h5, h6'⟩
        · rw [if_neg hf] at h6'
          simp (disch := first | assumption | omega) only [f_X8_clear, kb_X8_clear_87, kb_X8_clear_74, kb_X8_clear_0, KL, KB, KC, KI, KJ, KZ, bI_0, bI_n, nI00, nI10, ne_eq, Classical.not_not, not_true_eq_false, not_false_eq_true, if_true, if_false, ite_not, ite_self, Bool.false_eq_true, nIne1, List.cons_append, List.nil_append, kMask, mask, nIle, hin, O_st, XO, hz, e1, hgz, k5, nI_add, e5, hf, nI_andn, upd2_other, k7]
          exact ih _ _ ⟨_, s' ^^^ (s' &&& goS n s' W), t + 1, f + 1, [.int (nI (goS n s' W))], rfl, rfl, fun a p q r => by rw [uN r, uN r, p1 a p q]; exact h1 a p q r, by rw [uO (by omega), uS], uS, hsub, subN_lt h5, h6'⟩
