-- ===== is anything ever bad; holds =====
def bothX (co : Nat → List Goods) (V : Nat → Nat → Bool → Bool) (x y : Nat) : Bool := ftB co x y && !(V x y true) && !(ftB co y x && V y x false)
theorem c_isEverBoth {X n : Nat} {co : Nat → List Goods} {V : Nat → Nat → Bool → Bool} {g : GG} {o : Nat} (hS : STL co V g) : ∃ b : Bool, f_X0_isEverBoth [.ref 164] (hp g X o) = some (some (.int (bW b)), hp g X o) ∧ (b = true ↔ ∃ x y, x < 12 ∧ y < 12 ∧ bothX co V x y = true) := by
  simp (disch := first | assumption | omega) only [f_X0_isEverBoth, kb_X0_isEverBoth_0, KL, KB, KC, KI, KJ, KZ, bI_0, bI_n, nI00, nI10, ne_eq, Classical.not_not, not_true_eq_false, not_false_eq_true, if_true, if_false, ite_not, ite_self, Bool.false_eq_true, nIne1]
  unfold kl_X0_isEverBoth_2
  refine kFor 12 (by unfold FU; omega) (fun i ls h' => ∃ u : List Value, ls = [.ref 164, .int (nI i)] ++ u ∧ h' = hp g X o ∧ ∀ x y, x < i → y < 12 → bothX co V x y = false) (fun r => ∃ b : Bool, r = some (some (.int (bW b)), hp g X o) ∧ (b = true ↔ ∃ x y, x < 12 ∧ y < 12 ∧ bothX co V x y = true)) ?_ ?_ 0 _ _ (by omega) ⟨[], rfl, rfl, fun x y hx => by omega⟩
  · rintro s0 ls h' ⟨u, rfl, rfl, h1⟩
    have hin : (12 ≤ 12) = True := eq_true (by omega)
    simp (disch := first | assumption | omega) only [KL, KB, KC, KI, KJ, KZ, bI_0, bI_n, nI00, nI10, ne_eq, Classical.not_not, not_true_eq_false, not_false_eq_true, if_true, if_false, ite_not, ite_self, Bool.false_eq_true, nIne1, List.cons_append, List.nil_append, kMask, mask, nIle, hin]
    refine ⟨false, rfl, fun q => (by cases q), fun ⟨x, y, hx, hy, hb⟩ => ?_⟩
    rw [h1 x y hx hy] at hb
    cases hb
  · rintro s0 i hi ih ls h' ⟨u, rfl, rfl, h1⟩
    have hin : (12 ≤ i) = False := eq_false (by omega)
    obtain ⟨e6, -, e7⟩ := hS i hi
    have hS12 := setN_lt12 (ftB co i)
    have l7 := setN_lt12 (fun y => ftB co i y && V i y true)
    have inner : ∀ u, (fun r : RS => ∃ b : Bool, r = some (some (.int (bW b)), hp g X o) ∧ (b = true ↔ ∃ x y, x < 12 ∧ y < 12 ∧ bothX co V x y = true)) (kl_X0_isEverBoth_10 s0 ([.ref 164, .int (nI i), .int (nI 0)] ++ u) [] (hp g X o)) := by
      intro u
      unfold kl_X0_isEverBoth_10
      refine kFor 12 (by unfold FU; omega) (fun jj ls h' => ∃ u : List Value, ls = [.ref 164, .int (nI i), .int (nI jj)] ++ u ∧ h' = hp g X o ∧ ∀ y, y < jj → bothX co V i y = false) (fun r => ∃ b : Bool, r = some (some (.int (bW b)), hp g X o) ∧ (b = true ↔ ∃ x y, x < 12 ∧ y < 12 ∧ bothX co V x y = true)) ?_ ?_ 0 _ _ (by omega) ⟨u, rfl, rfl, fun y hy => by omega⟩
      · rintro s1 ls h' ⟨u, rfl, rfl, h2⟩
        have hin : (12 ≤ 12) = True := eq_true (by omega)
        simp (disch := first | assumption | omega) only [kb_X0_isEverBoth_70, KL, KB, KC, KI, KJ, KZ, bI_0, bI_n, nI00, nI10, ne_eq, Classical.not_not, not_true_eq_false, not_false_eq_true, if_true, if_false, ite_not, ite_self, Bool.false_eq_true, nIne1, List.cons_append, List.nil_append, kMask, mask, nIle, hin, nI_add]
        refine ih _ _ ⟨[.int (nI 12)], rfl, rfl, fun x y hx hy => ?_⟩
        by_cases q : x = i
        · subst q; exact h2 y hy
        · exact h1 x y (by omega) hy
      · rintro s1 jj hj ih2 ls h' ⟨u, rfl, rfl, h2⟩
        have hin : (12 ≤ jj) = False := eq_false (by omega)
        by_cases hz0 : setN (ftB co i) 12 >>> jj = 0
        · have hz : (nI (setN (ftB co i) 12 >>> jj) = 0) = True := by rw [hz0]; exact eq_true rfl
          simp (disch := first | assumption | omega) only [kb_X0_isEverBoth_70, KL, KB, KC, KI, KJ, KZ, bI_0, bI_n, nI00, nI10, ne_eq, Classical.not_not, not_true_eq_false, not_false_eq_true, if_true, if_false, ite_not, ite_self, Bool.false_eq_true, nIne1, List.cons_append, List.nil_append, kMask, mask, nIle, hin, O_co, AR, e6, nI_shr, hz, nI_add]
          refine ih _ _ ⟨[.int (nI jj)], rfl, rfl, fun x y hx hy => ?_⟩
          by_cases q : x = i
          · subst q
            by_cases q2 : y < jj
            · exact h2 y q2
            · have := shr_zero hz0 y (by omega)
              rw [setN_bit, decide_eq_true hy, Bool.true_and] at this
              unfold bothX
              rw [this, Bool.false_and, Bool.false_and]
          · exact h1 x y (by omega) hy
        · have hlt : setN (ftB co i) 12 >>> jj < 2147483648 := by
            have : setN (ftB co i) 12 >>> jj ≤ setN (ftB co i) 12 := by rw [Nat.shiftRight_eq_div_pow]; exact Nat.div_le_self _ _
            omega
          have hz : (nI (setN (ftB co i) 12 >>> jj) = 0) = False := by rw [nIk0 hlt]; exact eq_false hz0
          have hb1 : (nI ((setN (ftB co i) 12 >>> jj) &&& 1) = 0) = (ftB co i jj = false) := by
            rw [bit0, Nat.testBit_shiftRight, Nat.add_zero, setN_bit, decide_eq_true hj, Bool.true_and]
          obtain ⟨-, e8, -⟩ := hS jj hj
          have l8 := setN_lt12 (fun y => ftB co jj y && V jj y false)
          cases hxy : ftB co i jj with
          | false =>
            have hx' : (ftB co i jj = false) = True := eq_true hxy
            simp (disch := first | assumption | omega) only [kb_X0_isEverBoth_64, KL, KB, KC, KI, KJ, KZ, bI_0, bI_n, nI00, nI10, ne_eq, Classical.not_not, not_true_eq_false, not_false_eq_true, if_true, if_false, ite_not, ite_self, Bool.false_eq_true, nIne1, List.cons_append, List.nil_append, kMask, mask, nIle, hin, O_co, AR, e6, nI_shr, hz, nI_and, hb1, hx', nI_add]
            refine ih2 _ _ ⟨[], rfl, rfl, fun y hy => ?_⟩
            by_cases q : y = jj
            · subst q; unfold bothX; rw [hxy, Bool.false_and, Bool.false_and]
            · exact h2 y (by omega)
          | true =>
            have hx' : (ftB co i jj = false) = False := eq_false (by rw [hxy]; decide)
            have hb2 : (nI ((setN (fun y => ftB co i y && V i y true) 12 >>> jj ||| setN (fun y => ftB co jj y && V jj y false) 12 >>> i) &&& 1) = 0) = (bothX co V i jj = true) := by
              rw [bit0, Nat.testBit_or, Nat.testBit_shiftRight, Nat.testBit_shiftRight, Nat.add_zero, Nat.add_zero, setN_bit, setN_bit, decide_eq_true hj, decide_eq_true hi, Bool.true_and, Bool.true_and]
              unfold bothX
              rw [hxy, Bool.true_and, Bool.true_and]
              cases V i jj true <;> cases (ftB co jj i && V jj i false) <;> simp
            cases hbo : bothX co V i jj with
            | true =>
              have hb3 : (bothX co V i jj = true) = True := eq_true hbo
              simp (disch := first | assumption | omega) only [kb_X0_isEverBoth_64, KL, KB, KC, KI, KJ, KZ, bI_0, bI_n, nI00, nI10, ne_eq, Classical.not_not, not_true_eq_false, not_false_eq_true, if_true, if_false, ite_not, ite_self, Bool.false_eq_true, nIne1, List.cons_append, List.nil_append, kMask, mask, nIle, hin, O_co, AR, e6, e7, e8, nI_shr, hz, nI_and, nI_or, hb1, hx', hb2, hb3]
              exact ⟨true, rfl, fun _ => ⟨i, jj, hi, hj, hbo⟩, fun _ => rfl⟩
            | false =>
              have hb3 : (bothX co V i jj = true) = False := eq_false (by rw [hbo]; decide)
              simp (disch := first | assumption | omega) only [kb_X0_isEverBoth_64, KL, KB, KC, KI, KJ, KZ, bI_0, bI_n, nI00, nI10, ne_eq, Classical.not_not, not_true_eq_false, not_false_eq_true, if_true, if_false, ite_not, ite_self, Bool.false_eq_true, nIne1, List.cons_append, List.nil_append, kMask, mask, nIle, hin, O_co, AR, e6, e7, e8, nI_shr, hz, nI_and, nI_or, hb1, hx', hb2, hb3, nI_add]
              refine ih2 _ _ ⟨[], rfl, rfl, fun y hy => ?_⟩
              by_cases q : y = jj
              · subst q; exact hbo
              · exact h2 y (by omega)
    have h0 := inner []
    simp only [List.cons_append, List.nil_append] at h0
    match u with
    | [] =>
      simp (disch := first | assumption | omega) only [KL, KB, KC, KI, KJ, KZ, bI_0, bI_n, nI00, nI10, ne_eq, Classical.not_not, not_true_eq_false, not_false_eq_true, if_true, if_false, ite_not, ite_self, Bool.false_eq_true, nIne1, List.cons_append, List.nil_append, kMask, mask, nIle, hin]
      exact h0
    | u0 :: u1 =>
      simp (disch := first | assumption | omega) only [KL, KB, KC, KI, KJ, KZ, bI_0, bI_n, nI00, nI10, ne_eq, Classical.not_not, not_true_eq_false, not_false_eq_true, if_true, if_false, ite_not, ite_self, Bool.false_eq_true, nIne1, List.cons_append, List.nil_append, kMask, mask, nIle, hin]
      exact h0
/-- what the survey of a settled crossing stands on -/
def SET (X n : Nat) (co : Nat → List Goods) (V : Nat → Nat → Bool → Bool) (g : GG) : Prop := CO X n co g ∧ STL co V g ∧ ORD g ∧ g 164 5 = nI (nuN co n)
theorem SET.nine {X n : Nat} {co : Nat → List Goods} {V : Nat → Nat → Bool → Bool} {g g' : GG} (h : SET X n co V g) (hX1 : X + 9 < 77) (h1 : ∀ a, a ≠ 170 → g' a = g a) : SET X n co V g' := by
  obtain ⟨a, b, c, d⟩ := h
  exact ⟨a.congr (h1 _ (by omega)) (h1 _ (by omega)) (h1 _ (by omega)), fun x hx => by rw [h1 167 (by omega), h1 168 (by omega), h1 169 (by omega)]; exact b x hx, c.congr (fun a x y => h1 a (by omega)), by rw [h1 164 (by omega)]; exact d⟩
theorem c_isStuckIn {X n k : Nat} {co : Nat → List Goods} {V : Nat → Nat → Bool → Bool} {g : GG} (hX : isX X) (hX1 : X + 9 < 77) (n3 : 3 ≤ n) (n6 : n ≤ 6) (hlen : ∀ r, (co r).length ≤ 2) (h : SET X n co V g) (hk : k < ordMany n) : ∃ (b : Bool) (g' : GG), f_X0_isStuckIn [.ref 164, .int (nI k)] (hp g X (OO n)) = some (some (.int (bW b)), hp g' X (OO n)) ∧ (∀ a, a ≠ 170 → g' a = g a) ∧ (b = true ↔ ∃ nu, skP n k co V nu) := by
  have hN2 : nuN co n ≤ 729 := Nat.le_trans (nuN_le co hlen n) (by have : (3 : Nat) ^ n ≤ 3 ^ 6 := Nat.pow_le_pow_right (by omega) n6; omega)
  have hpos := nuN_pos co n
  obtain ⟨g1, e1, p1, p2⟩ := c_beginNumbers g X (OO n)
  simp (disch := first | assumption | omega) only [f_X0_isStuckIn, kb_X0_isStuckIn_0, KL, KB, KC, KI, KJ, KZ, bI_0, bI_n, nI00, nI10, ne_eq, Classical.not_not, not_true_eq_false, not_false_eq_true, if_true, if_false, ite_not, ite_self, Bool.false_eq_true, nIne1, O_co, e1]
  unfold kl_X0_isStuckIn_6
  refine kFor (nuN co n) (by unfold FU; omega) (fun i ls h' => ∃ (g' : GG) (d : Nat → Nat), ls = [.ref 164, .int (nI k), .int (nI i)] ∧ h' = hp g' X (OO n) ∧ 1 ≤ i ∧ (∀ a, a ≠ 170 → g' a = g a) ∧ DG n co d ∧ CNT d g' ∧ hv co d n = i - 1 ∧ ∀ nu, nu < i → ¬ skP n k co V nu) (fun r => ∃ (b : Bool) (g' : GG), r = some (some (.int (bW b)), hp g' X (OO n)) ∧ (∀ a, a ≠ 170 → g' a = g a) ∧ (b = true ↔ ∃ nu, skP n k co V nu)) ?_ ?_ 1 _ _ hpos ⟨g1, fun _ => 0, rfl, rfl, Nat.le_refl _, p1, ⟨fun r => Nat.zero_le _, fun _ _ => rfl⟩, p2, hv_zero n, fun nu hnu q => by have := q.1; omega⟩
  · rintro s0 ls h' ⟨g', d, rfl, rfl, hi1, h1, h3, h4, h6, h7⟩
    have hin : (nuN co n ≤ nuN co n) = True := eq_true (by omega)
    have h5 := (h.nine hX1 h1).2.2.2
    simp (disch := first | assumption | omega) only [KL, KB, KC, KI, KJ, KZ, bI_0, bI_n, nI00, nI10, ne_eq, Classical.not_not, not_true_eq_false, not_false_eq_true, if_true, if_false, ite_not, ite_self, Bool.false_eq_true, nIne1, kMask, mask, O_co, h5, nIle, hin]
    exact ⟨false, g', rfl, h1, fun q => (by cases q), fun ⟨nu, q⟩ => absurd q (h7 nu q.2.1)⟩
  · rintro s0 i hi ih ls h' ⟨g', d, rfl, rfl, hi1, h1, h3, h4, h6, h7⟩
    have hin : (nuN co n ≤ i) = False := eq_false (by omega)
    have hs := h.nine hX1 h1
    have h5 := hs.2.2.2
    obtain ⟨g2, d', e2, q1, q2, q3, q4⟩ := c_nextNumber (o := OO n) hX (by omega) n3 n6 hs.1 hlen h3 h4 (by omega)
    have hdd := dgN_eq q2 (show hv co d' n = i by omega)
    have hs2 := hs.nine hX1 q1
    have hth : ∀ x, x < 12 → thB co x = true → x / 2 < n := fun x hx h => (thB_lt hs2.1 hx h).1
    have eg := c_going (X := X) (k := k) (V := V) n3 n6 hs2.2.2.1 hs2.2.1 hth hlen q2 hk
    have hg12 : gS d' (goS n (sD n d') (WD n k co V d')) < 4096 := setN_lt12 _
    have hgz : (nI (gS d' (goS n (sD n d') (WD n k co V d'))) = 0) = (goS n (sD n d') (WD n k co V d') = 0) := by rw [nIk0 (by omega), gS_zero n6 hlen q2]
    have h12 : ∀ a, a ≠ 170 → g2 a = g a := fun a ha => by rw [q1 a ha]; exact h1 a ha
    by_cases hg0 : goS n (sD n d') (WD n k co V d') = 0
    · have hz : (goS n (sD n d') (WD n k co V d') = 0) = True := eq_true hg0
      simp (disch := first | assumption | omega) only [KL, KB, KC, KI, KJ, KZ, bI_0, bI_n, nI00, nI10, ne_eq, Classical.not_not, not_true_eq_false, not_false_eq_true, if_true, if_false, ite_not, ite_self, Bool.false_eq_true, nIne1, kMask, mask, O_co, h5, nIle, hin, e2, eg, hgz, hz]
      refine ⟨true, g2, rfl, h12, fun _ => ⟨i, hi1, hi, ?_⟩, fun _ => rfl⟩
      rw [← hdd]; exact hg0
    · have hz : (goS n (sD n d') (WD n k co V d') = 0) = False := eq_false hg0
      simp (disch := first | assumption | omega) only [KL, KB, KC, KI, KJ, KZ, bI_0, bI_n, nI00, nI10, ne_eq, Classical.not_not, not_true_eq_false, not_false_eq_true, if_true, if_false, ite_not, ite_self, Bool.false_eq_true, nIne1, kMask, mask, O_co, h5, nIle, hin, e2, eg, hgz, hz, nI_add]
      refine ih _ _ ⟨g2, d', rfl, rfl, by omega, h12, q2, q3, by omega, fun nu hnu q => ?_⟩
      by_cases e : nu = i
      · subst e
        have := q.2.2
        rw [← hdd] at this
        exact hg0 this
      · exact h7 nu (by omega) q
theorem c_isEverStuck {X n : Nat} {co : Nat → List Goods} {V : Nat → Nat → Bool → Bool} {g : GG} (hX : isX X) (hX1 : X + 9 < 77) (n3 : 3 ≤ n) (n6 : n ≤ 6) (hlen : ∀ r, (co r).length ≤ 2) (h : SET X n co V g) : ∃ (b : Bool) (g' : GG), f_X0_isEverStuck [.ref 164] (hp g X (OO n)) = some (some (.int (bW b)), hp g' X (OO n)) ∧ (∀ a, a ≠ 170 → g' a = g a) ∧ (b = true ↔ ∃ nu k, k < ordMany n ∧ skP n k co V nu) := by
  obtain ⟨o1, o2, o3, o4⟩ := OO_obj n3 n6
  have gi0 : ∀ (g : GG) (k : KK) (ls st : List Value), kGetI 3 3 0 k ls (.ref (OO n) :: st) (hp g X (OO n)) = k ls (.int (g (OO n) 0) :: st) (hp g X (OO n)) := fun g k ls st => gi_at o1 k ls st
  have hm24 := ordMany_le (n := n) n6
  simp (disch := first | assumption | omega) only [f_X0_isEverStuck, kb_X0_isEverStuck_0, KL, KB, KC, KI, KJ, KZ, bI_0, bI_n, nI00, nI10, ne_eq, Classical.not_not, not_true_eq_false, not_false_eq_true, if_true, if_false, ite_not, ite_self, Bool.false_eq_true, nIne1]
  unfold kl_X0_isEverStuck_2
  refine kFor (ordMany n) (by unfold FU; omega) (fun i ls h' => ∃ (g' : GG), ls = [.ref 164, .int (nI i)] ∧ h' = hp g' X (OO n) ∧ (∀ a, a ≠ 170 → g' a = g a) ∧ ∀ nu k, k < i → ¬ skP n k co V nu) (fun r => ∃ (b : Bool) (g' : GG), r = some (some (.int (bW b)), hp g' X (OO n)) ∧ (∀ a, a ≠ 170 → g' a = g a) ∧ (b = true ↔ ∃ nu k, k < ordMany n ∧ skP n k co V nu)) ?_ ?_ 0 _ _ (by omega) ⟨g, rfl, rfl, fun _ _ => rfl, fun nu k hk => by omega⟩
  · rintro s0 ls h' ⟨g', rfl, rfl, h1, h2⟩
    have hin : (ordMany n ≤ ordMany n) = True := eq_true (by omega)
    have em := OO_many n3 n6 (h.nine hX1 h1).2.2.1
    simp (disch := first | assumption | omega) only [KL, KB, KC, KI, KJ, KZ, bI_0, bI_n, nI00, nI10, ne_eq, Classical.not_not, not_true_eq_false, not_false_eq_true, if_true, if_false, ite_not, ite_self, Bool.false_eq_true, nIne1, kMask, mask, O_co, gi0, em, nIle, hin]
    exact ⟨false, g', rfl, h1, fun q => (by cases q), fun ⟨nu, k, hk, q⟩ => absurd q (h2 nu k hk)⟩
  · rintro s0 i hi ih ls h' ⟨g', rfl, rfl, h1, h2⟩
    have hin : (ordMany n ≤ i) = False := eq_false (by omega)
    have hs := h.nine hX1 h1
    have em := OO_many n3 n6 hs.2.2.1
    have hth : ∀ x, x < 12 → thB co x = true → x / 2 < n := fun x hx h => (thB_lt hs.1 hx h).1
    obtain ⟨L, eL, l1, l2⟩ := c_knot (X := X) n3 n6 hlen hs.2.2.1 hs.2.1 hth hi
    have hnext : (∀ nu, ¬ skP n i co V nu) → ∀ nu k, k < i + 1 → ¬ skP n k co V nu := fun hno nu k hk => by
      by_cases q : k = i
      · subst q; exact hno nu
      · exact h2 nu k (by omega)
    by_cases hL0 : L = 0
    · have hz : (nI L = 0) = True := by rw [hL0]; exact eq_true rfl
      simp (disch := first | assumption | omega) only [kb_X0_isEverStuck_31, KL, KB, KC, KI, KJ, KZ, bI_0, bI_n, nI00, nI10, ne_eq, Classical.not_not, not_true_eq_false, not_false_eq_true, if_true, if_false, ite_not, ite_self, Bool.false_eq_true, nIne1, kMask, mask, O_co, gi0, em, nIle, hin, eL, hz, nI_add]
      exact ih _ _ ⟨g', rfl, rfl, h1, hnext (fun nu q => l2 nu q hL0)⟩
    · have hz : (nI L = 0) = False := by rw [nIk0 (by omega)]; exact eq_false hL0
      obtain ⟨b, g2, e2, q1, q2⟩ := c_isStuckIn hX hX1 n3 n6 hlen hs hi
      have h12 : ∀ a, a ≠ 170 → g2 a = g a := fun a ha => by rw [q1 a ha]; exact h1 a ha
      cases b with
      | true =>
        obtain ⟨nu, hnu⟩ := q2.mp rfl
        simp (disch := first | assumption | omega) only [kb_X0_isEverStuck_31, KL, KB, KC, KI, KJ, KZ, bI_0, bI_n, nI00, nI10, ne_eq, Classical.not_not, not_true_eq_false, not_false_eq_true, if_true, if_false, ite_not, ite_self, Bool.false_eq_true, nIne1, kMask, mask, O_co, gi0, em, nIle, hin, eL, hz, e2, bW_t]
        exact ⟨true, g2, rfl, h12, fun _ => ⟨nu, i, hi, hnu⟩, fun _ => rfl⟩
      | false =>
        simp (disch := first | assumption | omega) only [kb_X0_isEverStuck_31, KL, KB, KC, KI, KJ, KZ, bI_0, bI_n, nI00, nI10, ne_eq, Classical.not_not, not_true_eq_false, not_false_eq_true, if_true, if_false, ite_not, ite_self, Bool.false_eq_true, nIne1, kMask, mask, O_co, gi0, em, nIle, hin, eL, hz, e2, bW_f, nI_add]
        exact ih _ _ ⟨g2, rfl, rfl, h12, hnext (fun nu q => by have := q2.mpr ⟨nu, q⟩; cases this)⟩
theorem c_isEverBad {X n : Nat} {co : Nat → List Goods} {V : Nat → Nat → Bool → Bool} {g : GG} (hX : isX X) (hX1 : X + 9 < 77) (n3 : 3 ≤ n) (n6 : n ≤ 6) (hlen : ∀ r, (co r).length ≤ 2) (hco : ∀ r, n ≤ r → co r = []) (h : SET X n co V g) : ∃ g', f_X0_isEverBad [.ref 164] (hp g X (OO n)) = some (some (.int (bW (!decide ((svNum n co V (nuN co n - 1)).1 + (svNum n co V (nuN co n - 1)).2.1 = 0)))), hp g' X (OO n)) ∧ ∀ a, a ≠ 170 → g' a = g a := by
  have hgo : ∀ x, x < 12 → thB co x = true → (cG co x).1 < 6 := fun x hx ht => by have := (thB_lt h.1 hx ht).2.1.1; omega
  have hpos := nuN_pos co n
  obtain ⟨b, e1, b1⟩ := c_isEverBoth (X := X) (n := n) (o := OO n) h.2.1
  obtain ⟨b2, g2, e2, p2, q2⟩ := c_isEverStuck hX hX1 n3 n6 hlen h
  have hbad := bad_iff (V := V) n3 n6 hlen hco hgo
  have htot := svNum_tot n co V (nuN co n - 1)
  have hpair : (∃ x y, x < 12 ∧ y < 12 ∧ bothX co V x y = true) ↔ ∃ x y, x < 12 ∧ y < 12 ∧ prP co V x y := by
    constructor
    · rintro ⟨x, y, hx, hy, hb⟩
      unfold bothX at hb
      rw [Bool.and_eq_true, Bool.and_eq_true] at hb
      obtain ⟨⟨a1, a2⟩, a3⟩ := hb
      have hc : ftB co y x = true := by rw [← ftB_comm n6 hgo hx hy]; exact a1
      rw [hc, Bool.true_and] at a3
      exact ⟨x, y, hx, hy, a1, by simpa using a2, by simpa using a3⟩
    · rintro ⟨x, y, hx, hy, a1, a2, a3⟩
      refine ⟨x, y, hx, hy, ?_⟩
      unfold bothX
      rw [a1, a2, a3, Bool.and_false]
      rfl
  have hall : (b = true ∨ b2 = true) ↔ ¬ ((svNum n co V (nuN co n - 1)).1 + (svNum n co V (nuN co n - 1)).2.1 = 0) := by
    rw [htot, b1, q2, hpair]
    constructor
    · intro hq hno
      have : ∃ nu k, 1 ≤ nu ∧ nu < nuN co n ∧ k < ordMany n ∧ bdP n co V nu k := hbad.mpr (by
        rcases hq with hq | ⟨nu, k, hk, a1, a2, a3⟩
        · exact Or.inl hq
        · exact Or.inr ⟨nu, k, a1, a2, hk, a3⟩)
      obtain ⟨nu, k, a1, a2, a3, a4⟩ := this
      exact hno nu k a1 (by omega) a3 a4
    · intro hno
      apply Classical.byContradiction
      intro hc
      apply hno
      intro nu k a1 a2 a3 a4
      apply hc
      rcases hbad.mp ⟨nu, k, a1, by omega, a3, a4⟩ with hq | ⟨nu', k', c1, c2, c3, c4⟩
      · exact Or.inl hq
      · exact Or.inr ⟨nu', k', c3, c1, c2, c4⟩
  cases b with
  | true =>
    have hr : decide ((svNum n co V (nuN co n - 1)).1 + (svNum n co V (nuN co n - 1)).2.1 = 0) = false := decide_eq_false (hall.mp (Or.inl rfl))
    rw [hr]
    refine ⟨g, ?_, fun _ _ => rfl⟩
    simp (disch := first | assumption | omega) only [f_X0_isEverBad, kb_X0_isEverBad_19, kb_X0_isEverBad_14, kb_X0_isEverBad_0, KL, KB, KC, KI, KJ, KZ, bI_0, bI_n, nI00, nI10, ne_eq, Classical.not_not, not_true_eq_false, not_false_eq_true, if_true, if_false, ite_not, ite_self, Bool.false_eq_true, nIne1, O_co, e1, bW_t]
    rfl
  | false =>
    cases b2 with
    | true =>
      have hr : decide ((svNum n co V (nuN co n - 1)).1 + (svNum n co V (nuN co n - 1)).2.1 = 0) = false := decide_eq_false (hall.mp (Or.inr rfl))
      rw [hr]
      refine ⟨g2, ?_, p2⟩
      simp (disch := first | assumption | omega) only [f_X0_isEverBad, kb_X0_isEverBad_19, kb_X0_isEverBad_14, kb_X0_isEverBad_0, KL, KB, KC, KI, KJ, KZ, bI_0, bI_n, nI00, nI10, ne_eq, Classical.not_not, not_true_eq_false, not_false_eq_true, if_true, if_false, ite_not, ite_self, Bool.false_eq_true, nIne1, O_co, e1, bW_f, e2, bW_t]
      rfl
    | false =>
      have hr : decide ((svNum n co V (nuN co n - 1)).1 + (svNum n co V (nuN co n - 1)).2.1 = 0) = true := decide_eq_true (by
        apply Classical.byContradiction
        intro q
        rcases hall.mpr q with q | q <;> cases q)
      rw [hr]
      refine ⟨g2, ?_, p2⟩
      simp (disch := first | assumption | omega) only [f_X0_isEverBad, kb_X0_isEverBad_19, kb_X0_isEverBad_14, kb_X0_isEverBad_0, KL, KB, KC, KI, KJ, KZ, bI_0, bI_n, nI00, nI10, ne_eq, Classical.not_not, not_true_eq_false, not_false_eq_true, if_true, if_false, ite_not, ite_self, Bool.false_eq_true, nIne1, O_co, e1, bW_f, e2]
      rfl
theorem nt (b : Bool) : bW (!b) = if b = true then nI 0 else nI 1 := by cases b <;> rfl
/-- the class's and the model's verdict over a crossing by a rule are the same -/
theorem RT.verdict {j : Nat} {g : GG} {m o c : Nat} (hR : RT j g m o) (hc : c < 6) (rule : Int32) (hr : rule = -1 ∨ ∃ k, k < 4 ∧ rule = nI k) : ∃ (X o' : Nat) (b : Bool), (∀ (g0 : GG) (m o : Nat), KEEP g g0 → ∃ g1 g2 : GG, f_X0_askByRule [.ref 164, .ref (17 + 10 * c), .int rule] (hp g0 m o) = some (none, hp g1 X o') ∧ f_X0_isEverBad [.ref 164] (hp g1 X o') = some (some (.int (bW (!b))), hp g2 X o') ∧ KEEP g g2 ∧ g2 188 = g0 188) ∧ (∀ (g0 : GG) (m o : Nat), g0 189 = g 189 → g0 188 33 = -1 → g0 188 34 = rule → g0 188 35 = nI 0 → ∃ g1 g2 : GG, f_X11_laysOut [.ref 188, .int (nI c)] (hp g0 m o) = some (none, hp g1 m o) ∧ f_X11_goesThrough [.ref 188, .int (nI c), .int (nI 1)] (hp g1 m o) = some (some (.int (bW b)), hp g2 m o) ∧ (∀ a, a ≠ 188 → (a < 194 ∨ 207 < a) → g2 a = g0 a) ∧ ∀ i, (i < 37 ∨ 45 < i) → i ≠ 20 → g2 188 i = g0 188 i) := by
  have hX := isX_live c hc
  obtain ⟨n, hx⟩ := hR.at hc
  obtain ⟨n3, n6, en, em, -⟩ := id hx
  obtain ⟨co, fa, U, K, hCK, hMK, hco, hlen, hok⟩ := hR.comeP hc hx
  obtain ⟨kr, hkr⟩ : ∃ kr : Nat → Nat, (rule = -1 ∧ ∀ r, kr r = K (fa 3 r)) ∨ ∃ k, k < 4 ∧ rule = nI k ∧ ∀ r, kr r = k := by
    rcases hr with h | ⟨k, h1, h2⟩
    · exact ⟨fun r => K (fa 3 r), Or.inl ⟨h, fun _ => rfl⟩⟩
    · exact ⟨fun _ => k, Or.inr ⟨k, h1, h2, fun _ => rfl⟩⟩
  refine ⟨17 + 10 * c, OO n, decide ((svNum n co (VR n co fa (fun r => U (kr r))) (nuN co n - 1)).1 + (svNum n co (VR n co fa (fun r => U (kr r))) (nuN co n - 1)).2.1 = 0), fun g0 m o hk => ?_, fun g0 m o z z33 z34 z35 => ?_⟩
  · have z81 : ∀ a, a < 77 → g0 a = g a := fun a ha => hk.1 a (by omega)
    have hCK0 : CK (17 + 10 * c) n co fa U K g0 := hCK.congr (by omega) (by omega) (fun a a1 _ _ _ => z81 a a1)
    obtain ⟨g1, e1, p1, p2, p3, p4⟩ := c_askByRule (m := m) (o := o) hX (by omega) (by omega) n3 n6 hCK0 rule kr hkr
    have hO : ORD g0 := (show ORD g from hR.2.2.2.2.2.1).congr (fun a x y => hk.2.2.1 a x y)
    have hset : SET (17 + 10 * c) n co (VR n co fa (fun r => U (kr r))) g1 := ⟨hCK0.co.congr (p1 _ (by omega) (by omega) (by omega) (by omega) (by omega) (by omega) (by omega)) (p1 _ (by omega) (by omega) (by omega) (by omega) (by omega) (by omega) (by omega)) (p1 _ (by omega) (by omega) (by omega) (by omega) (by omega) (by omega) (by omega)), p4, hO.congr (fun a x y => p1 a (by omega) (by omega) (by omega) (by omega) (by omega) (by omega) (by omega)), p2⟩
    obtain ⟨g2, e2, q1⟩ := c_isEverBad hX (by omega) n3 n6 hlen hco hset
    refine ⟨g1, g2, e1, e2, hk.tr (KEEP.of (fun a x y z w => by rw [q1 a (by omega), p1 a (by omega) (by omega) (by omega) (by omega) (by omega) (by omega) (by omega)]) (fun i _ => by rw [q1 188 (by omega), p1 188 (by omega) (by omega) (by omega) (by omega) (by omega) (by omega) (by omega)])), by rw [q1 188 (by omega), p1 188 (by omega) (by omega) (by omega) (by omega) (by omega) (by omega) (by omega)]⟩
  · have z8 : g0 189 = g 189 := z
    have hMK0 : MK (10 + 560 * c) n co fa U K g0 := hMK.congr (by omega) (by omega) (FR8.of z8)
    obtain ⟨g4, e4, r1, r2, r3, r4⟩ := hMK0.base (m := m) (o := o) hc n6
    have hz4 : g4 189 = g0 189 := r1 189 (by omega) (by omega)
    have h34 : g4 188 34 = rule := by rw [r2 34 (by omega)]; exact z34
    have h33 : g4 188 33 = -1 := by rw [r2 33 (by omega)]; exact z33
    have h35 : g4 188 35 = nI 0 := by rw [r2 35 (by omega)]; exact z35
    have h6 : ∀ r, r < n → kr r < 4 ∧ wfR (U (kr r)) ∧ ruleM g4 189 (kr r) (U (kr r)) ∧ ((g4 188 34 = -1 ∧ ∃ v, v < 2 ∧ g4 199 r = nI v ∧ g4 189 (1 + v) = nI (kr r)) ∨ g4 188 34 = nI (kr r)) := by
      intro r hr'
      rcases hkr with ⟨h0, h1⟩ | ⟨k, k4, h0, h1⟩
      · rw [h1 r]
        exact hMK0.rules n6 hz4 (fun r hr => (r4 r hr).2.2.2) (by rw [h34, h0]) r hr'
      · rw [h1 r]
        obtain ⟨u1, u2⟩ := hMK0.2.2.2.1 k k4
        exact ⟨k4, u1, u2.congr u1 k4 (fun i _ _ => by rw [hz4]), Or.inr (by rw [h34, h0])⟩
    have hV := mwv_of (m := m) (o := o) (rl := fun r => U (kr r)) (kr := kr) n3 n6 hlen hok r3.1 (fun r hr => ⟨(r4 r hr).1, (r4 r hr).2.1, (r4 r hr).2.2.1⟩) h35 h33 h6
    obtain ⟨g5, e5, w1, -⟩ := m_thru (m := m) (o := o) true hc n3 n6 r3 hco hV
    exact ⟨g4, g5, e4, e5, fun a a1 a2 => by rw [w1.1 a a1 (by omega) (by omega) (by omega) (by omega) (by omega) (by omega) (by omega) (by omega), r1 a a1 (by omega)], fun i hi hi2 => by rw [w1.2 i hi, r2 i hi2]⟩
