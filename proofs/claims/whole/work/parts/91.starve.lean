-- ===== starve: the class =====
/-- x waits for y when it is the later one, y not for x when it is the first -/
def svP (co : Nat → List Goods) (V : Nat → Nat → Bool → Bool) (x y : Nat) : Bool := ftB co x y && V x y false && !(ftB co y x && V y x true)
/-- s holds the roads with such a couple -/
def svS (co : Nat → List Goods) (V : Nat → Nat → Bool → Bool) (C : Nat → Nat → Prop) (s : Nat) : Prop := s < 64 ∧ ∀ r, s.testBit r = true ↔ ∃ x y, C x y ∧ x / 2 = r ∧ svP co V x y = true
theorem svS.cong {co : Nat → List Goods} {V : Nat → Nat → Bool → Bool} {C D : Nat → Nat → Prop} {s : Nat} (h : svS co V C s) (hc : ∀ x y, svP co V x y = true → (C x y ↔ D x y)) : svS co V D s := ⟨h.1, fun r => (h.2 r).trans ⟨fun ⟨x, y, a, b, e⟩ => ⟨x, y, (hc x y e).mp a, b, e⟩, fun ⟨x, y, a, b, e⟩ => ⟨x, y, (hc x y e).mpr a, b, e⟩⟩⟩
theorem svS.or {co : Nat → List Goods} {V : Nat → Nat → Bool → Bool} {C D : Nat → Nat → Prop} {s x0 y0 : Nat} (h : svS co V C s) (hx : x0 < 12) (hP : svP co V x0 y0 = true) (hD : ∀ x y, D x y ↔ (C x y ∨ (x = x0 ∧ y = y0))) : svS co V D (s ||| 1 <<< (x0 >>> 1)) := by
  have e2 : x0 >>> 1 = x0 / 2 := rfl
  refine ⟨?_, fun r => ?_⟩
  · have h1 : 1 <<< (x0 >>> 1) < 2 ^ 6 := by
      rw [Nat.one_shiftLeft]
      exact Nat.pow_lt_pow_right (by omega) (by omega)
    exact Nat.or_lt_two_pow (n := 6) h.1 h1
  · rw [Nat.testBit_or, Nat.one_shiftLeft, Nat.testBit_two_pow, Bool.or_eq_true, h.2 r, decide_eq_true_eq, e2]
    constructor
    · rintro (⟨x, y, a, b, e⟩ | e)
      · exact ⟨x, y, (hD x y).mpr (Or.inl a), b, e⟩
      · exact ⟨x0, y0, (hD x0 y0).mpr (Or.inr ⟨rfl, rfl⟩), e, hP⟩
    · rintro ⟨x, y, a, b, e⟩
      rcases (hD x y).mp a with h | ⟨h1, h2⟩
      · exact Or.inl ⟨x, y, h, b, e⟩
      · subst h1
        exact Or.inr b
theorem svS.skip {co : Nat → List Goods} {V : Nat → Nat → Bool → Bool} {C D : Nat → Nat → Prop} {s x0 y0 : Nat} (h : svS co V C s) (hP : svP co V x0 y0 = false) (hD : ∀ x y, D x y ↔ (C x y ∨ (x = x0 ∧ y = y0))) : svS co V D s := h.cong (fun x y e => by
  rw [hD x y]
  constructor
  · exact Or.inl
  · rintro (q | ⟨q1, q2⟩)
    · exact q
    · subst q1 q2
      rw [hP] at e
      cases e)
theorem svS.uniq {co : Nat → List Goods} {V : Nat → Nat → Bool → Bool} {C : Nat → Nat → Prop} {s t : Nat} (h1 : svS co V C s) (h2 : svS co V C t) : s = t := Nat.eq_of_testBit_eq (fun r => by
  have := (h1.2 r).trans (h2.2 r).symm
  cases e1 : s.testBit r <;> cases e2 : t.testBit r <;> simp_all)
theorem c_starving {co : Nat → List Goods} {V : Nat → Nat → Bool → Bool} {g : GG} {m o : Nat} (hS : STL co V g) : ∃ s, f_X0_starving [.ref 164] (hp g m o) = some (some (.int (nI s)), hp g m o) ∧ svS co V (fun x y => x < 12 ∧ y < 12) s := by
  have key : ∃ s, kl_X0_starving_4 [.ref 164, .int (nI 0), .int (nI 0)] [] (hp g m o) = some (some (.int (nI s)), hp g m o) ∧ svS co V (fun x y => x < 12 ∧ y < 12) s := by
    unfold kl_X0_starving_4
    refine kFor 12 (by unfold FU; omega) (fun i ls h' => ∃ (s : Nat) (u : List Value), ls = [.ref 164, .int (nI s), .int (nI i)] ++ u ∧ h' = hp g m o ∧ svS co V (fun x y => x < i ∧ y < 12) s) (fun r => ∃ s, r = some (some (.int (nI s)), hp g m o) ∧ svS co V (fun x y => x < 12 ∧ y < 12) s) ?_ ?_ 0 _ _ (by omega) ⟨0, [], rfl, rfl, by omega, fun r => ⟨fun h => (by rw [Nat.zero_testBit] at h; cases h), fun ⟨x, y, a, _⟩ => (by have := a.1; omega)⟩⟩
    · rintro s0 ls h' ⟨s, u, rfl, rfl, h1⟩
      have hin : (12 ≤ 12) = True := eq_true (by omega)
      simp (disch := first | assumption | omega) only [KL, KB, KC, KI, KJ, KZ, bI_0, bI_n, nI00, nI10, ne_eq, Classical.not_not, not_true_eq_false, not_false_eq_true, if_true, if_false, ite_not, ite_self, Bool.false_eq_true, nIne1, List.cons_append, List.nil_append, kMask, mask, nIle, hin]
      exact ⟨s, rfl, h1⟩
    · rintro s0 i hi ih ls h' ⟨s, u, rfl, rfl, h1⟩
      have hin : (12 ≤ i) = False := eq_false (by omega)
      have inn : ∀ u, ∃ s', kl_X0_starving_12 s0 ([.ref 164, .int (nI s), .int (nI i), .int (nI 0)] ++ u) [] (hp g m o) = some (some (.int (nI s')), hp g m o) ∧ svS co V (fun x y => x < 12 ∧ y < 12) s' := by
        intro u
        unfold kl_X0_starving_12
        refine kFor 12 (by unfold FU; omega) (fun j ls h' => ∃ (s : Nat) (u : List Value), ls = [.ref 164, .int (nI s), .int (nI i), .int (nI j)] ++ u ∧ h' = hp g m o ∧ svS co V (fun x y => (x < i ∧ y < 12) ∨ (x = i ∧ y < j)) s) (fun r => ∃ s, r = some (some (.int (nI s)), hp g m o) ∧ svS co V (fun x y => x < 12 ∧ y < 12) s) ?_ ?_ 0 _ _ (by omega) ⟨s, u, rfl, rfl, h1.cong (fun x y _ => ⟨Or.inl, fun q => q.elim id (fun q => by omega)⟩)⟩
        · rintro s1 ls h' ⟨s2, u, rfl, rfl, w1⟩
          have hin : (12 ≤ 12) = True := eq_true (by omega)
          have := ih ([.ref 164, .int (nI s2), .int (nI (i + 1))] ++ ([.int (nI 12)])) (hp g m o) ⟨s2, [.int (nI 12)], rfl, rfl, w1.cong (fun x y _ => by omega)⟩
          simp only [List.cons_append, List.nil_append] at this
          simp (disch := first | assumption | omega) only [KL, KB, KC, KI, KJ, KZ, bI_0, bI_n, nI00, nI10, ne_eq, Classical.not_not, not_true_eq_false, not_false_eq_true, if_true, if_false, ite_not, ite_self, Bool.false_eq_true, nIne1, List.cons_append, List.nil_append, kMask, mask, nIle, hin, nI_add]
          exact this
        · rintro s1 k hk ih2 ls h' ⟨s2, u, rfl, rfl, w1⟩
          have hin : (12 ≤ k) = False := eq_false (by omega)
          have s64 := w1.1
          obtain ⟨-, a1, a2⟩ := hS i hi
          obtain ⟨-, b1, b2⟩ := hS k hk
          have c1 : (g 169 i >>> (nI k &&& 31)) &&& nI 1 = bW (ftB co i k && V i k false) := by
            rw [a1, bit1s _ _ (Nat.lt_trans (setN_lt12 _) (by omega)) (by omega), setN_bit, decide_eq_true hk, Bool.true_and]
          have c2 : (g 168 k >>> (nI i &&& 31)) &&& nI 1 = bW (ftB co k i && V k i true) := by
            rw [b2, bit1s _ _ (Nat.lt_trans (setN_lt12 _) (by omega)) (by omega), setN_bit, decide_eq_true hi, Bool.true_and]
          have z00 : (nI 0 = 0) = True := eq_true rfl
          have z10 : (nI 1 = 0) = False := eq_false (by decide)
          have z00' : (nI 0 ≠ 0) = False := eq_false (by decide)
          have z10' : (nI 1 ≠ 0) = True := eq_true (by decide)
          have hD : ∀ x y, ((x < i ∧ y < 12) ∨ (x = i ∧ y < k + 1)) ↔ (((x < i ∧ y < 12) ∨ (x = i ∧ y < k)) ∨ (x = i ∧ y = k)) := fun x y => by omega
          cases q1 : (ftB co i k && V i k false) with
          | false =>
            have hP : svP co V i k = false := by unfold svP; rw [q1]; rfl
            rw [q1] at c1
            simp (disch := first | assumption | omega) only [kb_X0_starving_52, KL, KB, KC, KI, KJ, KZ, bI_0, bI_n, nI00, nI10, ne_eq, Classical.not_not, not_true_eq_false, not_false_eq_true, if_true, if_false, ite_not, ite_self, Bool.false_eq_true, nIne1, List.cons_append, List.nil_append, kMask, mask, nIle, hin, O_co, AR, c1, bW_f, z00, nI_add]
            exact ih2 _ _ ⟨s2, _, rfl, rfl, w1.skip hP hD⟩
          | true =>
            rw [q1] at c1
            cases q2 : (ftB co k i && V k i true) with
            | true =>
              have hP : svP co V i k = false := by unfold svP; rw [q1, q2]; rfl
              rw [q2] at c2
              simp (disch := first | assumption | omega) only [kb_X0_starving_52, KL, KB, KC, KI, KJ, KZ, bI_0, bI_n, nI00, nI10, ne_eq, Classical.not_not, not_true_eq_false, not_false_eq_true, if_true, if_false, ite_not, ite_self, Bool.false_eq_true, nIne1, List.cons_append, List.nil_append, kMask, mask, nIle, hin, O_co, AR, c1, c2, bW_t, z10, z10', nI_add]
              exact ih2 _ _ ⟨s2, _, rfl, rfl, w1.skip hP hD⟩
            | false =>
              have hP : svP co V i k = true := by unfold svP; rw [q1, q2]; rfl
              rw [q2] at c2
              simp (disch := first | assumption | omega) only [kb_X0_starving_52, KL, KB, KC, KI, KJ, KZ, bI_0, bI_n, nI00, nI10, ne_eq, Classical.not_not, not_true_eq_false, not_false_eq_true, if_true, if_false, ite_not, ite_self, Bool.false_eq_true, nIne1, List.cons_append, List.nil_append, kMask, mask, nIle, hin, O_co, AR, c1, c2, bW_t, bW_f, z10, z00', nI_shr, nI_shl, nI_or, nI_add]
              exact ih2 _ _ ⟨s2 ||| 1 <<< (i >>> 1), _, rfl, rfl, w1.or hi hP hD⟩
      have h0 := inn []
      simp only [List.cons_append, List.nil_append] at h0
      match u with
      | [] =>
        simp (disch := first | assumption | omega) only [KL, KB, KC, KI, KJ, KZ, bI_0, bI_n, nI00, nI10, ne_eq, Classical.not_not, not_true_eq_false, not_false_eq_true, if_true, if_false, ite_not, ite_self, Bool.false_eq_true, nIne1, List.cons_append, List.nil_append, kMask, mask, nIle, hin]
        exact h0
      | u0 :: u1 =>
        simp (disch := first | assumption | omega) only [KL, KB, KC, KI, KJ, KZ, bI_0, bI_n, nI00, nI10, ne_eq, Classical.not_not, not_true_eq_false, not_false_eq_true, if_true, if_false, ite_not, ite_self, Bool.false_eq_true, nIne1, List.cons_append, List.nil_append, kMask, mask, nIle, hin]
        exact h0
  obtain ⟨s, e, w⟩ := key
  refine ⟨s, ?_, w⟩
  rw [← e]
  simp (disch := first | assumption | omega) only [f_X0_starving, kb_X0_starving_0, KL, KB, KC, KI, KJ, KZ, bI_0, bI_n, nI00, nI10, ne_eq, Classical.not_not, not_true_eq_false, not_false_eq_true, if_true, if_false, ite_not, ite_self, Bool.false_eq_true, nIne1]
