-- ===== signs: the fewest, of several the least =====
def SG (good : Nat → Bool) (i : Nat) (v : Int32) : Prop := (v = -1 ∧ ∀ s, s < i → good s = false) ∨ ∃ b, b < i ∧ v = nI b ∧ good b = true ∧ ∀ s, s < i → good s = true → popN b < popN s ∨ (popN b = popN s ∧ b ≤ s)
theorem SG.uniq {good : Nat → Bool} {i : Nat} {v w : Int32} (h1 : SG good i v) (h2 : SG good i w) : v = w := by
  rcases h1 with ⟨a1, a2⟩ | ⟨b, b1, b2, b3, b4⟩
  · rcases h2 with ⟨c1, -⟩ | ⟨c, c1, c2, c3, -⟩
    · rw [a1, c1]
    · rw [a2 c c1] at c3; cases c3
  · rcases h2 with ⟨c1, c2⟩ | ⟨c, c1, c2, c3, c4⟩
    · rw [c2 b b1] at b3; cases b3
    · have x := b4 c c1 c3
      have y := c4 b b1 b3
      have : b = c := by omega
      rw [b2, c2, this]
theorem popN_le_n {s n : Nat} (hn : n ≤ 6) (h : s < 2 ^ n) : popN s ≤ n := by
  have e := cntN_ext (p := fun i => s.testBit i) (n := n) (12 - n) (bit_ge h)
  rw [show n + (12 - n) = 12 by omega] at e
  unfold popN
  rw [e]
  exact cntN_le _ _
theorem ag_signs (a0 : Int32) : Ag RT f_X10_signs f_X11_signs [.int a0] := by
  intro j g m o hj hR
  rcases in_cases a0 5 (by decide) with ⟨c, hc, rfl⟩ | h0
  · have hc6 : c < 6 := by omega
    have hX := isX_live c hc6
    have hyc : (nI 0 ≤ nI c ∧ nI c ≤ nI 5) = True := eq_true (in_yes hc (by omega))
    obtain ⟨n, hx⟩ := hR.at hc6
    obtain ⟨n3, n6, en, em, -⟩ := id hx
    obtain ⟨co, fa, U, K, hCK, hMK, hco, hlen, hok⟩ := hR.comeP hc6 hx
    obtain ⟨P, hP, hP2, P8, P64⟩ := shl1 n3 n6
    have hO : ORD g := hR.2.2.2.2.2.1
    generalize hgood : (fun set => decide ((svNum n co (VR n co (faS fa set) (fun r => U (K (fa 3 r)))) (nuN co n - 1)).1 + (svNum n co (VR n co (faS fa set) (fun r => U (K (fa 3 r)))) (nuN co n - 1)).2.1 = 0)) = good
    have hgd : ∀ set, good set = decide ((svNum n co (VR n co (faS fa set) (fun r => U (K (fa 3 r)))) (nuN co n - 1)).1 + (svNum n co (VR n co (faS fa set) (fun r => U (K (fa 3 r)))) (nuN co n - 1)).2.1 = 0) := fun set => by rw [← hgood]
    -- the class
    have hcls : ∃ (g9 : GG) (v : Int32), f_X0_fewestSigns [.ref 164, .ref (17 + 10 * c)] (hp g m o) = some (some (.int v), hp g9 (17 + 10 * c) (OO n)) ∧ KEEP g g9 ∧ g9 188 = g 188 ∧ SG good P v := by
      obtain ⟨g1, g2, e1, e2, p1, p3⟩ := c_signs (m := m) (o := o) hX (by omega) (by omega) n3 n6 hCK hO
      have en2 : g2 (17 + 10 * c) 0 = nI n := by rw [p1 _ (by omega) (by omega) (by omega) (by omega) (by omega)]; exact en
      have key : ∃ (g9 : GG) (v : Int32), kl_X0_fewestSigns_13 [.ref 164, .ref (17 + 10 * c), .int (nI 0)] [] (hp g2 (17 + 10 * c) (OO n)) = some (some (.int v), hp g9 (17 + 10 * c) (OO n)) ∧ (∀ a, a ≠ 168 → a ≠ 169 → a ≠ 170 → g9 a = g2 a) ∧ SG good P v := by
        unfold kl_X0_fewestSigns_13
        refine kFor (n + 1) (by unfold FU; omega) (fun q ls h => ∃ (g' : GG) (u : List Value), ls = [.ref 164, .ref (17 + 10 * c), .int (nI q)] ++ u ∧ h = hp g' (17 + 10 * c) (OO n) ∧ (∀ a, a ≠ 168 → a ≠ 169 → a ≠ 170 → g' a = g2 a) ∧ ∀ s, s < P → good s = true → q ≤ popN s) (fun r => ∃ (g9 : GG) (v : Int32), r = some (some (.int v), hp g9 (17 + 10 * c) (OO n)) ∧ (∀ a, a ≠ 168 → a ≠ 169 → a ≠ 170 → g9 a = g2 a) ∧ SG good P v) ?_ ?_ 0 _ _ (by omega) ⟨g2, [], rfl, rfl, fun _ _ _ _ => rfl, fun _ _ _ => Nat.zero_le _⟩
        · rintro s0 ls h ⟨g', u, rfl, rfl, h1, h2⟩
          have e : g' (17 + 10 * c) 0 = nI n := by rw [h1 _ (by omega) (by omega) (by omega)]; exact en2
          have hlt : (n < n + 1) = True := eq_true (by omega)
          simp (disch := first | assumption | omega) only [KL, KB, KC, KI, KJ, KZ, bI_0, bI_n, nI00, nI10, ne_eq, Classical.not_not, not_true_eq_false, not_false_eq_true, if_true, if_false, ite_not, ite_self, Bool.false_eq_true, nIne1, List.cons_append, List.nil_append, kMask, mask, XO, e, nIlt, hlt]
          refine ⟨g', -1, rfl, h1, Or.inl ⟨rfl, fun s hs => ?_⟩⟩
          cases hb : good s with
          | false => rfl
          | true =>
            have := h2 s hs hb
            have := popN_le_n n6 (by omega : s < 2 ^ n)
            omega
        · rintro s0 q hq ih ls h ⟨g', u, rfl, rfl, h1, h2⟩
          have e : g' (17 + 10 * c) 0 = nI n := by rw [h1 _ (by omega) (by omega) (by omega)]; exact en2
          have hlt : (n < q) = False := eq_false (by omega)
          have inner : ∀ u : List Value, ∃ (g9 : GG) (v : Int32), kl_X0_fewestSigns_23 s0 ([.ref 164, .ref (17 + 10 * c), .int (nI q), .int (nI 0)] ++ u) [] (hp g' (17 + 10 * c) (OO n)) = some (some (.int v), hp g9 (17 + 10 * c) (OO n)) ∧ (∀ a, a ≠ 168 → a ≠ 169 → a ≠ 170 → g9 a = g2 a) ∧ SG good P v := by
            intro u
            unfold kl_X0_fewestSigns_23
            refine kFor P (by unfold FU; omega) (fun i ls h => ∃ (g' : GG) (u : List Value), ls = [.ref 164, .ref (17 + 10 * c), .int (nI q), .int (nI i)] ++ u ∧ h = hp g' (17 + 10 * c) (OO n) ∧ (∀ a, a ≠ 168 → a ≠ 169 → a ≠ 170 → g' a = g2 a) ∧ ∀ s, s < i → popN s = q → good s = false) (fun r => ∃ (g9 : GG) (v : Int32), r = some (some (.int v), hp g9 (17 + 10 * c) (OO n)) ∧ (∀ a, a ≠ 168 → a ≠ 169 → a ≠ 170 → g9 a = g2 a) ∧ SG good P v) ?_ ?_ 0 _ _ (by omega) ⟨g', u, rfl, rfl, h1, fun s hs => by omega⟩
            · rintro s1 ls h ⟨g', u, rfl, rfl, w1, w2⟩
              have e : g' (17 + 10 * c) 0 = nI n := by rw [w1 _ (by omega) (by omega) (by omega)]; exact en2
              have hin : (P ≤ P) = True := eq_true (by omega)
              simp (disch := first | assumption | omega) only [KL, KB, KC, KI, KJ, KZ, bI_0, bI_n, nI00, nI10, ne_eq, Classical.not_not, not_true_eq_false, not_false_eq_true, if_true, if_false, ite_not, ite_self, Bool.false_eq_true, nIne1, List.cons_append, List.nil_append, kMask, mask, XO, e, nI_shl, hP, nIle, hin, nI_add]
              refine ih _ _ ⟨g', [.int (nI P)], rfl, rfl, w1, fun s hs hb => ?_⟩
              have a := h2 s hs hb
              have b : popN s ≠ q := fun q' => by rw [w2 s hs q'] at hb; cases hb
              omega
            · rintro s1 i hi ih2 ls h ⟨g', u, rfl, rfl, w1, w2⟩
              have e : g' (17 + 10 * c) 0 = nI n := by rw [w1 _ (by omega) (by omega) (by omega)]; exact en2
              have hin : (P ≤ i) = False := eq_false (by omega)
              have hbc := fun h => c_bitCount i (by omega) h
              have hpl := popN_le i
              by_cases hpq : popN i = q
              · have hpq' : (popN i = q) = True := eq_true hpq
                obtain ⟨g3, e3, q1, q2⟩ := p3 g' i w1 (by omega)
                obtain ⟨g4, e4, q3⟩ := c_isEverBad hX (by omega) n3 n6 hlen hco q2
                rw [← hgd i] at e4
                have z4 : ∀ a, a ≠ 168 → a ≠ 169 → a ≠ 170 → g4 a = g2 a := fun a a1 a2 a3 => by rw [q3 a a3, q1 a a1 a2]; exact w1 a a1 a2 a3
                cases hb : good i with
                | true =>
                  rw [hb] at e4
                  have hz : bW (!true) = nI 0 := rfl
                  simp (disch := first | assumption | omega) only [kb_X0_fewestSigns_56, KL, KB, KC, KI, KJ, KZ, bI_0, bI_n, nI00, nI10, ne_eq, Classical.not_not, not_true_eq_false, not_false_eq_true, if_true, if_false, ite_not, ite_self, Bool.false_eq_true, nIne1, List.cons_append, List.nil_append, kMask, mask, XO, O_co, e, nI_shl, hP, nIle, hin, hbc, nIeq, hpq', e3, e4, hz]
                  refine ⟨g4, nI i, rfl, z4, Or.inr ⟨i, hi, rfl, hb, fun s hs hsb => ?_⟩⟩
                  have a := h2 s hs hsb
                  by_cases hsq : popN s = q
                  · right
                    refine ⟨by omega, ?_⟩
                    apply Nat.le_of_not_lt
                    intro hlt
                    rw [w2 s hlt hsq] at hsb
                    cases hsb
                  · left; omega
                | false =>
                  rw [hb] at e4
                  have hz : bW (!false) = nI 1 := rfl
                  simp (disch := first | assumption | omega) only [kb_X0_fewestSigns_56, KL, KB, KC, KI, KJ, KZ, bI_0, bI_n, nI00, nI10, ne_eq, Classical.not_not, not_true_eq_false, not_false_eq_true, if_true, if_false, ite_not, ite_self, Bool.false_eq_true, nIne1, List.cons_append, List.nil_append, kMask, mask, XO, O_co, e, nI_shl, hP, nIle, hin, hbc, nIeq, hpq', e3, e4, hz, nI_add]
                  refine ih2 _ _ ⟨g4, [], rfl, rfl, z4, fun s hs hsq => ?_⟩
                  by_cases e : s = i
                  · subst e; exact hb
                  · exact w2 s (by omega) hsq
              · have hpq' : (popN i = q) = False := eq_false hpq
                simp (disch := first | assumption | omega) only [kb_X0_fewestSigns_56, KL, KB, KC, KI, KJ, KZ, bI_0, bI_n, nI00, nI10, ne_eq, Classical.not_not, not_true_eq_false, not_false_eq_true, if_true, if_false, ite_not, ite_self, Bool.false_eq_true, nIne1, List.cons_append, List.nil_append, kMask, mask, XO, O_co, e, nI_shl, hP, nIle, hin, hbc, nIeq, hpq', nI_add]
                refine ih2 _ _ ⟨g', [], rfl, rfl, w1, fun s hs hsq => ?_⟩
                by_cases e : s = i
                · subst e; exact absurd hsq hpq
                · exact w2 s (by omega) hsq
          have h0 := inner []
          simp only [List.cons_append, List.nil_append] at h0
          match u with
          | [] =>
            simp (disch := first | assumption | omega) only [KL, KB, KC, KI, KJ, KZ, bI_0, bI_n, nI00, nI10, ne_eq, Classical.not_not, not_true_eq_false, not_false_eq_true, if_true, if_false, ite_not, ite_self, Bool.false_eq_true, nIne1, List.cons_append, List.nil_append, kMask, mask, XO, e, nIlt, hlt]
            exact h0
          | u0 :: u1 =>
            simp (disch := first | assumption | omega) only [KL, KB, KC, KI, KJ, KZ, bI_0, bI_n, nI00, nI10, ne_eq, Classical.not_not, not_true_eq_false, not_false_eq_true, if_true, if_false, ite_not, ite_self, Bool.false_eq_true, nIne1, List.cons_append, List.nil_append, kMask, mask, XO, e, nIlt, hlt]
            exact h0
      obtain ⟨g9, v, e9, w1, w2⟩ := key
      refine ⟨g9, v, ?_, KEEP.of (fun a x y z w => by rw [w1 a (by omega) (by omega) (by omega), p1 a (by omega) (by omega) (by omega) (by omega) (by omega)]) (fun i _ => by rw [w1 188 (by omega) (by omega) (by omega), p1 188 (by omega) (by omega) (by omega) (by omega) (by omega)]), by rw [w1 188 (by omega) (by omega) (by omega), p1 188 (by omega) (by omega) (by omega) (by omega) (by omega)], w2⟩
      rw [← e9]
      simp (disch := first | assumption | omega) only [f_X0_fewestSigns, kb_X0_fewestSigns_0, KL, KB, KC, KI, KJ, KZ, bI_0, bI_n, nI00, nI10, ne_eq, Classical.not_not, not_true_eq_false, not_false_eq_true, if_true, if_false, ite_not, ite_self, Bool.false_eq_true, nIne1, O_co, e1, e2]
    obtain ⟨g9, v, e9, k9, z9, hv⟩ := hcls
    have z98 : g9 189 = g 189 := k9.2.2.2.1
    -- the model
    have hmod : ∃ g8 : GG, kl_X11_signs_13 [.ref 188, .int (nI c), .int (-1), .int (nI 0)] [] (hp g9 (17 + 10 * c) (OO n)) = some (some (.int v), hp g8 (17 + 10 * c) (OO n)) ∧ (∀ a, a ≠ 188 → (a < 194 ∨ 207 < a) → g8 a = g9 a) ∧ ∀ i, (i < 37 ∨ 45 < i) → i ≠ 20 → g8 188 i = g9 188 i := by
      unfold kl_X11_signs_13
      refine kFor P (by unfold FU; omega) (fun i ls h => ∃ (g' : GG) (w : Int32) (u : List Value), ls = [.ref 188, .int (nI c), .int w, .int (nI i)] ++ u ∧ h = hp g' (17 + 10 * c) (OO n) ∧ SG good i w ∧ (∀ a, a ≠ 188 → (a < 194 ∨ 207 < a) → g' a = g9 a) ∧ ∀ i, (i < 37 ∨ 45 < i) → i ≠ 20 → g' 188 i = g9 188 i) (fun r => ∃ g8 : GG, r = some (some (.int v), hp g8 (17 + 10 * c) (OO n)) ∧ (∀ a, a ≠ 188 → (a < 194 ∨ 207 < a) → g8 a = g9 a) ∧ ∀ i, (i < 37 ∨ 45 < i) → i ≠ 20 → g8 188 i = g9 188 i) ?_ ?_ 0 _ _ (by omega) ⟨g9, -1, [], rfl, rfl, Or.inl ⟨rfl, fun s hs => by omega⟩, fun _ _ _ => rfl, fun _ _ _ => rfl⟩
      · rintro s0 ls h ⟨g', w, u, rfl, rfl, hw, h1, h2⟩
        have hown := m_own g' (17 + 10 * c) (OO n) c 552 (by omega)
        rw [h1 189 (by omega) (by omega), z98, em] at hown
        have hin : (P ≤ P) = True := eq_true (by omega)
        simp (disch := first | assumption | omega) only [KL, KB, KC, KI, KJ, KZ, bI_0, bI_n, nI00, nI10, ne_eq, Classical.not_not, not_true_eq_false, not_false_eq_true, if_true, if_false, ite_not, ite_self, Bool.false_eq_true, nIne1, List.cons_append, List.nil_append, kMask, mask, O_mo, hown, nI_shl, hP, nIle, hin]
        exact ⟨g', by rw [hv.uniq hw], h1, h2⟩
      · rintro s0 i hi ih ls h ⟨g', w, u, rfl, rfl, hw, h1, h2⟩
        have hown := m_own g' (17 + 10 * c) (OO n) c 552 (by omega)
        rw [h1 189 (by omega) (by omega), z98, em] at hown
        have hin : (P ≤ i) = False := eq_false (by omega)
        have z8' : g' 189 = g 189 := by rw [h1 189 (by omega) (by omega)]; exact z98
        have hMK0 : MK (10 + 560 * c) n co fa U K g' := hMK.congr (by omega) (by omega) (FR8.of z8')
        obtain ⟨g4, e4, r1, r2, r3, r4⟩ := hMK0.base (m := 17 + 10 * c) (o := OO n) hc6 n6
        -- the try of this set, when it is tried
        have tryI : (good i = true → SG good (i + 1) (nI i)) → (good i = false → SG good (i + 1) w) → ∃ g8 : GG, kb_X11_signs_46 s0 [.ref 188, .int (nI c), .int w, .int (nI i)] [] (hp g' (17 + 10 * c) (OO n)) = some (some (.int v), hp g8 (17 + 10 * c) (OO n)) ∧ (∀ a, a ≠ 188 → (a < 194 ∨ 207 < a) → g8 a = g9 a) ∧ ∀ i, (i < 37 ∨ 45 < i) → i ≠ 20 → g8 188 i = g9 188 i := by
          intro hyes hno
          have inner : ∃ g8 : GG, kl_X11_signs_54 s0 [.ref 188, .int (nI c), .int w, .int (nI i), .int (nI 0)] [] (hp g4 (17 + 10 * c) (OO n)) = some (some (.int v), hp g8 (17 + 10 * c) (OO n)) ∧ (∀ a, a ≠ 188 → (a < 194 ∨ 207 < a) → g8 a = g9 a) ∧ ∀ i, (i < 37 ∨ 45 < i) → i ≠ 20 → g8 188 i = g9 188 i := by
            unfold kl_X11_signs_54
            refine kFor n (by unfold FU; omega) (fun r ls h => ∃ (g5 : GG), ls = [.ref 188, .int (nI c), .int w, .int (nI i), .int (nI r)] ∧ h = hp g5 (17 + 10 * c) (OO n) ∧ (∀ a, a ≠ 198 → g5 a = g4 a) ∧ ∀ q, q < r → g5 198 q = nI (bN (i.testBit q))) (fun r => ∃ g8 : GG, r = some (some (.int v), hp g8 (17 + 10 * c) (OO n)) ∧ (∀ a, a ≠ 188 → (a < 194 ∨ 207 < a) → g8 a = g9 a) ∧ ∀ i, (i < 37 ∨ 45 < i) → i ≠ 20 → g8 188 i = g9 188 i) ?_ ?_ 0 _ _ (by omega) ⟨g4, rfl, rfl, fun _ _ => rfl, fun q hq => by omega⟩
            · rintro s1 ls h ⟨g5, rfl, rfl, w1, w2⟩
              have en5 : g5 188 20 = nI n := by rw [w1 188 (by omega)]; exact r3.1
              have hin : (n ≤ n) = True := eq_true (by omega)
              have hM5 : MO c n co g5 := r3.congr (by rw [w1 188 (by omega)]) (w1 206 (by omega)) (w1 189 (by omega))
              have h34 : g5 188 34 = -1 := by rw [w1 188 (by omega), r2 34 (by omega), h2 34 (by omega) (by omega), z9]; exact hR.2.2.2.2.2.2.2.1
              have h33 : g5 188 33 = -1 := by rw [w1 188 (by omega), r2 33 (by omega), h2 33 (by omega) (by omega), z9]; exact hR.2.2.2.2.2.2.1
              have h35 : g5 188 35 = nI 0 := by rw [w1 188 (by omega), r2 35 (by omega), h2 35 (by omega) (by omega), z9]; exact hR.2.2.2.2.2.2.2.2
              have z58 : g5 189 = g' 189 := by rw [w1 189 (by omega), r1 189 (by omega) (by omega)]
              have hV := mwv_of (m := 17 + 10 * c) (o := OO n) (fa := faS fa i) (rl := fun r => U (K (fa 3 r))) (kr := fun r => K (fa 3 r)) n3 n6 hlen hok hM5.1 (fun r hr => by
                rw [w1 196 (by omega), w1 197 (by omega)]
                exact ⟨(r4 r hr).1, (r4 r hr).2.1, w2 r hr⟩) h35 h33 (hMK0.rules n6 z58 (fun r hr => by rw [w1 199 (by omega)]; exact (r4 r hr).2.2.2) h34)
              obtain ⟨g6, e6, x1, -⟩ := m_thru (m := 17 + 10 * c) (o := OO n) true hc6 n3 n6 hM5 hco hV
              rw [← hgd i] at e6
              have hbt : bW true = nI 1 := rfl
              have F6 : (∀ a, a ≠ 188 → (a < 194 ∨ 207 < a) → g6 a = g9 a) ∧ ∀ i, (i < 37 ∨ 45 < i) → i ≠ 20 → g6 188 i = g9 188 i := ⟨fun a a1 a2 => by rw [x1.1 a a1 (by omega) (by omega) (by omega) (by omega) (by omega) (by omega) (by omega) (by omega), w1 a (by omega), r1 a a1 (by omega)]; exact h1 a a1 a2, fun i a b => by rw [x1.2 i a, w1 188 (by omega), r2 i b]; exact h2 i a b⟩
              cases hb : good i with
              | true =>
                rw [hb, hbt] at e6
                simp (disch := first | assumption | omega) only [kb_X11_signs_96, kb_X11_signs_97, KL, KB, KC, KI, KJ, KZ, bI_0, bI_n, nI00, nI10, ne_eq, Classical.not_not, not_true_eq_false, not_false_eq_true, if_true, if_false, ite_not, ite_self, Bool.false_eq_true, nIne1, kMask, mask, O_mo, en5, nIle, hin, e6, nI_add]
                exact ih _ _ ⟨g6, nI i, [.int (nI n)], rfl, rfl, hyes hb, F6⟩
              | false =>
                rw [hb, hbt] at e6
                simp (disch := first | assumption | omega) only [kb_X11_signs_96, kb_X11_signs_97, KL, KB, KC, KI, KJ, KZ, bI_0, bI_n, nI00, nI10, ne_eq, Classical.not_not, not_true_eq_false, not_false_eq_true, if_true, if_false, ite_not, ite_self, Bool.false_eq_true, nIne1, kMask, mask, O_mo, en5, nIle, hin, e6, bW_f, nI_add]
                exact ih _ _ ⟨g6, w, [.int (nI n)], rfl, rfl, hno hb, F6⟩
            · rintro s1 r hr ih2 ls h ⟨g5, rfl, rfl, w1, w2⟩
              have en5 : g5 188 20 = nI n := by rw [w1 188 (by omega)]; exact r3.1
              have hin : (n ≤ r) = False := eq_false (by omega)
              have hbit : (i >>> r) &&& 1 = bN (i.testBit r) := by rw [and1b, Nat.testBit_shiftRight, Nat.add_zero]
              simp (disch := first | assumption | omega) only [KL, KB, KC, KI, KJ, KZ, bI_0, bI_n, nI00, nI10, ne_eq, Classical.not_not, not_true_eq_false, not_false_eq_true, if_true, if_false, ite_not, ite_self, Bool.false_eq_true, nIne1, kMask, mask, O_mo, AR, en5, nIle, hin, nI_shr, nI_and, hbit, nI_add]
              refine ih2 _ _ ⟨_, rfl, rfl, fun a ha => by rw [uN ha]; exact w1 a ha, fun q hq => ?_⟩
              by_cases e : q = r
              · subst e; exact uS
              · rw [uO (Or.inr e)]; exact w2 q (by omega)
          obtain ⟨g8, e8, w8⟩ := inner
          refine ⟨g8, ?_, w8⟩
          rw [← e8]
          simp (disch := first | assumption | omega) only [kb_X11_signs_46, KL, KB, KC, KI, KJ, KZ, bI_0, bI_n, nI00, nI10, ne_eq, Classical.not_not, not_true_eq_false, not_false_eq_true, if_true, if_false, ite_not, ite_self, Bool.false_eq_true, nIne1, O_mo, e4]
        have hci := fun h => m_count0 i (by omega) h
        rcases id hw with ⟨a1, a2⟩ | ⟨b, b1, b2, b3, b4⟩
        · have ht := tryI (fun hb => Or.inr ⟨i, by omega, rfl, hb, fun s hs hsb => by
            by_cases e : s = i
            · subst e; exact Or.inr ⟨rfl, Nat.le_refl _⟩
            · rw [a2 s (by omega)] at hsb; cases hsb⟩) (fun hb => Or.inl ⟨a1, fun s hs => by
            by_cases e : s = i
            · subst e; exact hb
            · exact a2 s (by omega)⟩)
          rw [a1] at ht
          have hw' : (w = -1) = True := eq_true a1
          subst a1
          simp (disch := first | assumption | omega) only [KL, KB, KC, KI, KJ, KZ, bI_0, bI_n, nI00, nI10, ne_eq, Classical.not_not, not_true_eq_false, not_false_eq_true, if_true, if_false, ite_not, ite_self, Bool.false_eq_true, nIne1, List.cons_append, List.nil_append, kMask, mask, O_mo, hown, nI_shl, hP, nIle, hin, eq_self]
          exact ht
        · have hcb := fun h => m_count0 b (by omega) h
          have p1 := popN_le i
          have p2 := popN_le b
          subst b2
          by_cases hlt : popN i < popN b
          · have hlt' : (popN i < popN b) = True := eq_true hlt
            have ht := tryI (fun hb => Or.inr ⟨i, by omega, rfl, hb, fun s hs hsb => by
              by_cases e : s = i
              · subst e; exact Or.inr ⟨rfl, Nat.le_refl _⟩
              · have := b4 s (by omega) hsb
                left
                omega⟩) (fun hb => Or.inr ⟨b, by omega, rfl, b3, fun s hs hsb => by
              by_cases e : s = i
              · subst e; rw [hb] at hsb; cases hsb
              · exact b4 s (by omega) hsb⟩)
            simp (disch := first | assumption | omega) only [kb_X11_signs_97, KL, KB, KC, KI, KJ, KZ, bI_0, bI_n, nI00, nI10, ne_eq, Classical.not_not, not_true_eq_false, not_false_eq_true, if_true, if_false, ite_not, ite_self, Bool.false_eq_true, nIne1, List.cons_append, List.nil_append, kMask, mask, O_mo, hown, nI_shl, hP, nIle, hin, nIne1, hci, hcb, nIlt, hlt']
            exact ht
          · have hlt' : (popN i < popN b) = False := eq_false hlt
            simp (disch := first | assumption | omega) only [kb_X11_signs_97, KL, KB, KC, KI, KJ, KZ, bI_0, bI_n, nI00, nI10, ne_eq, Classical.not_not, not_true_eq_false, not_false_eq_true, if_true, if_false, ite_not, ite_self, Bool.false_eq_true, nIne1, List.cons_append, List.nil_append, kMask, mask, O_mo, hown, nI_shl, hP, nIle, hin, nIne1, hci, hcb, nIlt, hlt', nI_add]
            refine ih _ _ ⟨g', nI b, [], rfl, rfl, Or.inr ⟨b, by omega, rfl, b3, fun s hs hsb => ?_⟩, h1, h2⟩
            by_cases e : s = i
            · subst e; omega
            · exact b4 s (by omega) hsb
    obtain ⟨g8, e8, w1, w2⟩ := hmod
    refine ⟨v, g9, 17 + 10 * c, OO n, g8, ?_, ?_, hR.keep (k9.tr (KEEP.of (fun a x y z w => w1 a (by omega) (by omega)) (fun i hi => w2 i (by omega) (by omega))))⟩
    · simp (disch := first | assumption | omega) only [f_X10_signs, kb_X10_signs_22, kb_X10_signs_0, KL, KB, KC, KI, KJ, KZ, bI_0, bI_n, nI00, nI10, ne_eq, Classical.not_not, not_true_eq_false, not_false_eq_true, if_true, if_false, ite_not, ite_self, Bool.false_eq_true, nIne1, O_fp, O_co, XO, c_at g m o c hc6, e9]
    · simp (disch := first | assumption | omega) only [f_X11_signs, kb_X11_signs_0, KL, KB, KC, KI, KJ, KZ, bI_0, bI_n, nI00, nI10, ne_eq, Classical.not_not, not_true_eq_false, not_false_eq_true, if_true, if_false, ite_not, ite_self, Bool.false_eq_true, nIne1, O_mo, m_isCrossing, hyc, e8]
  · refine ⟨-1, g, m, o, g, ?_, ?_, RT_mono _ _ _ _ hR⟩
    · simp (disch := first | assumption | omega) only [f_X10_signs, kb_X10_signs_22, kb_X10_signs_0, KL, KB, KC, KI, KJ, KZ, bI_0, bI_n, nI00, nI10, ne_eq, Classical.not_not, not_true_eq_false, not_false_eq_true, if_true, if_false, ite_not, ite_self, Bool.false_eq_true, nIne1, O_fp, c_atN g m o a0 h0]
    · simp (disch := first | assumption | omega) only [f_X11_signs, kb_X11_signs_0, KL, KB, KC, KI, KJ, KZ, bI_0, bI_n, nI00, nI10, ne_eq, Classical.not_not, not_true_eq_false, not_false_eq_true, if_true, if_false, ite_not, ite_self, Bool.false_eq_true, nIne1, O_mo, m_isCrossing, h0]
