-- ===== mutual: the model's loops; the agreement =====
theorem m_mut74 {n s i k c x T N : Nat} {W : Nat → Nat → Bool} {g0 : GG} {m o : Nat} (n6 : n ≤ 6) (hx : x < n) (hL : ML n s g0) (hW : MW n s W g0 m o) (s24 s41 s62 : KK) (Q : RS → Prop) (fin : ∀ g' : GG, SM g0 g' → Q (s62 [.ref 188, .int (nI c), .int (nI (T + sumN (fun y => bN (mmB s W x y)) x)), .int (nI N), .int (nI i), .int (nI k), .int (nI (x + 1)), .int (nI x)] [] (hp g' m o))) (g : GG) (hg : SM g0 g) : Q (kl_X11_mutual_74 s24 s41 s62 [.ref 188, .int (nI c), .int (nI T), .int (nI N), .int (nI i), .int (nI k), .int (nI x), .int (nI 0)] [] (hp g m o)) := by
  unfold kl_X11_mutual_74
  have x6 : x < 6 := by omega
  refine kFor x (by unfold FU; omega) (fun y ls h => ∃ g', ls = [.ref 188, .int (nI c), .int (nI (T + sumN (fun y => bN (mmB s W x y)) y)), .int (nI N), .int (nI i), .int (nI k), .int (nI x), .int (nI y)] ∧ h = hp g' m o ∧ SM g0 g') Q ?_ ?_ 0 _ _ (by omega) ⟨g, rfl, rfl, hg⟩
  · rintro s0 ls h ⟨g', rfl, rfl, h1⟩
    have hin : (x ≤ x) = True := eq_true (by omega)
    simp (disch := first | assumption | omega) only [KL, KB, KC, KI, KJ, KZ, bI_0, bI_n, nI00, nI10, ne_eq, Classical.not_not, not_true_eq_false, not_false_eq_true, if_true, if_false, ite_not, ite_self, Bool.false_eq_true, nIne1, kMask, mask, mask_n, nIle, hin, nI_add]
    exact fin g' h1
  · rintro s0 y hy ih ls h ⟨g', rfl, rfl, h1⟩
    have hin : (x ≤ y) = False := eq_false (by omega)
    have y6 : y < 6 := by omega
    have hL' := hL.sm h1
    have hss : sumN (fun y => bN (mmB s W x y)) (y + 1) = sumN (fun y => bN (mmB s W x y)) y + bN (mmB s W x y) := rfl
    have hex := hL'.2 x hx
    have hey := hL'.2 y (by omega)
    have zt : (bW true = 0) = False := eq_false (by decide)
    have zf : (bW false = 0) = True := eq_true rfl
    have no : mmB s W x y = false → ∀ g2 : GG, SM g0 g2 → Q (s0 [.ref 188, .int (nI c), .int (nI (T + sumN (fun y => bN (mmB s W x y)) y + 0)), .int (nI N), .int (nI i), .int (nI k), .int (nI x), .int (nI (y + 1))] [] (hp g2 m o)) := fun hb g2 h2 => ih _ _ ⟨g2, by rw [hss, hb]; rfl, rfl, h2⟩
    cases sx : s.testBit x with
    | false =>
      rw [sx] at hex
      have := no (by unfold mmB; rw [sx]; rfl) g' h1
      simp (disch := first | assumption | omega) only [kb_X11_mutual_128, kb_X11_mutual_129, KL, KB, KC, KI, KJ, KZ, bI_0, bI_n, nI00, nI10, ne_eq, Classical.not_not, not_true_eq_false, not_false_eq_true, if_true, if_false, ite_not, ite_self, Bool.false_eq_true, nIne1, kMask, mask, mask_n, O_mo, AR, nIle, hin, hex, zf, nI_add]
      exact this
    | true =>
      rw [sx] at hex
      cases sy : s.testBit y with
      | false =>
        rw [sy] at hey
        have := no (by unfold mmB; rw [sy, Bool.and_false]; rfl) g' h1
        simp (disch := first | assumption | omega) only [kb_X11_mutual_128, kb_X11_mutual_129, KL, KB, KC, KI, KJ, KZ, bI_0, bI_n, nI00, nI10, ne_eq, Classical.not_not, not_true_eq_false, not_false_eq_true, if_true, if_false, ite_not, ite_self, Bool.false_eq_true, nIne1, kMask, mask, mask_n, O_mo, AR, nIle, hin, hex, hey, zt, zf, nI_add]
        exact this
      | true =>
        rw [sy] at hey
        obtain ⟨g2, e2, q2⟩ := hW g' h1 x y hx (by omega) (by omega) sx sy
        have h2 := h1.tr q2
        cases w1 : W x y with
        | false =>
          rw [w1] at e2
          have := no (by unfold mmB; rw [w1, Bool.and_false]; rfl) g2 h2
          simp (disch := first | assumption | omega) only [kb_X11_mutual_128, kb_X11_mutual_129, KL, KB, KC, KI, KJ, KZ, bI_0, bI_n, nI00, nI10, ne_eq, Classical.not_not, not_true_eq_false, not_false_eq_true, if_true, if_false, ite_not, ite_self, Bool.false_eq_true, nIne1, kMask, mask, mask_n, O_mo, AR, nIle, hin, hex, hey, e2, zt, zf, nI_add]
          exact this
        | true =>
          rw [w1] at e2
          obtain ⟨g3, e3, q3⟩ := hW g2 h2 y x (by omega) hx (by omega) sy sx
          have h3 := h2.tr q3
          cases w2 : W y x with
          | false =>
            rw [w2] at e3
            have := no (by unfold mmB; rw [w2, Bool.and_false]) g3 h3
            simp (disch := first | assumption | omega) only [kb_X11_mutual_128, kb_X11_mutual_129, KL, KB, KC, KI, KJ, KZ, bI_0, bI_n, nI00, nI10, ne_eq, Classical.not_not, not_true_eq_false, not_false_eq_true, if_true, if_false, ite_not, ite_self, Bool.false_eq_true, nIne1, kMask, mask, mask_n, O_mo, AR, nIle, hin, hex, hey, e2, e3, zt, zf, nI_add]
            exact this
          | true =>
            rw [w2] at e3
            have hb : mmB s W x y = true := by unfold mmB; rw [sx, sy, w1, w2]; rfl
            have := ih [.ref 188, .int (nI c), .int (nI (T + sumN (fun y => bN (mmB s W x y)) y + 1)), .int (nI N), .int (nI i), .int (nI k), .int (nI x), .int (nI (y + 1))] (hp g3 m o) ⟨g3, by rw [hss, hb]; rfl, rfl, h3⟩
            simp (disch := first | assumption | omega) only [kb_X11_mutual_128, kb_X11_mutual_129, KL, KB, KC, KI, KJ, KZ, bI_0, bI_n, nI00, nI10, ne_eq, Classical.not_not, not_true_eq_false, not_false_eq_true, if_true, if_false, ite_not, ite_self, Bool.false_eq_true, nIne1, kMask, mask, mask_n, O_mo, AR, nIle, hin, hex, hey, e2, e3, zt, zf, nI_add]
            exact this
theorem m_mut62 {n s i k c T N : Nat} {W : Nat → Nat → Bool} {g0 : GG} {m o : Nat} (n6 : n ≤ 6) (hL : ML n s g0) (hW : MW n s W g0 m o) (s24 s41 : KK) (Q : RS → Prop) (fin : ∀ g' : GG, SM g0 g' → Q (s41 [.ref 188, .int (nI c), .int (nI (T + sumN (fun x => sumN (fun y => bN (mmB s W x y)) x) n)), .int (nI N), .int (nI i), .int (nI (k + 1)), .int (nI n)] [] (hp g' m o))) : Q (kl_X11_mutual_62 s24 s41 [.ref 188, .int (nI c), .int (nI T), .int (nI N), .int (nI i), .int (nI k), .int (nI 0)] [] (hp g0 m o)) := by
  unfold kl_X11_mutual_62
  refine kFor n (by unfold FU; omega) (fun x ls h => ∃ (g' : GG) (u : List Value), ls = [.ref 188, .int (nI c), .int (nI (T + sumN (fun x => sumN (fun y => bN (mmB s W x y)) x) x)), .int (nI N), .int (nI i), .int (nI k), .int (nI x)] ++ u ∧ h = hp g' m o ∧ SM g0 g') Q ?_ ?_ 0 _ _ (by omega) ⟨g0, [], rfl, rfl, SM.rfl'⟩
  · rintro s0 ls h ⟨g', u, rfl, rfl, h1⟩
    have hin : (n ≤ n) = True := eq_true (by omega)
    have e20 := (hL.sm h1).1
    simp (disch := first | assumption | omega) only [KL, KB, KC, KI, KJ, KZ, bI_0, bI_n, nI00, nI10, ne_eq, Classical.not_not, not_true_eq_false, not_false_eq_true, if_true, if_false, ite_not, ite_self, Bool.false_eq_true, nIne1, List.cons_append, List.nil_append, kMask, mask, mask_n, O_mo, e20, nIle, hin, nI_add]
    exact fin g' h1
  · rintro s0 x hx ih ls h ⟨g', u, rfl, rfl, h1⟩
    have hin : (n ≤ x) = False := eq_false (by omega)
    have e20 := (hL.sm h1).1
    have h74 := m_mut74 (i := i) (k := k) (c := c) (T := T + sumN (fun x => sumN (fun y => bN (mmB s W x y)) x) x) (N := N) n6 hx hL hW s24 s41 s0 Q (fun g2 h2 => ih _ _ ⟨g2, [.int (nI x)], by rw [Nat.add_assoc]; rfl, rfl, h2⟩) g' h1
    simp (disch := first | assumption | omega) only [KL, KB, KC, KI, KJ, KZ, bI_0, bI_n, nI00, nI10, ne_eq, Classical.not_not, not_true_eq_false, not_false_eq_true, if_true, if_false, ite_not, ite_self, Bool.false_eq_true, nIne1, List.cons_append, List.nil_append, kMask, mask, mask_n, O_mo, e20, nIle, hin]
    exact h74
theorem m_mut24 {c n : Nat} {co : Nat → List Goods} {V : Nat → Nat → Bool → Bool} {g0 : GG} {m o : Nat} (hc : c < 6) (n3 : 3 ≤ n) (n6 : n ≤ 6) (hM : MO c n co g0) (hco : ∀ r, n ≤ r → co r = []) (hV : MWV n co V g0 m o) : ∃ g', kl_X11_mutual_24 [.ref 188, .int (nI c), .int (nI 0), .int (nI (nuN co n)), .int (nI 1)] [] (hp g0 m o) = some (some (.int (nI (mutN n co V (nuN co n)))), hp g' m o) ∧ BAS g0 g' := by
  have hlen : ∀ r, (co r).length ≤ 2 := fun r => by
    by_cases q : r < n
    · exact (hM.2 r q).1
    · rw [hco r (by omega)]; show 0 ≤ 2; omega
  have hpos := nuN_pos co n
  have hN2 : nuN co n ≤ 729 := Nat.le_trans (nuN_le co hlen n) (by have : (3 : Nat) ^ n ≤ 3 ^ 6 := Nat.pow_le_pow_right (by omega) n6; omega)
  have eo := fun h => m_orders n n6 h
  have hm24 := ordMany_le (n := n) n6
  unfold kl_X11_mutual_24
  refine kFor (nuN co n) (by unfold FU; omega) (fun i ls h => ∃ (g' : GG) (u : List Value), ls = [.ref 188, .int (nI c), .int (nI (mutN n co V i)), .int (nI (nuN co n)), .int (nI i)] ++ u ∧ h = hp g' m o ∧ BAS g0 g') (fun r => ∃ g', r = some (some (.int (nI (mutN n co V (nuN co n)))), hp g' m o) ∧ BAS g0 g') ?_ ?_ 1 _ _ hpos ⟨g0, [], ?_, rfl, BAS.rfl'⟩
  · rintro s0 ls h ⟨g', u, rfl, rfl, hB⟩
    have hin : (nuN co n ≤ nuN co n) = True := eq_true (by omega)
    simp (disch := first | assumption | omega) only [KL, KB, KC, KI, KJ, KZ, bI_0, bI_n, nI00, nI10, ne_eq, Classical.not_not, not_true_eq_false, not_false_eq_true, if_true, if_false, ite_not, ite_self, Bool.false_eq_true, nIne1, List.cons_append, List.nil_append, kMask, mask, mask_n, nIle, hin]
    exact ⟨g', rfl, hB⟩
  · rintro s0 i hi ih ls h ⟨g', u, rfl, rfl, hB⟩
    have hin : (nuN co n ≤ i) = False := eq_false (by omega)
    have hMi : MO c n co g' := hM.congr (hB.2 20 (by omega)) (hB.1 206 (by omega) (by omega) (by omega) (by omega) (by omega) (by omega) (by omega) (by omega) (by omega)) (hB.1 189 (by omega) (by omega) (by omega) (by omega) (by omega) (by omega) (by omega) (by omega) (by omega))
    obtain ⟨g2, e2, q1, q2⟩ := m_lays (m := m) (o := o) hc n3 n6 hMi hi hN2
    obtain ⟨hd, -⟩ := dgN_ok hi
    have hB2 : BAS g0 g2 := hB.tr ⟨fun a a1 a2 a3 a4 a5 a6 a7 a8 a9 => q1 a a4 a5 a6 a8 a9, fun i hi => by rw [q1 188 (by omega) (by omega) (by omega) (by omega) (by omega)]⟩
    have inn : (fun r => ∃ g', r = some (some (.int (nI (mutN n co V (nuN co n)))), hp g' m o) ∧ BAS g0 g') (kl_X11_mutual_41 s0 [.ref 188, .int (nI c), .int (nI (mutN n co V i)), .int (nI (nuN co n)), .int (nI i), .int (nI 0)] [] (hp g2 m o)) := by
      unfold kl_X11_mutual_41
      refine kFor (ordMany n) (by unfold FU; omega) (fun k ls h => ∃ (g3 : GG) (u : List Value), ls = [.ref 188, .int (nI c), .int (nI (mutN n co V i + sumN (fun k => sumN (fun x => sumN (fun y => bN (mmB (sD n (dgN n co i)) (WD n k co V (dgN n co i)) x y)) x) n) k)), .int (nI (nuN co n)), .int (nI i), .int (nI k)] ++ u ∧ h = hp g3 m o ∧ BAS g0 g3 ∧ LYR n 0 co (dgN n co i) g3) (fun r => ∃ g', r = some (some (.int (nI (mutN n co V (nuN co n)))), hp g' m o) ∧ BAS g0 g') ?_ ?_ 0 _ _ (by omega) ⟨g2, [], rfl, rfl, hB2, q2⟩
      · rintro s1 ls h ⟨g3, u, rfl, rfl, w1, w2⟩
        have en3 : g3 188 20 = nI n := by rw [w1.2 20 (by omega)]; exact hM.1
        have hin : (ordMany n ≤ ordMany n) = True := eq_true (by omega)
        have := ih [.ref 188, .int (nI c), .int (nI (mutN n co V i + sumN (fun k => sumN (fun x => sumN (fun y => bN (mmB (sD n (dgN n co i)) (WD n k co V (dgN n co i)) x y)) x) n) (ordMany n))), .int (nI (nuN co n)), .int (nI (i + 1)), .int (nI (ordMany n))] (hp g3 m o) ⟨g3, [.int (nI (ordMany n))], rfl, rfl, w1⟩
        simp (disch := first | assumption | omega) only [KL, KB, KC, KI, KJ, KZ, bI_0, bI_n, nI00, nI10, ne_eq, Classical.not_not, not_true_eq_false, not_false_eq_true, if_true, if_false, ite_not, ite_self, Bool.false_eq_true, nIne1, List.cons_append, List.nil_append, kMask, mask, mask_n, O_mo, en3, eo, nIle, hin, nI_add]
        exact this
      · rintro s1 k hk ih2 ls h ⟨g3, u, rfl, rfl, w1, w2⟩
        have en3 : g3 188 20 = nI n := by rw [w1.2 20 (by omega)]; exact hM.1
        have hin : (ordMany n ≤ k) = False := eq_false (by omega)
        obtain ⟨g4, e4, r1, r2⟩ := m_ranks g3 m o n k n3 n6 en3 hk
        have hL4 : LYK n k co (dgN n co i) g4 := ⟨w2.congr (fun a ha => r1 a (by omega)), r2⟩
        have hB4 : BAS g0 g4 := w1.tr ⟨fun a a1 a2 a3 a4 a5 a6 a7 a8 a9 => r1 a a7, fun i hi => by rw [r1 188 (by omega)]⟩
        have en4 : g4 188 20 = nI n := by rw [hB4.2 20 (by omega)]; exact hM.1
        have hMW := hV g4 (dgN n co i) k hd hk hB4 hL4
        have h62 := m_mut62 (i := i) (k := k) (c := c) (T := mutN n co V i + sumN (fun k => sumN (fun x => sumN (fun y => bN (mmB (sD n (dgN n co i)) (WD n k co V (dgN n co i)) x y)) x) n) k) (N := nuN co n) n6 (hL4.1.ml en4) hMW s0 s1 (fun r => ∃ g', r = some (some (.int (nI (mutN n co V (nuN co n)))), hp g' m o) ∧ BAS g0 g') (fun g5 v1 => ih2 _ _ ⟨g5, [.int (nI n)], by rw [Nat.add_assoc]; rfl, rfl, hB4.sm v1, hL4.1.congr (fun a ha => v1 a (by omega) (by omega))⟩)
        simp (disch := first | assumption | omega) only [KL, KB, KC, KI, KJ, KZ, bI_0, bI_n, nI00, nI10, ne_eq, Classical.not_not, not_true_eq_false, not_false_eq_true, if_true, if_false, ite_not, ite_self, Bool.false_eq_true, nIne1, List.cons_append, List.nil_append, kMask, mask, mask_n, O_mo, en3, eo, nIle, hin, e4]
        exact h62
    simp (disch := first | assumption | omega) only [KL, KB, KC, KI, KJ, KZ, bI_0, bI_n, nI00, nI10, ne_eq, Classical.not_not, not_true_eq_false, not_false_eq_true, if_true, if_false, ite_not, ite_self, Bool.false_eq_true, nIne1, List.cons_append, List.nil_append, kMask, mask, mask_n, nIle, hin, O_mo, e2]
    exact inn
  · have e1 : mutN n co V 1 = 0 := by
      show 0 + sumN _ (ordMany n) = 0
      rw [Nat.zero_add]
      exact sumN_zero _ (fun k _ => sumN_zero _ (fun x hx => sumN_zero _ (fun y _ => by
        unfold mmB
        rw [sD_bit _ hx, dgN_zero x, decide_eq_false (by omega)]
        rfl)))
    rw [e1]
    rfl
theorem ag_mutual (a0 : Int32) : Ag RT f_X10_mutual f_X11_mutual [.int a0] := by
  intro j g m o hj hR
  rcases in_cases a0 5 (by decide) with ⟨c, hc, rfl⟩ | h0
  · have hc6 : c < 6 := by omega
    have hX := isX_live c hc6
    have hyc : (nI 0 ≤ nI c ∧ nI c ≤ nI 5) = True := eq_true (in_yes hc (by omega))
    obtain ⟨n, hx⟩ := hR.at hc6
    obtain ⟨n3, n6, en, em, -⟩ := id hx
    obtain ⟨co, fa, U, K, hCK, hMK, hco, hlen, hok⟩ := hR.comeP hc6 hx
    obtain ⟨g1, e1, p1, p2, p3, p4⟩ := c_askByRule (m := m) (o := o) hX (by omega) (by omega) n3 n6 hCK (-1) (fun r => K (fa 3 r)) (Or.inl ⟨rfl, fun _ => rfl⟩)
    have z71 : g1 188 = g 188 := p1 188 (by omega) (by omega) (by omega) (by omega) (by omega) (by omega) (by omega)
    have z81 : g1 189 = g 189 := p1 189 (by omega) (by omega) (by omega) (by omega) (by omega) (by omega) (by omega)
    have hMK3 : MK (10 + 560 * c) n co fa U K g1 := hMK.congr (by omega) (by omega) (FR8.of z81)
    obtain ⟨g4, e4, r1, r2, r3, r4⟩ := hMK3.base (m := 17 + 10 * c) (o := OO n) hc6 n6
    have h34 : g4 188 34 = -1 := by rw [r2 34 (by omega), z71]; exact hR.2.2.2.2.2.2.2.1
    have h33 : g4 188 33 = -1 := by rw [r2 33 (by omega), z71]; exact hR.2.2.2.2.2.2.1
    have h35 : g4 188 35 = nI 0 := by rw [r2 35 (by omega), z71]; exact hR.2.2.2.2.2.2.2.2
    have hV : MWV n co (VR n co fa (fun r => U (K (fa 3 r)))) g4 (17 + 10 * c) (OO n) := mwv_of (kr := fun r => K (fa 3 r)) n3 n6 hlen hok r3.1 (fun r hr => ⟨(r4 r hr).1, (r4 r hr).2.1, (r4 r hr).2.2.1⟩) h35 h33 (hMK3.rules n6 (r1 189 (by omega) (by omega)) (fun r hr => (r4 r hr).2.2.2) h34)
    have hO : ORD g1 := (show ORD g from hR.2.2.2.2.2.1).congr (fun a x y => p1 a (by omega) (by omega) (by omega) (by omega) (by omega) (by omega) (by omega))
    have hC1 : CO (17 + 10 * c) n co g1 := hCK.co.congr (p1 _ (by omega) (by omega) (by omega) (by omega) (by omega) (by omega) (by omega)) (p1 _ (by omega) (by omega) (by omega) (by omega) (by omega) (by omega) (by omega)) (p1 _ (by omega) (by omega) (by omega) (by omega) (by omega) (by omega) (by omega))
    have ec := c_mutualCouples (X := 17 + 10 * c) (V := VR n co fa (fun r => U (K (fa 3 r)))) hX n3 n6 hC1 hO p4
    have hnu := m_numbers (m := 17 + 10 * c) (o := OO n) n6 r3
    obtain ⟨g5, e5, w1⟩ := m_mut24 (m := 17 + 10 * c) (o := OO n) hc6 n3 n6 r3 hco hV
    rw [mut_all n6 hlen hco] at e5
    have hk1 : KEEP g g1 := KEEP.of (fun a x y z w => p1 a (by omega) (by omega) (by omega) (by omega) (by omega) (by omega) (by omega)) (fun i _ => by rw [z71])
    have hk2 : KEEP g1 g4 := KEEP.of (fun a x y z w => r1 a (by omega) (by omega)) (fun i hi => r2 i (by omega))
    refine ⟨nI (mutC n co (VR n co fa (fun r => U (K (fa 3 r))))), g1, 17 + 10 * c, OO n, g5, ?_, ?_, hR.keep ((hk1.tr hk2).tr w1.keep)⟩
    · simp (disch := first | assumption | omega) only [f_X10_mutual, kb_X10_mutual_0, KL, KB, KC, KI, KJ, KZ, bI_0, bI_n, nI00, nI10, ne_eq, Classical.not_not, not_true_eq_false, not_false_eq_true, if_true, if_false, ite_not, ite_self, Bool.false_eq_true, nIne1, O_fp, O_co, XO, AR, c_at g m o c hc6, e1, ec]
    · simp (disch := first | assumption | omega) only [f_X11_mutual, kb_X11_mutual_129, kb_X11_mutual_128, kb_X11_mutual_0, KL, KB, KC, KI, KJ, KZ, bI_0, bI_n, nI00, nI10, ne_eq, Classical.not_not, not_true_eq_false, not_false_eq_true, if_true, if_false, ite_not, ite_self, Bool.false_eq_true, nIne1, O_mo, AR, m_isCrossing, m_isIn, hyc, e4, hnu, e5]
  · refine ⟨-1, g, m, o, g, ?_, ?_, RT_mono _ _ _ _ hR⟩
    · simp (disch := first | assumption | omega) only [f_X10_mutual, kb_X10_mutual_0, KL, KB, KC, KI, KJ, KZ, bI_0, bI_n, nI00, nI10, ne_eq, Classical.not_not, not_true_eq_false, not_false_eq_true, if_true, if_false, ite_not, ite_self, Bool.false_eq_true, nIne1, O_fp, c_atN g m o a0 h0]
    · simp (disch := first | assumption | omega) only [f_X11_mutual, kb_X11_mutual_129, kb_X11_mutual_128, kb_X11_mutual_0, KL, KB, KC, KI, KJ, KZ, bI_0, bI_n, nI00, nI10, ne_eq, Classical.not_not, not_true_eq_false, not_false_eq_true, if_true, if_false, ite_not, ite_self, Bool.false_eq_true, nIne1, O_mo, m_isCrossing, m_isIn, h0]
