-- ===== border =====
theorem and1b (a : Nat) : a &&& 1 = bN (a.testBit 0) := and1 a
theorem bN4 (a b c d t : Bool) : (nI ((bN a ||| bN b <<< 1) ||| (bN c ||| bN d <<< 1) <<< 2) >>> (nI (2 * bN t) &&& 31)) &&& nI 1 = bW (if t = true then c else a) ∧ ((nI ((bN a ||| bN b <<< 1) ||| (bN c ||| bN d <<< 1) <<< 2) >>> (nI (2 * bN t) &&& 31)) >>> (nI 1 &&& 31)) &&& nI 1 = bW (if t = true then d else b) := by
  cases a <;> cases b <;> cases c <;> cases d <;> cases t <;> decide
theorem c_verdict1 (g : GG) (m o x y set : Nat) (hx : x < 12) (hy : y < 12) (hs : set < 64) : f_X0_verdicts [.ref 164, .int (nI 1), .int (nI set), .int (nI x), .int (nI y)] (hp g m o) = some (some (.int (g 166 (x * 12 + y) >>> (nI (2 * bN (set.testBit (x / 2))) &&& 31))), hp g m o) := by
  have hix : x * 12 + y < 144 := by omega
  have hb : (set >>> (x / 2)) &&& 1 = bN (set.testBit (x / 2)) := by rw [and1b, Nat.testBit_shiftRight, Nat.add_zero]
  simp (disch := first | assumption | omega) only [f_X0_verdicts, kb_X0_verdicts_0, KL, KB, KC, KI, KJ, KZ, bI_0, bI_n, nI00, nI10, ne_eq, Classical.not_not, not_true_eq_false, not_false_eq_true, if_true, if_false, ite_not, ite_self, Bool.false_eq_true, nIne1, O_co, AR, nI_mul, nI_add, nI_shr, nd2, nI_and, hb, TW1]
/-- the rule of a road by a set of those with land 1 -/
def kL (K : Nat → Nat) (set r : Nat) : Nat := K (bN (set.testBit r))
theorem bN_lt (b : Bool) : bN b < 2 := by cases b <;> decide
theorem c_lands {X n : Nat} {co : Nat → List Goods} {fa : FA} {U : Nat → ARule} {K : Nat → Nat} {g : GG} {m o : Nat} (hX : isX X) (hX1 : X + 9 < 77) (hX2 : 16 < X) (n3 : 3 ≤ n) (n6 : n ≤ 6) (hK : CK X n co fa U K g) (hO : ORD g) : ∃ g' g2 : GG, f_X0_meet [.ref 164, .ref X] (hp g m o) = some (none, hp g' X (OO n)) ∧ f_X0_ask [.ref 164, .int (nI 1), .int (-1)] (hp g' X (OO n)) = some (none, hp g2 X (OO n)) ∧ (∀ a, a ≠ 78 → a ≠ 79 → a ≠ 164 → a ≠ 166 → a ≠ 167 → g2 a = g a) ∧ (∀ i, i ≠ 5 → g2 164 i = g 164 i) ∧ ∀ (g3 : GG) (set : Nat), (∀ a, a ≠ 164 → a ≠ 168 → a ≠ 169 → a ≠ 170 → g3 a = g2 a) → g3 164 5 = g2 164 5 → set < 64 → ∃ g4, f_X0_settle [.ref 164, .int (nI 1), .int (nI set)] (hp g3 X (OO n)) = some (none, hp g4 X (OO n)) ∧ (∀ a, a ≠ 168 → a ≠ 169 → g4 a = g3 a) ∧ SET X n co (VR n co fa (fun r => U (kL K set r))) g4 := by
  obtain ⟨g1, e1, p1, p2, p3, p4⟩ := c_meet (g := g) (m := m) (o := o) hX (by omega) n3 n6 hK.co
  have z1 : ∀ a, a < 77 → g1 a = g a := fun a ha => p1 a (by omega) (by omega)
  have hC1 : CO X n co g1 := hK.co.congr (z1 _ (by omega)) (z1 _ (by omega)) (z1 _ (by omega))
  have hA := c_ask (g := g1) hX hX1 hX2 n3 n6 hC1 p4 (nI 1) (-1) (fun r => nI (K (fa 3 r))) (fun r hr' => by
    refine ⟨fun q => absurd rfl q, fun _ => ?_⟩
    have h3 := hK.2.1 3 (by omega) r (by omega)
    have hm : mostN 3 = 1 := rfl
    rw [hm] at h3
    exact ⟨fa 3 r, by omega, by rw [z1 _ (by omega)]; exact h3.2, by rw [z1 _ (by omega)]; exact (hK.2.2.2.2 _ (by omega)).2⟩) (fun x y => nI ((bN (VR n co fa (fun _ => U (K 0)) x y false) ||| bN (VR n co fa (fun _ => U (K 0)) x y true) <<< 1) ||| (bN (VR n co fa (fun _ => U (K 1)) x y false) ||| bN (VR n co fa (fun _ => U (K 1)) x y true) <<< 1) <<< 2)) (fun g' x y w1 hx hy hxy w2 => by
    obtain ⟨t1, t2, t3, t4⟩ := ftB_th hxy
    obtain ⟨x1, x2, x3⟩ := thB_lt hC1 hx t1
    obtain ⟨y1, y2, y3⟩ := thB_lt hC1 hy t2
    have hf0 := fun r (hr : r < n) => (hK.2.1 0 (by omega) r (by omega)).2
    have hf1 := fun r (hr : r < n) => (hK.2.1 1 (by omega) r (by omega)).2
    have hf2 := fun r (hr : r < n) => (hK.2.1 2 (by omega) r (by omega)).2
    simp only [Nat.mul_zero, Nat.zero_add] at hf0
    simp only [show 6 * 1 = 6 from rfl] at hf1
    simp only [show 6 * 2 = 12 from rfl] at hf2
    have hfv : fvX X n co g1 x y = fvec n (x / 2) (y / 2) (fun r => nI (fa 0 r)) (fun r => nI (fa 1 r)) (fun r => nI (fa 2 r)) (cG co x) (cG co y) (nI 0) := by
      unfold fvX
      rw [z1 _ (by omega)]
      exact fvec_congr (hf0 _ x1) (hf0 _ y1) (hf1 _ x1) (hf1 _ y1) (hf2 _ x1) (hf2 _ y1)
    rw [hfv] at w2
    obtain ⟨k0, e0⟩ := hK.2.2.2.2 0 (by omega)
    obtain ⟨k1, ek1⟩ := hK.2.2.2.2 1 (by omega)
    obtain ⟨u1, u2⟩ := hK.2.2.2.1 _ k0
    obtain ⟨u3, u4⟩ := hK.2.2.2.1 _ k1
    have z : ∀ a, a < 77 → g' a = g a := fun a ha => by rw [w1 a (by omega) (by omega) (by omega), z1 a ha]
    obtain ⟨g3, e3, v1, v2⟩ := c_byRule g' X (OO n) (K 0) (U (K 0)) (fvec n (x / 2) (y / 2) (fun r => nI (fa 0 r)) (fun r => nI (fa 1 r)) (fun r => nI (fa 2 r)) (cG co x) (cG co y) (nI 0)) k0 (u2.congr (fun a a1 a2 => z a (by omega))) u1 (fun i hi _ => w2 i hi)
    obtain ⟨g4, e4, v3, v4⟩ := c_byRule g3 X (OO n) (K 1) (U (K 1)) (fvec n (x / 2) (y / 2) (fun r => nI (fa 0 r)) (fun r => nI (fa 1 r)) (fun r => nI (fa 2 r)) (cG co x) (cG co y) (nI 0)) k1 (u4.congr (fun a a1 a2 => by rw [v1 a (by omega) (by omega), z a (by omega)])) u3 (fun i hi h14 => by rw [v2 i h14]; exact w2 i hi)
    rw [fvS_fvec, fvS_fvec] at e3 e4
    have l0 : g' 2 0 = nI (K 0) := by rw [z 2 (by omega)]; exact e0
    have l1 : g3 2 1 = nI (K 1) := by rw [v1 2 (by omega) (by omega), z 2 (by omega)]; exact ek1
    refine ⟨g4, ?_, fun a a1 a2 => by rw [v3 a a1 a2, v1 a a1 a2]⟩
    simp (disch := first | assumption | omega) only [f_X0_answer, kb_X0_answer_0, KL, KB, KC, KI, KJ, KZ, bI_0, bI_n, nI00, nI10, ne_eq, Classical.not_not, not_true_eq_false, not_false_eq_true, if_true, if_false, ite_not, ite_self, Bool.false_eq_true, nIne1, O_co, O_w, AR, TW1, l0, e3, l1, e4, nI_shl, nI_or]
    rfl)
  obtain ⟨g2, e2, q1, q2⟩ := hA
  refine ⟨g1, g2, e1, e2, fun a a1 a2 a3 a4 a5 => by rw [q1 a a1 a2 a4, p1 a a3 a5], fun i hi => by rw [q1 164 (by omega) (by omega) (by omega)]; exact p2 i hi, fun g3 set h1 h5 hs => ?_⟩
  have hf2 : ∀ x, x < 12 → g3 167 x = nI (setN (ftB co x) 12) := fun x hx => by rw [h1 167 (by omega) (by omega) (by omega) (by omega), q1 167 (by omega) (by omega) (by omega)]; exact p4 x hx
  obtain ⟨g4, e4, r1, r2⟩ := c_settle (g := g3) (X := X) (n := n) (o := OO n) hf2 (nI 1) (nI set) (VR n co fa (fun r => U (kL K set r))) (fun g' x y w1 hx hy hxy => by
    have hv := c_verdict1 g' X (OO n) x y set hx hy hs
    have h2 := q2 x y hx hy hxy
    rw [w1 166 (by omega) (by omega), h1 166 (by omega) (by omega) (by omega) (by omega), h2] at hv
    refine ⟨_, hv, ?_⟩
    have hb := bN4 (VR n co fa (fun _ => U (K 0)) x y false) (VR n co fa (fun _ => U (K 0)) x y true) (VR n co fa (fun _ => U (K 1)) x y false) (VR n co fa (fun _ => U (K 1)) x y true) (set.testBit (x / 2))
    have hV : ∀ f, VR n co fa (fun r => U (kL K set r)) x y f = if set.testBit (x / 2) = true then VR n co fa (fun _ => U (K 1)) x y f else VR n co fa (fun _ => U (K 0)) x y f := fun f => by
      show firstW _ (U (K (bN (set.testBit (x / 2))))) = _
      cases set.testBit (x / 2) <;> rfl
    rw [hV false, hV true]
    exact hb)
  have zz : ∀ a, a < 77 → g4 a = g a := fun a ha => by rw [r1 a (by omega) (by omega), h1 a (by omega) (by omega) (by omega) (by omega), q1 a (by omega) (by omega) (by omega), z1 a ha]
  refine ⟨g4, e4, r1, hK.co.congr (zz _ (by omega)) (zz _ (by omega)) (zz _ (by omega)), r2, hO.congr (fun a x y => by rw [r1 a (by omega) (by omega), h1 a (by omega) (by omega) (by omega) (by omega), q1 a (by omega) (by omega) (by omega), p1 a (by omega) (by omega)]), ?_⟩
  rw [r1 164 (by omega) (by omega), h5, q1 164 (by omega) (by omega) (by omega)]
  exact p3
/-- how many are bad of the first sets, and the least -/
def brd (bad : Nat → Bool) : Nat → Nat × Int32
  | 0 => (0, -1)
  | i + 1 => if bad i = true then ((brd bad i).1 + 1, if (brd bad i).2 = -1 then nI i else (brd bad i).2) else brd bad i
theorem brd_le (bad : Nat → Bool) : ∀ i, (brd bad i).1 ≤ i := by
  intro i
  induction i with
  | zero => exact Nat.le_refl _
  | succ i ih =>
    show (if bad i = true then ((brd bad i).1 + 1, if (brd bad i).2 = -1 then nI i else (brd bad i).2) else brd bad i).1 ≤ i + 1
    split
    · show (brd bad i).1 + 1 ≤ i + 1; omega
    · omega
theorem ag_border (a0 a1 : Int32) : Ag RT f_X10_border f_X11_border [.int a0, .int a1] := by
  intro j g m o hj hR
  rcases in_cases a0 5 (by decide) with ⟨c, hc, rfl⟩ | h0
  · have hc6 : c < 6 := by omega
    have hX := isX_live c hc6
    have hyc : (nI 0 ≤ nI c ∧ nI c ≤ nI 5) = True := eq_true (in_yes hc (by omega))
    obtain ⟨n, hx⟩ := hR.at hc6
    obtain ⟨n3, n6, en, em, -⟩ := id hx
    rcases in_cases a1 1 (by decide) with ⟨k, hk, rfl⟩ | h1
    · have hyk : (nI 0 ≤ nI k ∧ nI k ≤ nI 1) = True := eq_true (in_yes hk (by omega))
      obtain ⟨co, fa, U, K, hCK, hMK, hco, hlen, hok⟩ := hR.comeP hc6 hx
      obtain ⟨P, hP, hP2, P8, P64⟩ := shl1 n3 n6
      have hO : ORD g := hR.2.2.2.2.2.1
      generalize hbad : (fun set => !decide ((svNum n co (VR n co fa (fun r => U (kL K set r))) (nuN co n - 1)).1 + (svNum n co (VR n co fa (fun r => U (kL K set r))) (nuN co n - 1)).2.1 = 0)) = bad
      have hbd : ∀ set, bad set = !decide ((svNum n co (VR n co fa (fun r => U (kL K set r))) (nuN co n - 1)).1 + (svNum n co (VR n co fa (fun r => U (kL K set r))) (nuN co n - 1)).2.1 = 0) := fun set => by rw [← hbad]
      -- the class
      have hcls : ∃ g9 : GG, f_X0_tryBorders [.ref 164, .ref (17 + 10 * c)] (hp g m o) = some (none, hp g9 (17 + 10 * c) (OO n)) ∧ KEEP g g9 ∧ g9 188 = g 188 ∧ g9 164 18 = nI (brd bad P).1 ∧ g9 164 19 = (brd bad P).2 := by
        have hCK0 : CK (17 + 10 * c) n co fa U K (upd2 (upd2 g 164 18 (nI 0)) 164 19 (-1)) := hCK.congr (by omega) (by omega) (fun a a1 a2 a3 a4 => by rw [uN (by omega), uN (by omega)])
        obtain ⟨g1, g2, e1, e2, p1, p2, p3⟩ := c_lands (m := m) (o := o) hX (by omega) (by omega) n3 n6 hCK0 (hO.congr (fun a x y => by rw [uN (by omega), uN (by omega)]))
        have z2 : ∀ a, a ≠ 78 → a ≠ 79 → a ≠ 164 → a ≠ 166 → a ≠ 167 → g2 a = g a := fun a a1 a2 a3 a4 a5 => by rw [p1 a a1 a2 a3 a4 a5, uN a3, uN a3]
        have en2 : g2 (17 + 10 * c) 0 = nI n := by rw [z2 _ (by omega) (by omega) (by omega) (by omega) (by omega)]; exact en
        have key : ∃ g9 : GG, kl_X0_tryBorders_23 [.ref 164, .ref (17 + 10 * c), .int (nI 0)] [] (hp g2 (17 + 10 * c) (OO n)) = some (none, hp g9 (17 + 10 * c) (OO n)) ∧ (∀ a, a ≠ 164 → a ≠ 168 → a ≠ 169 → a ≠ 170 → g9 a = g2 a) ∧ g9 164 18 = nI (brd bad P).1 ∧ g9 164 19 = (brd bad P).2 := by
          unfold kl_X0_tryBorders_23
          refine kFor P (by unfold FU; omega) (fun i ls h => ∃ g' : GG, ls = [.ref 164, .ref (17 + 10 * c), .int (nI i)] ∧ h = hp g' (17 + 10 * c) (OO n) ∧ (∀ a, a ≠ 164 → a ≠ 168 → a ≠ 169 → a ≠ 170 → g' a = g2 a) ∧ g' 164 5 = g2 164 5 ∧ g' 164 18 = nI (brd bad i).1 ∧ g' 164 19 = (brd bad i).2) (fun r => ∃ g9 : GG, r = some (none, hp g9 (17 + 10 * c) (OO n)) ∧ (∀ a, a ≠ 164 → a ≠ 168 → a ≠ 169 → a ≠ 170 → g9 a = g2 a) ∧ g9 164 18 = nI (brd bad P).1 ∧ g9 164 19 = (brd bad P).2) ?_ ?_ 0 _ _ (by omega) ⟨g2, rfl, rfl, fun _ _ _ _ _ => rfl, rfl, by rw [p2 18 (by omega), uO (by omega), uS]; rfl, by rw [p2 19 (by omega), uS]; rfl⟩
          · rintro s0 ls h ⟨g', rfl, rfl, h1, h2, h3, h4⟩
            have e : g' (17 + 10 * c) 0 = nI n := by rw [h1 _ (by omega) (by omega) (by omega) (by omega)]; exact en2
            have hin : (P ≤ P) = True := eq_true (by omega)
            simp (disch := first | assumption | omega) only [KL, KB, KC, KI, KJ, KZ, bI_0, bI_n, nI00, nI10, ne_eq, Classical.not_not, not_true_eq_false, not_false_eq_true, if_true, if_false, ite_not, ite_self, Bool.false_eq_true, nIne1, kMask, mask, XO, e, nI_shl, hP, nIle, hin]
            exact ⟨g', rfl, h1, h3, h4⟩
          · rintro s0 i hi ih ls h ⟨g', rfl, rfl, h1, h2, h3, h4⟩
            have e : g' (17 + 10 * c) 0 = nI n := by rw [h1 _ (by omega) (by omega) (by omega) (by omega)]; exact en2
            have hin : (P ≤ i) = False := eq_false (by omega)
            obtain ⟨g3, e3, q1, q2⟩ := p3 g' i h1 h2 (by omega)
            obtain ⟨g4, e4, q3⟩ := c_isEverBad hX (by omega) n3 n6 hlen hco q2
            rw [← hbd i] at e4
            have z4 : ∀ a, a ≠ 164 → a ≠ 168 → a ≠ 169 → a ≠ 170 → g4 a = g2 a := fun a a1 a2 a3 a4 => by rw [q3 a a4, q1 a a2 a3]; exact h1 a a1 a2 a3 a4
            have z173 : g4 164 = g' 164 := by rw [q3 164 (by omega), q1 164 (by omega) (by omega)]
            have hs : brd bad (i + 1) = if bad i = true then ((brd bad i).1 + 1, if (brd bad i).2 = -1 then nI i else (brd bad i).2) else brd bad i := rfl
            have k18 : g4 164 18 = nI (brd bad i).1 := by rw [z173]; exact h3
            cases hb : bad i with
            | false =>
              rw [hb] at e4
              rw [hb, if_neg (by decide)] at hs
              simp (disch := first | assumption | omega) only [kb_X0_tryBorders_76, kb_X0_tryBorders_73, KL, KB, KC, KI, KJ, KZ, bI_0, bI_n, nI00, nI10, ne_eq, Classical.not_not, not_true_eq_false, not_false_eq_true, if_true, if_false, ite_not, ite_self, Bool.false_eq_true, nIne1, kMask, mask, XO, O_co, e, nI_shl, hP, nIle, hin, e3, e4, bW_f, nI_add]
              exact ih _ _ ⟨g4, rfl, rfl, z4, by rw [z173]; exact h2, by rw [hs]; exact k18, by rw [hs, z173]; exact h4⟩
            | true =>
              rw [hb] at e4
              rw [hb, if_pos rfl] at hs
              have k19 : upd2 g4 164 18 (nI ((brd bad i).1 + 1)) 164 19 = (brd bad i).2 := by rw [uO (by omega), z173]; exact h4
              by_cases h9 : (brd bad i).2 = -1
              · have h9' : ((brd bad i).2 = -1) = True := eq_true h9
                rw [if_pos h9] at hs
                simp (disch := first | assumption | omega) only [kb_X0_tryBorders_76, kb_X0_tryBorders_73, KL, KB, KC, KI, KJ, KZ, bI_0, bI_n, nI00, nI10, ne_eq, Classical.not_not, not_true_eq_false, not_false_eq_true, if_true, if_false, ite_not, ite_self, Bool.false_eq_true, nIne1, kMask, mask, XO, O_co, e, nI_shl, hP, nIle, hin, e3, e4, bW_t, nI_add, k18, k19, h9']
                exact ih _ _ ⟨_, rfl, rfl, fun a a1 a2 a3 a4 => by rw [uN a1, uN a1]; exact z4 a a1 a2 a3 a4, by rw [uO (by omega), uO (by omega), z173]; exact h2, by rw [uO (by omega), uS, hs], by rw [uS, hs]⟩
              · have h9' : ((brd bad i).2 = -1) = False := eq_false h9
                rw [if_neg h9] at hs
                simp (disch := first | assumption | omega) only [kb_X0_tryBorders_76, kb_X0_tryBorders_73, KL, KB, KC, KI, KJ, KZ, bI_0, bI_n, nI00, nI10, ne_eq, Classical.not_not, not_true_eq_false, not_false_eq_true, if_true, if_false, ite_not, ite_self, Bool.false_eq_true, nIne1, kMask, mask, XO, O_co, e, nI_shl, hP, nIle, hin, e3, e4, bW_t, nI_add, k18, k19, h9']
                exact ih _ _ ⟨_, rfl, rfl, fun a a1 a2 a3 a4 => by rw [uN a1, uN a1]; exact z4 a a1 a2 a3 a4, by rw [uO (by omega), uO (by omega), z173]; exact h2, by rw [uO (by omega), uS, hs], by rw [uS, hs]⟩
        obtain ⟨g9, e9, w1, w2, w3⟩ := key
        refine ⟨g9, ?_, KEEP.of (fun a x y z w => by rw [w1 a (by omega) (by omega) (by omega) (by omega), z2 a (by omega) (by omega) (by omega) (by omega) (by omega)]) (fun i _ => by rw [w1 188 (by omega) (by omega) (by omega) (by omega), z2 188 (by omega) (by omega) (by omega) (by omega) (by omega)]), by rw [w1 188 (by omega) (by omega) (by omega) (by omega), z2 188 (by omega) (by omega) (by omega) (by omega) (by omega)], w2, w3⟩
        rw [← e9]
        simp (disch := first | assumption | omega) only [f_X0_tryBorders, kb_X0_tryBorders_0, KL, KB, KC, KI, KJ, KZ, bI_0, bI_n, nI00, nI10, ne_eq, Classical.not_not, not_true_eq_false, not_false_eq_true, if_true, if_false, ite_not, ite_self, Bool.false_eq_true, nIne1, O_co, e1, e2]
      obtain ⟨g9, e9, k9, z9, b18, b19⟩ := hcls
      have z98 : g9 189 = g 189 := k9.2.2.2.1
      -- the model
      have hmod : ∃ g8 : GG, kl_X11_border_26 [.ref 188, .int (nI c), .int (nI k), .int (-1), .int (nI 0), .int (nI 0)] [] (hp g9 (17 + 10 * c) (OO n)) = some (some (.int (if k = 0 then nI (brd bad P).1 else (brd bad P).2)), hp g8 (17 + 10 * c) (OO n)) ∧ (∀ a, a ≠ 188 → (a < 194 ∨ 207 < a) → g8 a = g9 a) ∧ ∀ i, (i < 37 ∨ 45 < i) → i ≠ 20 → g8 188 i = g9 188 i := by
        unfold kl_X11_border_26
        refine kFor P (by unfold FU; omega) (fun i ls h => ∃ (g' : GG) (u : List Value), ls = [.ref 188, .int (nI c), .int (nI k), .int (brd bad i).2, .int (nI (brd bad i).1), .int (nI i)] ++ u ∧ h = hp g' (17 + 10 * c) (OO n) ∧ (∀ a, a ≠ 188 → (a < 194 ∨ 207 < a) → g' a = g9 a) ∧ ∀ i, (i < 37 ∨ 45 < i) → i ≠ 20 → g' 188 i = g9 188 i) (fun r => ∃ g8 : GG, r = some (some (.int (if k = 0 then nI (brd bad P).1 else (brd bad P).2)), hp g8 (17 + 10 * c) (OO n)) ∧ (∀ a, a ≠ 188 → (a < 194 ∨ 207 < a) → g8 a = g9 a) ∧ ∀ i, (i < 37 ∨ 45 < i) → i ≠ 20 → g8 188 i = g9 188 i) ?_ ?_ 0 _ _ (by omega) ⟨g9, [], rfl, rfl, fun _ _ _ => rfl, fun _ _ _ => rfl⟩
        · rintro s0 ls h ⟨g', u, rfl, rfl, h1, h2⟩
          have hown := m_own g' (17 + 10 * c) (OO n) c 552 (by omega)
          rw [h1 189 (by omega) (by omega), z98, em] at hown
          have hin : (P ≤ P) = True := eq_true (by omega)
          have hk' : k = 0 ∨ k = 1 := by omega
          rcases hk' with rfl | rfl
          · simp (disch := first | assumption | omega) only [kb_X11_border_121, KL, KB, KC, KI, KJ, KZ, bI_0, bI_n, nI00, nI10, ne_eq, Classical.not_not, not_true_eq_false, not_false_eq_true, if_true, if_false, ite_not, ite_self, Bool.false_eq_true, nIne1, List.cons_append, List.nil_append, kMask, mask, O_mo, hown, nI_shl, hP, nIle, hin]
            exact ⟨g', rfl, h1, h2⟩
          · simp (disch := first | assumption | omega) only [kb_X11_border_121, KL, KB, KC, KI, KJ, KZ, bI_0, bI_n, nI00, nI10, ne_eq, Classical.not_not, not_true_eq_false, not_false_eq_true, if_true, if_false, ite_not, ite_self, Bool.false_eq_true, nIne1, List.cons_append, List.nil_append, kMask, mask, O_mo, hown, nI_shl, hP, nIle, hin]
            exact ⟨g', rfl, h1, h2⟩
        · rintro s0 i hi ih ls h ⟨g', u, rfl, rfl, h1, h2⟩
          have hown := m_own g' (17 + 10 * c) (OO n) c 552 (by omega)
          rw [h1 189 (by omega) (by omega), z98, em] at hown
          have hin : (P ≤ i) = False := eq_false (by omega)
          have z8' : g' 189 = g 189 := by rw [h1 189 (by omega) (by omega)]; exact z98
          have hMK0 : MK (10 + 560 * c) n co fa U K g' := hMK.congr (by omega) (by omega) (FR8.of z8')
          obtain ⟨g4, e4, r1, r2, r3, r4⟩ := hMK0.base (m := 17 + 10 * c) (o := OO n) hc6 n6
          have hs : brd bad (i + 1) = if bad i = true then ((brd bad i).1 + 1, if (brd bad i).2 = -1 then nI i else (brd bad i).2) else brd bad i := rfl
          have inner : ∀ u : List Value, (fun r : RS => ∃ g8 : GG, r = some (some (.int (if k = 0 then nI (brd bad P).1 else (brd bad P).2)), hp g8 (17 + 10 * c) (OO n)) ∧ (∀ a, a ≠ 188 → (a < 194 ∨ 207 < a) → g8 a = g9 a) ∧ ∀ i, (i < 37 ∨ 45 < i) → i ≠ 20 → g8 188 i = g9 188 i) (kl_X11_border_49 s0 ([.ref 188, .int (nI c), .int (nI k), .int (brd bad i).2, .int (nI (brd bad i).1), .int (nI i), .int (nI 0)] ++ u) [] (hp g4 (17 + 10 * c) (OO n))) := by
            intro u
            unfold kl_X11_border_49
            refine kFor n (by unfold FU; omega) (fun r ls h => ∃ (g5 : GG) (u : List Value), ls = [.ref 188, .int (nI c), .int (nI k), .int (brd bad i).2, .int (nI (brd bad i).1), .int (nI i), .int (nI r)] ++ u ∧ h = hp g5 (17 + 10 * c) (OO n) ∧ (∀ a, a ≠ 199 → g5 a = g4 a) ∧ ∀ q, q < r → g5 199 q = nI (bN (i.testBit q))) (fun r : RS => ∃ g8 : GG, r = some (some (.int (if k = 0 then nI (brd bad P).1 else (brd bad P).2)), hp g8 (17 + 10 * c) (OO n)) ∧ (∀ a, a ≠ 188 → (a < 194 ∨ 207 < a) → g8 a = g9 a) ∧ ∀ i, (i < 37 ∨ 45 < i) → i ≠ 20 → g8 188 i = g9 188 i) ?_ ?_ 0 _ _ (by omega) ⟨g4, u, rfl, rfl, fun _ _ => rfl, fun q hq => by omega⟩
            · rintro s1 ls h ⟨g5, u, rfl, rfl, w1, w2⟩
              have en5 : g5 188 20 = nI n := by rw [w1 188 (by omega)]; exact r3.1
              have hin : (n ≤ n) = True := eq_true (by omega)
              have hM5 : MO c n co g5 := r3.congr (by rw [w1 188 (by omega)]) (w1 206 (by omega)) (w1 189 (by omega))
              have h34 : g5 188 34 = -1 := by rw [w1 188 (by omega), r2 34 (by omega), h2 34 (by omega) (by omega), z9]; exact hR.2.2.2.2.2.2.2.1
              have h33 : g5 188 33 = -1 := by rw [w1 188 (by omega), r2 33 (by omega), h2 33 (by omega) (by omega), z9]; exact hR.2.2.2.2.2.2.1
              have h35 : g5 188 35 = nI 0 := by rw [w1 188 (by omega), r2 35 (by omega), h2 35 (by omega) (by omega), z9]; exact hR.2.2.2.2.2.2.2.2
              have z58 : g5 189 = g' 189 := by rw [w1 189 (by omega), r1 189 (by omega) (by omega)]
              have hV := mwv_of (m := 17 + 10 * c) (o := OO n) (rl := fun r => U (kL K i r)) (kr := kL K i) n3 n6 hlen hok hM5.1 (fun r hr => by
                rw [w1 196 (by omega), w1 197 (by omega), w1 198 (by omega)]
                exact ⟨(r4 r hr).1, (r4 r hr).2.1, (r4 r hr).2.2.1⟩) h35 h33 (fun r hr => by
                obtain ⟨k1, k2⟩ := hMK0.2.2.2.2 (bN (i.testBit r)) (bN_lt _)
                obtain ⟨u1, u2⟩ := hMK0.2.2.2.1 _ k1
                exact ⟨k1, u1, u2.congr u1 k1 (fun i _ _ => by rw [z58]), Or.inl ⟨h34, bN (i.testBit r), bN_lt _, w2 r hr, by rw [z58]; exact k2⟩⟩)
              obtain ⟨g6, e6, x1, -⟩ := m_thru (m := 17 + 10 * c) (o := OO n) true hc6 n3 n6 hM5 hco hV
              have hbt : bW true = nI 1 := rfl
              rw [hbt] at e6
              have hbi := hbd i
              have F6 : (∀ a, a ≠ 188 → (a < 194 ∨ 207 < a) → g6 a = g9 a) ∧ ∀ i, (i < 37 ∨ 45 < i) → i ≠ 20 → g6 188 i = g9 188 i := ⟨fun a a1 a2 => by rw [x1.1 a a1 (by omega) (by omega) (by omega) (by omega) (by omega) (by omega) (by omega) (by omega), w1 a (by omega), r1 a a1 (by omega)]; exact h1 a a1 a2, fun i a b => by rw [x1.2 i a, w1 188 (by omega), r2 i b]; exact h2 i a b⟩
              generalize decide ((svNum n co (VR n co fa (fun r => U (kL K i r))) (nuN co n - 1)).1 + (svNum n co (VR n co fa (fun r => U (kL K i r))) (nuN co n - 1)).2.1 = 0) = good at *
              cases good with
              | true =>
                have hb : bad i = false := hbi
                rw [hb, if_neg (by decide)] at hs
                simp (disch := first | assumption | omega) only [kb_X11_border_105, kb_X11_border_101, KL, KB, KC, KI, KJ, KZ, bI_0, bI_n, nI00, nI10, ne_eq, Classical.not_not, not_true_eq_false, not_false_eq_true, if_true, if_false, ite_not, ite_self, Bool.false_eq_true, nIne1, List.cons_append, List.nil_append, kMask, mask, O_mo, en5, nIle, hin, e6, bW_t, nI_add]
                exact ih _ _ ⟨g6, [.int (nI n)], by rw [hs]; rfl, rfl, F6⟩
              | false =>
                have hb : bad i = true := hbi
                rw [hb, if_pos rfl] at hs
                by_cases h9 : (brd bad i).2 = -1
                · have h9' : ((brd bad i).2 = -1) = True := eq_true h9
                  rw [if_pos h9] at hs
                  simp (disch := first | assumption | omega) only [kb_X11_border_105, kb_X11_border_101, KL, KB, KC, KI, KJ, KZ, bI_0, bI_n, nI00, nI10, ne_eq, Classical.not_not, not_true_eq_false, not_false_eq_true, if_true, if_false, ite_not, ite_self, Bool.false_eq_true, nIne1, List.cons_append, List.nil_append, kMask, mask, O_mo, en5, nIle, hin, e6, bW_f, h9', nI_add]
                  exact ih _ _ ⟨g6, [.int (nI n)], by rw [hs]; rfl, rfl, F6⟩
                · have h9' : ((brd bad i).2 = -1) = False := eq_false h9
                  rw [if_neg h9] at hs
                  simp (disch := first | assumption | omega) only [kb_X11_border_105, kb_X11_border_101, KL, KB, KC, KI, KJ, KZ, bI_0, bI_n, nI00, nI10, ne_eq, Classical.not_not, not_true_eq_false, not_false_eq_true, if_true, if_false, ite_not, ite_self, Bool.false_eq_true, nIne1, List.cons_append, List.nil_append, kMask, mask, O_mo, en5, nIle, hin, e6, bW_f, h9', nI_add]
                  exact ih _ _ ⟨g6, [.int (nI n)], by rw [hs]; rfl, rfl, F6⟩
            · rintro s1 r hr ih2 ls h ⟨g5, u, rfl, rfl, w1, w2⟩
              have en5 : g5 188 20 = nI n := by rw [w1 188 (by omega)]; exact r3.1
              have hin : (n ≤ r) = False := eq_false (by omega)
              have hbit : (i >>> r) &&& 1 = bN (i.testBit r) := by rw [and1b, Nat.testBit_shiftRight, Nat.add_zero]
              simp (disch := first | assumption | omega) only [KL, KB, KC, KI, KJ, KZ, bI_0, bI_n, nI00, nI10, ne_eq, Classical.not_not, not_true_eq_false, not_false_eq_true, if_true, if_false, ite_not, ite_self, Bool.false_eq_true, nIne1, List.cons_append, List.nil_append, kMask, mask, O_mo, AR, en5, nIle, hin, nI_shr, nI_and, hbit, nI_add]
              refine ih2 _ _ ⟨_, [], rfl, rfl, fun a ha => by rw [uN ha]; exact w1 a ha, fun q hq => ?_⟩
              by_cases e : q = r
              · subst e; exact uS
              · rw [uO (Or.inr e)]; exact w2 q (by omega)
          have h0 := inner []
          simp only [List.cons_append, List.nil_append] at h0
          match u with
          | [] =>
            simp (disch := first | assumption | omega) only [KL, KB, KC, KI, KJ, KZ, bI_0, bI_n, nI00, nI10, ne_eq, Classical.not_not, not_true_eq_false, not_false_eq_true, if_true, if_false, ite_not, ite_self, Bool.false_eq_true, nIne1, List.cons_append, List.nil_append, kMask, mask, O_mo, hown, nI_shl, hP, nIle, hin, e4]
            exact h0
          | u0 :: u1 =>
            simp (disch := first | assumption | omega) only [KL, KB, KC, KI, KJ, KZ, bI_0, bI_n, nI00, nI10, ne_eq, Classical.not_not, not_true_eq_false, not_false_eq_true, if_true, if_false, ite_not, ite_self, Bool.false_eq_true, nIne1, List.cons_append, List.nil_append, kMask, mask, O_mo, hown, nI_shl, hP, nIle, hin, e4]
            exact h0
      obtain ⟨g8, e8, w1, w2⟩ := hmod
      refine ⟨if k = 0 then nI (brd bad P).1 else (brd bad P).2, g9, 17 + 10 * c, OO n, g8, ?_, ?_, hR.keep (k9.tr (KEEP.of (fun a x y z w => w1 a (by omega) (by omega)) (fun i hi => w2 i (by omega) (by omega))))⟩
      · have hk' : k = 0 ∨ k = 1 := by omega
        rcases hk' with rfl | rfl
        · simp (disch := first | assumption | omega) only [f_X10_border, kb_X10_border_18, kb_X10_border_49, kb_X10_border_0, KL, KB, KC, KI, KJ, KZ, bI_0, bI_n, nI00, nI10, ne_eq, Classical.not_not, not_true_eq_false, not_false_eq_true, if_true, if_false, ite_not, ite_self, Bool.false_eq_true, nIne1, O_fp, O_co, XO, c_at g m o c hc6, c_within, hyk, e9, b18]
        · have h10 : (1 = 0) = False := eq_false (by omega)
          simp (disch := first | assumption | omega) only [f_X10_border, kb_X10_border_18, kb_X10_border_49, kb_X10_border_0, KL, KB, KC, KI, KJ, KZ, bI_0, bI_n, nI00, nI10, ne_eq, Classical.not_not, not_true_eq_false, not_false_eq_true, if_true, if_false, ite_not, ite_self, Bool.false_eq_true, nIne1, O_fp, O_co, XO, c_at g m o c hc6, c_within, hyk, e9, b19, h10]
      · simp (disch := first | assumption | omega) only [f_X11_border, kb_X11_border_0, kb_X11_border_16, KL, KB, KC, KI, KJ, KZ, bI_0, bI_n, nI00, nI10, ne_eq, Classical.not_not, not_true_eq_false, not_false_eq_true, if_true, if_false, ite_not, ite_self, Bool.false_eq_true, nIne1, O_mo, m_isCrossing, m_isIn, hyc, hyk, e8]
    · refine ⟨-1, g, m, o, g, ?_, ?_, RT_mono _ _ _ _ hR⟩
      · simp (disch := first | assumption | omega) only [f_X10_border, kb_X10_border_18, kb_X10_border_49, kb_X10_border_0, KL, KB, KC, KI, KJ, KZ, bI_0, bI_n, nI00, nI10, ne_eq, Classical.not_not, not_true_eq_false, not_false_eq_true, if_true, if_false, ite_not, ite_self, Bool.false_eq_true, nIne1, O_fp, XO, c_at g m o c hc6, c_within, h1]
      · simp (disch := first | assumption | omega) only [f_X11_border, kb_X11_border_0, kb_X11_border_16, KL, KB, KC, KI, KJ, KZ, bI_0, bI_n, nI00, nI10, ne_eq, Classical.not_not, not_true_eq_false, not_false_eq_true, if_true, if_false, ite_not, ite_self, Bool.false_eq_true, nIne1, O_mo, m_isCrossing, m_isIn, hyc, h1]
  · refine ⟨-1, g, m, o, g, ?_, ?_, RT_mono _ _ _ _ hR⟩
    · simp (disch := first | assumption | omega) only [f_X10_border, kb_X10_border_18, kb_X10_border_49, kb_X10_border_0, KL, KB, KC, KI, KJ, KZ, bI_0, bI_n, nI00, nI10, ne_eq, Classical.not_not, not_true_eq_false, not_false_eq_true, if_true, if_false, ite_not, ite_self, Bool.false_eq_true, nIne1, O_fp, c_atN g m o a0 h0]
    · simp (disch := first | assumption | omega) only [f_X11_border, kb_X11_border_0, kb_X11_border_16, KL, KB, KC, KI, KJ, KZ, bI_0, bI_n, nI00, nI10, ne_eq, Classical.not_not, not_true_eq_false, not_false_eq_true, if_true, if_false, ite_not, ite_self, Bool.false_eq_true, nIne1, O_mo, m_isCrossing, h0]
