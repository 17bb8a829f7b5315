-- ===== signs =====
def faS (fa : FA) (set w r : Nat) : Nat := if w = 2 then bN (set.testBit r) else fa w r
/-- x's answer to y, if its sign is t / 2 and the other's t % 2 -/
def vT (n : Nat) (co : Nat → List Goods) (fa : FA) (rl : Nat → ARule) (t x y : Nat) (f : Bool) : Bool := firstW (fvec n (x / 2) (y / 2) (fun r => nI (fa 0 r)) (fun r => nI (fa 1 r)) (fun r => nI (if r = x / 2 then t / 2 else t % 2)) (cG co x) (cG co y) (bW f)) (rl (x / 2))
def orT (v : Nat → Bool → Bool) : Nat → Nat
  | 0 => 0
  | t + 1 => orT v t ||| (bN (v t false) ||| bN (v t true) <<< 1) <<< (2 * t)
theorem bN8 : ∀ (a b c d e f g h s t : Bool), ((nI ((((0 ||| (bN a ||| bN b <<< 1) <<< (2 * 0)) ||| (bN c ||| bN d <<< 1) <<< (2 * 1)) ||| (bN e ||| bN f <<< 1) <<< (2 * 2)) ||| (bN g ||| bN h <<< 1) <<< (2 * 3)) >>> (nI (2 * (2 * bN s + bN t)) &&& 31)) &&& nI 1 = bW (if s = true then (if t = true then g else e) else (if t = true then c else a))) ∧ (((nI ((((0 ||| (bN a ||| bN b <<< 1) <<< (2 * 0)) ||| (bN c ||| bN d <<< 1) <<< (2 * 1)) ||| (bN e ||| bN f <<< 1) <<< (2 * 2)) ||| (bN g ||| bN h <<< 1) <<< (2 * 3)) >>> (nI (2 * (2 * bN s + bN t)) &&& 31)) >>> (nI 1 &&& 31)) &&& nI 1 = bW (if s = true then (if t = true then h else f) else (if t = true then d else b))) := by decide +kernel
theorem orT4 (v : Nat → Bool → Bool) (s t : Bool) : ((nI (orT v 4) >>> (nI (2 * (2 * bN s + bN t)) &&& 31)) &&& nI 1 = bW (v (2 * bN s + bN t) false)) ∧ (((nI (orT v 4) >>> (nI (2 * (2 * bN s + bN t)) &&& 31)) >>> (nI 1 &&& 31)) &&& nI 1 = bW (v (2 * bN s + bN t) true)) := by
  have h := bN8 (v 0 false) (v 0 true) (v 1 false) (v 1 true) (v 2 false) (v 2 true) (v 3 false) (v 3 true) s t
  cases s <;> cases t <;> exact h
theorem c_verdict2 (g : GG) (m o x y set : Nat) (hx : x < 12) (hy : y < 12) (hs : set < 64) : f_X0_verdicts [.ref 164, .int (nI 2), .int (nI set), .int (nI x), .int (nI y)] (hp g m o) = some (some (.int (g 166 (x * 12 + y) >>> (nI (2 * (2 * bN (set.testBit (x / 2)) + bN (set.testBit (y / 2)))) &&& 31))), hp g m o) := by
  have hix : x * 12 + y < 144 := by omega
  have hb : (set >>> (x / 2)) &&& 1 = bN (set.testBit (x / 2)) := by rw [and1b, Nat.testBit_shiftRight, Nat.add_zero]
  have hb2 : (set >>> (y / 2)) &&& 1 = bN (set.testBit (y / 2)) := by rw [and1b, Nat.testBit_shiftRight, Nat.add_zero]
  simp (disch := first | assumption | omega) only [f_X0_verdicts, kb_X0_verdicts_0, KL, KB, KC, KI, KJ, KZ, bI_0, bI_n, nI00, nI10, ne_eq, Classical.not_not, not_true_eq_false, not_false_eq_true, if_true, if_false, ite_not, ite_self, Bool.false_eq_true, nIne1, O_co, AR, nI_mul, nI_add, nI_shr, nd2, nI_and, hb, hb2, TW2]
theorem c_answer2 {X n : Nat} {co : Nat → List Goods} {fa : FA} {U : Nat → ARule} {K : Nat → Nat} {g g' : GG} {m o : Nat} (hK : CK X n co fa U K g) (z : ∀ a, a < 77 → g' a = g a) (x y : Nat) (hxn : x / 2 < n) (hyn : y / 2 < n) (n6 : n ≤ 6) (hne : y / 2 ≠ x / 2) (w2 : ∀ i, i < 16 → g' 78 i = fvec n (x / 2) (y / 2) (fun r => nI (fa 0 r)) (fun r => nI (fa 1 r)) (fun r => nI (fa 2 r)) (cG co x) (cG co y) (nI 0) i) : ∃ g'', f_X0_answer [.ref 164, .int (nI 2), .int (nI (K (fa 3 (x / 2))))] (hp g' m o) = some (some (.int (nI (orT (fun t f => vT n co fa (fun r => U (K (fa 3 r))) t x y f) 4))), hp g'' m o) ∧ ∀ a, a ≠ 78 → a ≠ 79 → g'' a = g' a := by
  have h3 := hK.2.1 3 (by omega) (x / 2) (by omega)
  have hm : mostN 3 = 1 := rfl
  rw [hm] at h3
  have k4 := (hK.2.2.2.2 (fa 3 (x / 2)) (by omega)).1
  obtain ⟨u1, u2⟩ := hK.2.2.2.1 _ k4
  generalize hv : (fun t f => vT n co fa (fun r => U (K (fa 3 r))) t x y f) = v
  simp (disch := first | assumption | omega) only [f_X0_answer, kb_X0_answer_0, KL, KB, KC, KI, KJ, KZ, bI_0, bI_n, nI00, nI10, ne_eq, Classical.not_not, not_true_eq_false, not_false_eq_true, if_true, if_false, ite_not, ite_self, Bool.false_eq_true, nIne1, TW2]
  unfold kl_X0_answer_63
  refine kFor 4 (by unfold FU; omega) (fun t ls h => ∃ (g3 : GG) (v1 : Value), ls = [.ref 164, v1, .int (nI (K (fa 3 (x / 2)))), .int (nI (orT v t)), .int (nI t)] ∧ h = hp g3 m o ∧ (∀ a, a ≠ 78 → a ≠ 79 → g3 a = g' a) ∧ ∀ i, i ≠ 12 → i ≠ 13 → i ≠ 14 → g3 78 i = g' 78 i) (fun r => ∃ g'', r = some (some (.int (nI (orT v 4))), hp g'' m o) ∧ ∀ a, a ≠ 78 → a ≠ 79 → g'' a = g' a) ?_ ?_ 0 _ _ (by omega) ⟨g', _, rfl, rfl, fun _ _ _ => rfl, fun _ _ _ _ => rfl⟩
  · rintro s0 ls h ⟨g3, v1, rfl, rfl, h1, h2⟩
    have hin : (4 ≤ 4) = True := eq_true (by omega)
    simp (disch := first | assumption | omega) only [KL, KB, KC, KI, KJ, KZ, bI_0, bI_n, nI00, nI10, ne_eq, Classical.not_not, not_true_eq_false, not_false_eq_true, if_true, if_false, ite_not, ite_self, Bool.false_eq_true, nIne1, kMask, mask, nIle, hin]
    exact ⟨g3, rfl, h1⟩
  · rintro s0 t ht ih ls h ⟨g3, v1, rfl, rfl, h1, h2⟩
    have hin : (4 ≤ t) = False := eq_false (by omega)
    obtain ⟨g4, e4, w3, w4⟩ := c_byRule (upd2 (upd2 g3 78 12 (nI (t / 2))) 78 13 (nI (t % 2))) m o (K (fa 3 (x / 2))) (U (K (fa 3 (x / 2)))) (fvec n (x / 2) (y / 2) (fun r => nI (fa 0 r)) (fun r => nI (fa 1 r)) (fun r => nI (if r = x / 2 then t / 2 else t % 2)) (cG co x) (cG co y) (nI 0)) k4 (u2.congr (fun a a1 a2 => by rw [uN (by omega), uN (by omega), h1 a (by omega) (by omega), z a (by omega)])) u1 (fun i hi h14 => by
      by_cases q13 : i = 13
      · subst q13
        rw [uS]
        show nI (t % 2) = nI (if y / 2 = x / 2 then t / 2 else t % 2)
        rw [if_neg hne]
      · rw [uO (Or.inr q13)]
        by_cases q12 : i = 12
        · subst q12
          rw [uS]
          show nI (t / 2) = nI (if x / 2 = x / 2 then t / 2 else t % 2)
          rw [if_pos rfl]
        · rw [uO (Or.inr q12), h2 i q12 q13 h14, w2 i hi]
          match i, q12, q13, h14 with
          | 0, _, _, _ => rfl
          | 1, _, _, _ => rfl
          | 2, _, _, _ => rfl
          | 3, _, _, _ => rfl
          | 4, _, _, _ => rfl
          | 5, _, _, _ => rfl
          | 6, _, _, _ => rfl
          | 7, _, _, _ => rfl
          | 8, _, _, _ => rfl
          | 9, _, _, _ => rfl
          | 10, _, _, _ => rfl
          | 11, _, _, _ => rfl
          | 12, h, _, _ => exact absurd rfl h
          | 13, _, h, _ => exact absurd rfl h
          | 14, _, _, h => exact absurd rfl h
          | k + 15, _, _, _ => rfl)
    rw [fvS_fvec, fvS_fvec] at e4
    have hvf : ∀ f, firstW (fvec n (x / 2) (y / 2) (fun r => nI (fa 0 r)) (fun r => nI (fa 1 r)) (fun r => nI (if r = x / 2 then t / 2 else t % 2)) (cG co x) (cG co y) (bW f)) (U (K (fa 3 (x / 2)))) = v t f := fun f => by rw [← hv]; rfl
    have hv0 := hvf false
    have hv1 := hvf true
    rw [bW_f] at hv0
    rw [bW_t] at hv1
    rw [hv0, hv1] at e4
    have hs : orT v (t + 1) = orT v t ||| (bN (v t false) ||| bN (v t true) <<< 1) <<< (2 * t) := rfl
    have t32 : 2 * t < 32 := by omega
    simp (disch := first | assumption | omega) only [KL, KB, KC, KI, KJ, KZ, bI_0, bI_n, nI00, nI10, ne_eq, Classical.not_not, not_true_eq_false, not_false_eq_true, if_true, if_false, ite_not, ite_self, Bool.false_eq_true, nIne1, kMask, mask, nIle, hin, O_co, O_pr, AR, nI_shr, nd2, nI_and, nd1, e4, nI_mul, nI_shl, nI_or, nI_add]
    refine ih _ _ ⟨g4, _, by rw [hs], rfl, fun a a1 a2 => by rw [w3 a a1 a2, uN a1, uN a1]; exact h1 a a1 a2, fun i a b c => by rw [w4 i c, uO (Or.inr b), uO (Or.inr a)]; exact h2 i a b c⟩
theorem c_signs {X n : Nat} {co : Nat → List Goods} {fa : FA} {U : Nat → ARule} {K : Nat → Nat} {g : GG} {m o : Nat} (hX : isX X) (hX1 : X + 9 < 77) (hX2 : 16 < X) (n3 : 3 ≤ n) (n6 : n ≤ 6) (hK : CK X n co fa U K g) (hO : ORD g) : ∃ g' g2 : GG, f_X0_meet [.ref 164, .ref X] (hp g m o) = some (none, hp g' X (OO n)) ∧ f_X0_ask [.ref 164, .int (nI 2), .int (-1)] (hp g' X (OO n)) = some (none, hp g2 X (OO n)) ∧ (∀ a, a ≠ 78 → a ≠ 79 → a ≠ 164 → a ≠ 166 → a ≠ 167 → g2 a = g a) ∧ ∀ (g3 : GG) (set : Nat), (∀ a, a ≠ 168 → a ≠ 169 → a ≠ 170 → g3 a = g2 a) → set < 64 → ∃ g4, f_X0_settle [.ref 164, .int (nI 2), .int (nI set)] (hp g3 X (OO n)) = some (none, hp g4 X (OO n)) ∧ (∀ a, a ≠ 168 → a ≠ 169 → g4 a = g3 a) ∧ SET X n co (VR n co (faS fa set) (fun r => U (K (fa 3 r)))) g4 := by
  obtain ⟨g1, e1, p1, p2, p3, p4⟩ := c_meet (g := g) (m := m) (o := o) hX (by omega) n3 n6 hK.co
  have z1 : ∀ a, a < 77 → g1 a = g a := fun a ha => p1 a (by omega) (by omega)
  have hC1 : CO X n co g1 := hK.co.congr (z1 _ (by omega)) (z1 _ (by omega)) (z1 _ (by omega))
  have hA := c_ask (g := g1) hX hX1 hX2 n3 n6 hC1 p4 (nI 2) (-1) (fun r => nI (K (fa 3 r))) (fun r hr' => by
    refine ⟨fun q => absurd rfl q, fun _ => ?_⟩
    have h3 := hK.2.1 3 (by omega) r (by omega)
    have hm : mostN 3 = 1 := rfl
    rw [hm] at h3
    exact ⟨fa 3 r, by omega, by rw [z1 _ (by omega)]; exact h3.2, by rw [z1 _ (by omega)]; exact (hK.2.2.2.2 _ (by omega)).2⟩) (fun x y => nI (orT (fun t f => vT n co fa (fun r => U (K (fa 3 r))) t x y f) 4)) (fun g' x y w1 hx hy hxy w2 => by
    obtain ⟨t1, t2, t3, t4⟩ := ftB_th hxy
    obtain ⟨x1, x2, x3⟩ := thB_lt hC1 hx t1
    obtain ⟨y1, y2, y3⟩ := thB_lt hC1 hy t2
    have hf0 := fun r (hr : r < n) => (hK.2.1 0 (by omega) r (by omega)).2
    have hf1 := fun r (hr : r < n) => (hK.2.1 1 (by omega) r (by omega)).2
    have hf2 := fun r (hr : r < n) => (hK.2.1 2 (by omega) r (by omega)).2
    simp only [Nat.mul_zero, Nat.zero_add] at hf0
    simp only [show 6 * 1 = 6 from rfl] at hf1
    simp only [show 6 * 2 = 12 from rfl] at hf2
    have hfv : fvX X n co g1 x y = fvec n (x / 2) (y / 2) (fun r => nI (fa 0 r)) (fun r => nI (fa 1 r)) (fun r => nI (fa 2 r)) (cG co x) (cG co y) (nI 0) := by
      unfold fvX
      rw [z1 _ (by omega)]
      exact fvec_congr (hf0 _ x1) (hf0 _ y1) (hf1 _ x1) (hf1 _ y1) (hf2 _ x1) (hf2 _ y1)
    rw [hfv] at w2
    exact c_answer2 hK (fun a ha => by rw [w1 a (by omega) (by omega) (by omega), z1 a ha]) x y x1 y1 n6 t3 w2)
  obtain ⟨g2, e2, q1, q2⟩ := hA
  refine ⟨g1, g2, e1, e2, fun a a1 a2 a3 a4 a5 => by rw [q1 a a1 a2 a4, p1 a a3 a5], fun g3 set h1 hs => ?_⟩
  have hf2 : ∀ x, x < 12 → g3 167 x = nI (setN (ftB co x) 12) := fun x hx => by rw [h1 167 (by omega) (by omega) (by omega), q1 167 (by omega) (by omega) (by omega)]; exact p4 x hx
  obtain ⟨g4, e4, r1, r2⟩ := c_settle (g := g3) (X := X) (n := n) (o := OO n) hf2 (nI 2) (nI set) (VR n co (faS fa set) (fun r => U (K (fa 3 r)))) (fun g' x y w1 hx hy hxy => by
    obtain ⟨t1, t2, t3, t4⟩ := ftB_th hxy
    have hv := c_verdict2 g' X (OO n) x y set hx hy hs
    have h2 := q2 x y hx hy hxy
    rw [w1 166 (by omega) (by omega), h1 166 (by omega) (by omega) (by omega), h2] at hv
    refine ⟨_, hv, ?_⟩
    have hb := orT4 (fun t f => vT n co fa (fun r => U (K (fa 3 r))) t x y f) (set.testBit (x / 2)) (set.testBit (y / 2))
    have hV : ∀ f, VR n co (faS fa set) (fun r => U (K (fa 3 r))) x y f = vT n co fa (fun r => U (K (fa 3 r))) (2 * bN (set.testBit (x / 2)) + bN (set.testBit (y / 2))) x y f := fun f => by
      have b1 := bN_lt (set.testBit (x / 2))
      have b2 := bN_lt (set.testBit (y / 2))
      unfold VR vT
      rw [fvec_congr (sz' := fun r => nI (fa 0 r)) (sl' := fun r => nI (fa 1 r)) (sg' := fun r => nI (if r = x / 2 then (2 * bN (set.testBit (x / 2)) + bN (set.testBit (y / 2))) / 2 else (2 * bN (set.testBit (x / 2)) + bN (set.testBit (y / 2))) % 2)) rfl rfl rfl rfl ?_ ?_]
      · show nI (bN (set.testBit (x / 2))) = nI (if x / 2 = x / 2 then _ else _)
        rw [if_pos rfl]
        congr 1
        omega
      · show nI (bN (set.testBit (y / 2))) = nI (if y / 2 = x / 2 then _ else _)
        rw [if_neg t3]
        congr 1
        omega
    rw [hV false, hV true]
    exact hb)
  have zz : ∀ a, a < 77 → g4 a = g a := fun a ha => by rw [r1 a (by omega) (by omega), h1 a (by omega) (by omega) (by omega), q1 a (by omega) (by omega) (by omega), z1 a ha]
  refine ⟨g4, e4, r1, hK.co.congr (zz _ (by omega)) (zz _ (by omega)) (zz _ (by omega)), r2, hO.congr (fun a x y => by rw [r1 a (by omega) (by omega), h1 a (by omega) (by omega) (by omega), q1 a (by omega) (by omega) (by omega), p1 a (by omega) (by omega)]), ?_⟩
  rw [r1 164 (by omega) (by omega), h1 164 (by omega) (by omega) (by omega), q1 164 (by omega) (by omega) (by omega)]
  exact p3
