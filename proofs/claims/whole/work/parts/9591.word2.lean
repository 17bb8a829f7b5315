-- ===== wordings: the class tries them at a crossing =====
def VW (n : Nat) (co : Nat → List Goods) (fa : FA) (w x y : Nat) (f : Bool) : Bool := wgB (wdB (fvec n (x / 2) (y / 2) (fun r => nI (fa 0 r)) (fun r => nI (fa 1 r)) (fun r => nI (fa 2 r)) (cG co x) (cG co y) (bW f))) w
theorem fvec_b (n x y : Nat) (sz sl sg : Nat → Int32) (p q : Goods) (f : Int32) : (∃ b, fvec n x y sz sl sg p q f 0 = bW b) ∧ ∃ b, fvec n x y sz sl sg p q f 1 = bW b := by
  refine ⟨⟨decide (y = (x + 1) % n), ?_⟩, ⟨decide (x = (y + 1) % n), ?_⟩⟩
  · show (if y = (x + 1) % n then nI 1 else nI 0) = _
    by_cases h : y = (x + 1) % n
    · rw [if_pos h, decide_eq_true h]; rfl
    · rw [if_neg h, decide_eq_false h]; rfl
  · show (if x = (y + 1) % n then nI 1 else nI 0) = _
    by_cases h : x = (y + 1) % n
    · rw [if_pos h, decide_eq_true h]; rfl
    · rw [if_neg h, decide_eq_false h]; rfl
theorem c_words {X n : Nat} {co : Nat → List Goods} {fa : FA} {U : Nat → ARule} {K : Nat → Nat} {g : GG} {m o : Nat} (hX : isX X) (hX1 : X + 9 < 77) (hX2 : 16 < X) (n3 : 3 ≤ n) (n6 : n ≤ 6) (hK : CK X n co fa U K g) (hO : ORD g) : ∃ g' g2 : GG, f_X0_meet [.ref 164, .ref X] (hp g m o) = some (none, hp g' X (OO n)) ∧ f_X0_ask [.ref 164, .int (nI 3), .int (nI 0)] (hp g' X (OO n)) = some (none, hp g2 X (OO n)) ∧ (∀ a, a ≠ 78 → a ≠ 79 → a ≠ 164 → a ≠ 166 → a ≠ 167 → g2 a = g a) ∧ ∀ (g3 : GG) (w : Nat), (∀ a, a ≠ 168 → a ≠ 169 → a ≠ 170 → a ≠ 171 → g3 a = g2 a) → okW w → ∃ g4, f_X0_settle [.ref 164, .int (nI 3), .int (nI w)] (hp g3 X (OO n)) = some (none, hp g4 X (OO n)) ∧ (∀ a, a ≠ 168 → a ≠ 169 → g4 a = g3 a) ∧ SET X n co (VW n co fa w) g4 := by
  obtain ⟨g1, e1, p1, p2, p3, p4⟩ := c_meet (g := g) (m := m) (o := o) hX (by omega) n3 n6 hK.co
  have z1 : ∀ a, a < 77 → g1 a = g a := fun a ha => p1 a (by omega) (by omega)
  have hC1 : CO X n co g1 := hK.co.congr (z1 _ (by omega)) (z1 _ (by omega)) (z1 _ (by omega))
  have hA := c_ask (g := g1) hX hX1 hX2 n3 n6 hC1 p4 (nI 3) (nI 0) (fun _ => nI 0) (fun r hr' => ⟨fun _ => rfl, fun q => absurd q (by decide)⟩) (fun x y => nI (wsN (fvec n (x / 2) (y / 2) (fun r => nI (fa 0 r)) (fun r => nI (fa 1 r)) (fun r => nI (fa 2 r)) (cG co x) (cG co y) (nI 0)))) (fun g' x y w1 hx hy hxy w2 => by
    obtain ⟨t1, t2, t3, t4⟩ := ftB_th hxy
    obtain ⟨x1, x2, x3⟩ := thB_lt hC1 hx t1
    obtain ⟨y1, y2, y3⟩ := thB_lt hC1 hy t2
    have hf0 := fun r (hr : r < n) => (hK.2.1 0 (by omega) r (by omega)).2
    have hf1 := fun r (hr : r < n) => (hK.2.1 1 (by omega) r (by omega)).2
    have hf2 := fun r (hr : r < n) => (hK.2.1 2 (by omega) r (by omega)).2
    simp only [Nat.mul_zero, Nat.zero_add] at hf0
    simp only [show 6 * 1 = 6 from rfl] at hf1
    simp only [show 6 * 2 = 12 from rfl] at hf2
    have hfv : fvX X n co g1 x y = fvec n (x / 2) (y / 2) (fun r => nI (fa 0 r)) (fun r => nI (fa 1 r)) (fun r => nI (fa 2 r)) (cG co x) (cG co y) (nI 0) := by
      unfold fvX
      rw [z1 _ (by omega)]
      exact fvec_congr (hf0 _ x1) (hf0 _ y1) (hf1 _ x1) (hf1 _ y1) (hf2 _ x1) (hf2 _ y1)
    rw [hfv] at w2
    obtain ⟨⟨b0, h0⟩, ⟨b1, h1⟩⟩ := fvec_b n (x / 2) (y / 2) (fun r => nI (fa 0 r)) (fun r => nI (fa 1 r)) (fun r => nI (fa 2 r)) (cG co x) (cG co y) (nI 0)
    obtain ⟨g3, e3, v1⟩ := c_byWords g' X (OO n) _ (fun i hi _ => w2 i hi) b0 b1 h0 h1
    refine ⟨g3, ?_, fun a a1 _ => v1 a a1⟩
    simp (disch := first | assumption | omega) only [f_X0_answer, kb_X0_answer_0, KL, KB, KC, KI, KJ, KZ, bI_0, bI_n, nI00, nI10, ne_eq, Classical.not_not, not_true_eq_false, not_false_eq_true, if_true, if_false, ite_not, ite_self, Bool.false_eq_true, nIne1, O_co, TW3, e3])
  obtain ⟨g2, e2, q1, q2⟩ := hA
  refine ⟨g1, g2, e1, e2, fun a a1 a2 a3 a4 a5 => by rw [q1 a a1 a2 a4, p1 a a3 a5], fun g3 w h1 hw => ?_⟩
  have hf2 : ∀ x, x < 12 → g3 167 x = nI (setN (ftB co x) 12) := fun x hx => by rw [h1 167 (by omega) (by omega) (by omega) (by omega), q1 167 (by omega) (by omega) (by omega)]; exact p4 x hx
  obtain ⟨g4, e4, r1, r2⟩ := c_settle (g := g3) (X := X) (n := n) (o := OO n) hf2 (nI 3) (nI w) (VW n co fa w) (fun g' x y w1 hx hy hxy => by
    have h2 := q2 x y hx hy hxy
    have hv := c_verdict3 g' X (OO n) x y w _ hx hy hw (by rw [w1 166 (by omega) (by omega), h1 166 (by omega) (by omega) (by omega) (by omega)]; exact h2)
    rw [fvS_fvec, fvS_fvec] at hv
    exact ⟨_, hv, bN2 _ _⟩)
  have zz : ∀ a, a < 77 → g4 a = g a := fun a ha => by rw [r1 a (by omega) (by omega), h1 a (by omega) (by omega) (by omega) (by omega), q1 a (by omega) (by omega) (by omega), z1 a ha]
  refine ⟨g4, e4, r1, hK.co.congr (zz _ (by omega)) (zz _ (by omega)) (zz _ (by omega)), r2, hO.congr (fun a x y => by rw [r1 a (by omega) (by omega), h1 a (by omega) (by omega) (by omega) (by omega), q1 a (by omega) (by omega) (by omega), p1 a (by omega) (by omega)]), ?_⟩
  rw [r1 164 (by omega) (by omega), h1 164 (by omega) (by omega) (by omega) (by omega), q1 164 (by omega) (by omega) (by omega)]
  exact p3
noncomputable def gdW (n : Nat) (co : Nat → List Goods) (fa : FA) (w : Nat) : Bool := decide ((svNum n co (VW n co fa w) (nuN co n - 1)).1 + (svNum n co (VW n co fa w) (nuN co n - 1)).2.1 = 0)
theorem c_sieve {X n : Nat} {co : Nat → List Goods} {fa : FA} {g2 : GG} (hX : isX X) (hX1 : X + 9 < 77) (n3 : 3 ≤ n) (n6 : n ≤ 6) (hlen : ∀ r, (co r).length ≤ 2) (hco : ∀ r, n ≤ r → co r = []) (b : Nat → Bool) (hb : ∀ w, w < 289 → b w = true → okW w) (h2 : ∀ w, w < 289 → g2 171 w = bW (b w)) (hS : ∀ (g3 : GG) (w : Nat), (∀ a, a ≠ 168 → a ≠ 169 → a ≠ 170 → a ≠ 171 → g3 a = g2 a) → okW w → ∃ g4, f_X0_settle [.ref 164, .int (nI 3), .int (nI w)] (hp g3 X (OO n)) = some (none, hp g4 X (OO n)) ∧ (∀ a, a ≠ 168 → a ≠ 169 → g4 a = g3 a) ∧ SET X n co (VW n co fa w) g4) : ∃ g', f_X0_sieveWordings [.ref 164] (hp g2 X (OO n)) = some (none, hp g' X (OO n)) ∧ (∀ a, a ≠ 168 → a ≠ 169 → a ≠ 170 → a ≠ 171 → g' a = g2 a) ∧ ∀ w, w < 289 → g' 171 w = bW (b w && gdW n co fa w) := by
  have key : ∃ g', kl_X0_sieveWordings_2 [.ref 164, .int (nI 0)] [] (hp g2 X (OO n)) = some (none, hp g' X (OO n)) ∧ (∀ a, a ≠ 168 → a ≠ 169 → a ≠ 170 → a ≠ 171 → g' a = g2 a) ∧ ∀ w, w < 289 → g' 171 w = bW (b w && gdW n co fa w) := by
    unfold kl_X0_sieveWordings_2
    refine kFor 289 (by unfold FU; omega) (fun i ls h => ∃ g', ls = [.ref 164, .int (nI i)] ∧ h = hp g' X (OO n) ∧ (∀ a, a ≠ 168 → a ≠ 169 → a ≠ 170 → a ≠ 171 → g' a = g2 a) ∧ ∀ w, w < 289 → g' 171 w = bW (if w < i then b w && gdW n co fa w else b w)) (fun r => ∃ g', r = some (none, hp g' X (OO n)) ∧ (∀ a, a ≠ 168 → a ≠ 169 → a ≠ 170 → a ≠ 171 → g' a = g2 a) ∧ ∀ w, w < 289 → g' 171 w = bW (b w && gdW n co fa w)) ?_ ?_ 0 _ _ (by omega) ⟨g2, rfl, rfl, fun _ _ _ _ _ => rfl, fun w hw => by rw [if_neg (by omega)]; exact h2 w hw⟩
    · rintro s0 ls h ⟨g', rfl, rfl, h1, h3⟩
      have hin : (288 < 289) = True := eq_true (by omega)
      simp (disch := first | assumption | omega) only [KL, KB, KC, KI, KJ, KZ, bI_0, bI_n, nI00, nI10, ne_eq, Classical.not_not, not_true_eq_false, not_false_eq_true, if_true, if_false, ite_not, ite_self, Bool.false_eq_true, nIne1, kMask, mask, mask_n, nIlt, hin]
      exact ⟨g', rfl, h1, fun w hw => by rw [h3 w hw, if_pos hw]⟩
    · rintro s0 i hi ih ls h ⟨g', rfl, rfl, h1, h3⟩
      have hin : (288 < i) = False := eq_false (by omega)
      have hci := h3 i hi
      rw [if_neg (by omega)] at hci
      cases hbi : b i with
      | false =>
        rw [hbi] at hci
        have hz : (bW false = 0) = True := eq_true rfl
        simp (disch := first | assumption | omega) only [kb_X0_sieveWordings_42, KL, KB, KC, KI, KJ, KZ, bI_0, bI_n, nI00, nI10, ne_eq, Classical.not_not, not_true_eq_false, not_false_eq_true, if_true, if_false, ite_not, ite_self, Bool.false_eq_true, nIne1, kMask, mask, mask_n, O_co, AR, nIlt, hin, hci, hz, nI_add]
        refine ih _ _ ⟨g', rfl, rfl, h1, fun w hw => ?_⟩
        rw [h3 w hw]
        by_cases q : w < i
        · rw [if_pos q, if_pos (by omega)]
        · rw [if_neg q]
          by_cases q2 : w = i
          · rw [if_pos (by omega), q2, hbi]; rfl
          · rw [if_neg (by omega)]
      | true =>
        rw [hbi] at hci
        have hz : (bW true = 0) = False := eq_false (by decide)
        obtain ⟨g4, e4, q1, q2⟩ := hS g' i h1 (hb i hi hbi)
        obtain ⟨g5, e5, q3⟩ := c_isEverBad hX hX1 n3 n6 hlen hco q2
        have e5' : f_X0_isEverBad [.ref 164] (hp g4 X (OO n)) = some (some (.int (bW (!gdW n co fa i))), hp g5 X (OO n)) := e5
        have z5 : ∀ a, a ≠ 168 → a ≠ 169 → a ≠ 170 → a ≠ 171 → g5 a = g2 a := fun a a1 a2 a3 a4 => by rw [q3 a a3, q1 a a1 a2]; exact h1 a a1 a2 a3 a4
        have z180 : g5 171 = g' 171 := by rw [q3 171 (by omega), q1 171 (by omega) (by omega)]
        have fin : ∀ v : Int32, v = bW (gdW n co fa i) → ∃ g'', s0 [.ref 164, .int (nI (i + 1))] [] (hp (upd2 g5 171 i v) X (OO n)) = some (none, hp g'' X (OO n)) ∧ (∀ a, a ≠ 168 → a ≠ 169 → a ≠ 170 → a ≠ 171 → g'' a = g2 a) ∧ ∀ w, w < 289 → g'' 171 w = bW (b w && gdW n co fa w) := fun v hv => ih _ _ ⟨_, rfl, rfl, fun a a1 a2 a3 a4 => by rw [uN a4]; exact z5 a a1 a2 a3 a4, fun w hw => by
          by_cases q : w = i
          · rw [q, uS, hv, if_pos (by omega), hbi]; rfl
          · rw [uO (Or.inr q), z180, h3 w hw]
            by_cases q2 : w < i
            · rw [if_pos q2, if_pos (by omega)]
            · rw [if_neg q2, if_neg (by omega)]⟩
        have o1 : nI 1 = nI 0 ∨ nI 1 = nI 1 := Or.inr rfl
        have o0 : nI 0 = nI 0 ∨ nI 0 = nI 1 := Or.inl rfl
        cases hg : gdW n co fa i with
        | true =>
          rw [hg] at e5'
          have hz1 : (bW (!true) = 0) = True := eq_true rfl
          simp (disch := first | assumption | omega) only [kb_X0_sieveWordings_42, kb_X0_sieveWordings_41, KL, KB, KC, KI, KJ, KZ, bI_0, bI_n, nI00, nI10, ne_eq, Classical.not_not, not_true_eq_false, not_false_eq_true, if_true, if_false, ite_not, ite_self, Bool.false_eq_true, nIne1, kMask, mask, mask_n, O_co, AR, nIlt, hin, hci, hz, e4, e5', hz1, nI_add]
          exact fin _ (by rw [hg]; rfl)
        | false =>
          rw [hg] at e5'
          have hz1 : (bW (!false) = 0) = False := eq_false (by decide)
          simp (disch := first | assumption | omega) only [kb_X0_sieveWordings_42, kb_X0_sieveWordings_41, KL, KB, KC, KI, KJ, KZ, bI_0, bI_n, nI00, nI10, ne_eq, Classical.not_not, not_true_eq_false, not_false_eq_true, if_true, if_false, ite_not, ite_self, Bool.false_eq_true, nIne1, kMask, mask, mask_n, O_co, AR, nIlt, hin, hci, hz, e4, e5', hz1, nI_add]
          exact fin _ (by rw [hg]; rfl)
  obtain ⟨g', e, w⟩ := key
  refine ⟨g', ?_, w⟩
  rw [← e]
  simp (disch := first | assumption | omega) only [f_X0_sieveWordings, kb_X0_sieveWordings_0, KL, KB, KC, KI, KJ, KZ, bI_0, bI_n, nI00, nI10, ne_eq, Classical.not_not, not_true_eq_false, not_false_eq_true, if_true, if_false, ite_not, ite_self, Bool.false_eq_true, nIne1]
