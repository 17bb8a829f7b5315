-- ===== wordings: both sides at a crossing; the class tries them; the model's isSound =====
def tryC (g : GG) (c o' : Nat) (G : Nat → Bool) : Prop := ∀ (g0 : GG) (m o : Nat) (b : Nat → Bool), KEEP g g0 → (∀ w, w < 289 → b w = true → okW w) → (∀ w, w < 289 → g0 171 w = bW (b w)) → ∃ g1 g2 g3 : GG, f_X0_meet [.ref 164, .ref (17 + 10 * c)] (hp g0 m o) = some (none, hp g1 (17 + 10 * c) o') ∧ f_X0_ask [.ref 164, .int (nI 3), .int (nI 0)] (hp g1 (17 + 10 * c) o') = some (none, hp g2 (17 + 10 * c) o') ∧ f_X0_sieveWordings [.ref 164] (hp g2 (17 + 10 * c) o') = some (none, hp g3 (17 + 10 * c) o') ∧ KEEP g g3 ∧ g3 188 = g0 188 ∧ ∀ w, w < 289 → g3 171 w = bW (b w && G w)
def tryM (g : GG) (c : Nat) (G : Nat → Bool) : Prop := ∀ (g0 : GG) (m o w : Nat), g0 189 = g 189 → g0 188 33 = nI w → okW w → ∃ g1 g2 : GG, f_X11_laysOut [.ref 188, .int (nI c)] (hp g0 m o) = some (none, hp g1 m o) ∧ f_X11_goesThrough [.ref 188, .int (nI c), .int (nI 1)] (hp g1 m o) = some (some (.int (bW (G w))), hp g2 m o) ∧ (∀ a, a ≠ 188 → (a < 194 ∨ 207 < a) → g2 a = g0 a) ∧ ∀ i, (i < 37 ∨ 45 < i) → i ≠ 20 → g2 188 i = g0 188 i
theorem RT.words {j : Nat} {g : GG} {m o c : Nat} (hR : RT j g m o) (hc : c < 6) : ∃ (G : Nat → Bool) (o' : Nat), tryC g c o' G ∧ tryM g c G := by
  have hX := isX_live c hc
  obtain ⟨n, hx⟩ := hR.at hc
  obtain ⟨n3, n6, en, em, -⟩ := id hx
  obtain ⟨co, fa, U, K, hCK, hMK, hco, hlen, hok⟩ := hR.comeP hc hx
  refine ⟨gdW n co fa, OO n, fun g0 m o b hk hb hb2 => ?_, fun g0 m o w z z33 hw => ?_⟩
  · have z81 : ∀ a, a < 77 → g0 a = g a := fun a ha => hk.1 a (by omega)
    have hCK0 : CK (17 + 10 * c) n co fa U K g0 := hCK.congr (by omega) (by omega) (fun a a1 _ _ _ => z81 a a1)
    have hO : ORD g0 := (show ORD g from hR.2.2.2.2.2.1).congr (fun a x y => hk.2.2.1 a x y)
    obtain ⟨g1, g2, e1, e2, p1, p2⟩ := c_words (m := m) (o := o) hX (by omega) (by omega) n3 n6 hCK0 hO
    obtain ⟨g3, e3, q1, q2⟩ := c_sieve (fa := fa) hX (by omega) n3 n6 hlen hco b hb (fun w hw => by rw [p1 171 (by omega) (by omega) (by omega) (by omega) (by omega)]; exact hb2 w hw) p2
    exact ⟨g1, g2, g3, e1, e2, e3, hk.tr (KEEP.of (fun a x y z w => by rw [q1 a (by omega) (by omega) (by omega) (by omega), p1 a (by omega) (by omega) (by omega) (by omega) (by omega)]) (fun i _ => by rw [q1 188 (by omega) (by omega) (by omega) (by omega), p1 188 (by omega) (by omega) (by omega) (by omega) (by omega)])), by rw [q1 188 (by omega) (by omega) (by omega) (by omega), p1 188 (by omega) (by omega) (by omega) (by omega) (by omega)], q2⟩
  · have z8 : g0 189 = g 189 := z
    have hMK0 : MK (10 + 560 * c) n co fa U K g0 := hMK.congr (by omega) (by omega) (FR8.of z8)
    obtain ⟨g4, e4, r1, r2, r3, r4⟩ := hMK0.base (m := m) (o := o) hc n6
    have h33 : g4 188 33 = nI w := by rw [r2 33 (by omega)]; exact z33
    have hV : MWV n co (VW n co fa w) g4 m o := mwv_words n3 n6 hlen hok r3.1 (fun r hr => ⟨(r4 r hr).1, (r4 r hr).2.1, (r4 r hr).2.2.1⟩) h33 hw
    obtain ⟨g5, e5, w1, -⟩ := m_thru (m := m) (o := o) true hc n3 n6 r3 hco hV
    exact ⟨g4, g5, e4, e5, fun a a1 a2 => by rw [w1.1 a a1 (by omega) (by omega) (by omega) (by omega) (by omega) (by omega) (by omega) (by omega), r1 a a1 (by omega)], fun i hi hi2 => by rw [w1.2 i hi, r2 i hi2]⟩
-- is it a wording; a set of crossings
theorem c_isW (w : Nat) (hw : w < 1000) (h : HP) : f_X10_isWording [.int (nI w)] h = some (some (.int (bW (decide (okW w)))), h) := by
  by_cases a : w < 1
  · have a' : (w < 1) = True := eq_true a
    rw [decide_eq_false (fun q => by have := q.1; omega)]
    simp (disch := first | assumption | omega) only [f_X10_isWording, kb_X10_isWording_12, kb_X10_isWording_32, kb_X10_isWording_27, kb_X10_isWording_0, KL, KB, KC, KI, KJ, KZ, bI_0, bI_n, nI00, nI10, ne_eq, Classical.not_not, not_true_eq_false, not_false_eq_true, if_true, if_false, ite_not, ite_self, Bool.false_eq_true, nIne1, nIlt, a', bW_f]
  · have a' : (w < 1) = False := eq_false a
    by_cases b : w ≤ 288
    · have b' : (w ≤ 288) = True := eq_true b
      have z17 : (nI 17 = 0) = False := eq_false (by decide)
      by_cases c : w ≤ 16
      · have c' : (w ≤ 16) = True := eq_true c
        rw [decide_eq_true (⟨by omega, b, by omega⟩ : okW w)]
        simp (disch := first | assumption | omega) only [f_X10_isWording, kb_X10_isWording_12, kb_X10_isWording_32, kb_X10_isWording_27, kb_X10_isWording_0, KL, KB, KC, KI, KJ, KZ, bI_0, bI_n, nI00, nI10, ne_eq, Classical.not_not, not_true_eq_false, not_false_eq_true, if_true, if_false, ite_not, ite_self, Bool.false_eq_true, nIne1, nIlt, nIle, a', b', c', bW_t]
      · have c' : (w ≤ 16) = False := eq_false c
        have m17 : w % 17 < 2147483648 := by have := Nat.mod_lt w (show 0 < 17 by omega); omega
        by_cases d : w % 17 = 0
        · have d' : (nI (w % 17) = 0) = True := by rw [nIk0 m17]; exact eq_true d
          rw [decide_eq_false (fun q => q.2.2 d)]
          simp (disch := first | assumption | omega) only [f_X10_isWording, kb_X10_isWording_12, kb_X10_isWording_32, kb_X10_isWording_27, kb_X10_isWording_0, KL, KB, KC, KI, KJ, KZ, bI_0, bI_n, nI00, nI10, ne_eq, Classical.not_not, not_true_eq_false, not_false_eq_true, if_true, if_false, ite_not, ite_self, Bool.false_eq_true, nIne1, nIlt, nIle, a', b', c', nI_div, nI_rem2, d', bW_f, z17]
        · have d' : (nI (w % 17) = 0) = False := by rw [nIk0 m17]; exact eq_false d
          rw [decide_eq_true (⟨by omega, b, d⟩ : okW w)]
          simp (disch := first | assumption | omega) only [f_X10_isWording, kb_X10_isWording_12, kb_X10_isWording_32, kb_X10_isWording_27, kb_X10_isWording_0, KL, KB, KC, KI, KJ, KZ, bI_0, bI_n, nI00, nI10, ne_eq, Classical.not_not, not_true_eq_false, not_false_eq_true, if_true, if_false, ite_not, ite_self, Bool.false_eq_true, nIne1, nIlt, nIle, a', b', c', nI_div, nI_rem2, d', bW_t, z17]
    · have b' : (w ≤ 288) = False := eq_false b
      rw [decide_eq_false (fun q => by have := q.2.1; omega)]
      simp (disch := first | assumption | omega) only [f_X10_isWording, kb_X10_isWording_12, kb_X10_isWording_32, kb_X10_isWording_27, kb_X10_isWording_0, KL, KB, KC, KI, KJ, KZ, bI_0, bI_n, nI00, nI10, ne_eq, Classical.not_not, not_true_eq_false, not_false_eq_true, if_true, if_false, ite_not, ite_self, Bool.false_eq_true, nIne1, nIlt, nIle, a', b', bW_f]
theorem m_isW (w : Nat) (hw : w < 1000) (h : HP) : f_X11_isWording [.int (nI w)] h = some (some (.int (bW (decide (okW w)))), h) := by
  by_cases a : 1 ≤ w ∧ w ≤ 288
  · have a' : (nI 1 ≤ nI w ∧ nI w ≤ nI 288) = True := by rw [nIle (by omega) (by omega), nIle (by omega) (by omega)]; exact eq_true a
    have m17 : w % 17 < 2147483648 := by have := Nat.mod_lt w (show 0 < 17 by omega); omega
    have z17 : (nI 17 = 0) = False := eq_false (by decide)
    by_cases d : w % 17 = 0
    · have d' : (nI (w % 17) = 0) = True := by rw [nIk0 m17]; exact eq_true d
      rw [decide_eq_false (fun q => q.2.2 d)]
      simp (disch := first | assumption | omega) only [f_X11_isWording, kb_X11_isWording_23, kb_X11_isWording_22, kb_X11_isWording_0, KL, KB, KC, KI, KJ, KZ, bI_0, bI_n, nI00, nI10, ne_eq, Classical.not_not, not_true_eq_false, not_false_eq_true, if_true, if_false, ite_not, ite_self, Bool.false_eq_true, nIne1, m_isIn, a', nI_div, nI_rem2, d', bW_f, z17]
    · have d' : (nI (w % 17) = 0) = False := by rw [nIk0 m17]; exact eq_false d
      rw [decide_eq_true (⟨a.1, a.2, d⟩ : okW w)]
      simp (disch := first | assumption | omega) only [f_X11_isWording, kb_X11_isWording_23, kb_X11_isWording_22, kb_X11_isWording_0, KL, KB, KC, KI, KJ, KZ, bI_0, bI_n, nI00, nI10, ne_eq, Classical.not_not, not_true_eq_false, not_false_eq_true, if_true, if_false, ite_not, ite_self, Bool.false_eq_true, nIne1, m_isIn, a', nI_div, nI_rem2, d', bW_t, z17]
  · have a' : (nI 1 ≤ nI w ∧ nI w ≤ nI 288) = False := by rw [nIle (by omega) (by omega), nIle (by omega) (by omega)]; exact eq_false a
    rw [decide_eq_false (fun q => a ⟨q.1, q.2.1⟩)]
    simp (disch := first | assumption | omega) only [f_X11_isWording, kb_X11_isWording_23, kb_X11_isWording_22, kb_X11_isWording_0, KL, KB, KC, KI, KJ, KZ, bI_0, bI_n, nI00, nI10, ne_eq, Classical.not_not, not_true_eq_false, not_false_eq_true, if_true, if_false, ite_not, ite_self, Bool.false_eq_true, nIne1, m_isIn, a', bW_f]
theorem i_le1 {a : Int32} (h : nI 1 ≤ a) : nI 0 ≤ a := Int32.le_trans (by decide) h
theorem c_isWN (a : Int32) (h1 : ¬ (nI 0 ≤ a ∧ a ≤ nI 288)) (h : HP) : f_X10_isWording [.int a] h = some (some (.int (nI 0)), h) := by
  by_cases q : a < nI 1
  · have q' : (a < nI 1) = True := eq_true q
    simp (disch := first | assumption | omega) only [f_X10_isWording, kb_X10_isWording_12, kb_X10_isWording_32, kb_X10_isWording_27, kb_X10_isWording_0, KL, KB, KC, KI, KJ, KZ, bI_0, bI_n, nI00, nI10, ne_eq, Classical.not_not, not_true_eq_false, not_false_eq_true, if_true, if_false, ite_not, ite_self, Bool.false_eq_true, nIne1, q']
  · have q' : (a < nI 1) = False := eq_false q
    have r' : (a ≤ nI 288) = False := eq_false (fun r => h1 ⟨i_le1 (Int32.not_lt.mp q), r⟩)
    simp (disch := first | assumption | omega) only [f_X10_isWording, kb_X10_isWording_12, kb_X10_isWording_32, kb_X10_isWording_27, kb_X10_isWording_0, KL, KB, KC, KI, KJ, KZ, bI_0, bI_n, nI00, nI10, ne_eq, Classical.not_not, not_true_eq_false, not_false_eq_true, if_true, if_false, ite_not, ite_self, Bool.false_eq_true, nIne1, q', r']
theorem m_isWN (a : Int32) (h1 : ¬ (nI 0 ≤ a ∧ a ≤ nI 288)) (h : HP) : f_X11_isWording [.int a] h = some (some (.int (nI 0)), h) := by
  have r' : (nI 1 ≤ a ∧ a ≤ nI 288) = False := eq_false (fun r => h1 ⟨i_le1 r.1, r.2⟩)
  simp (disch := first | assumption | omega) only [f_X11_isWording, kb_X11_isWording_23, kb_X11_isWording_22, kb_X11_isWording_0, KL, KB, KC, KI, KJ, KZ, bI_0, bI_n, nI00, nI10, ne_eq, Classical.not_not, not_true_eq_false, not_false_eq_true, if_true, if_false, ite_not, ite_self, Bool.false_eq_true, nIne1, m_isIn, r']
theorem c_isSet (a : Int32) (h : HP) : f_X10_isCrossingSet [.int a] h = some (some (.int (bI (nI 1 ≤ a ∧ a ≤ nI 63))), h) := by
  by_cases q : a ≤ 0
  · have q' : (a ≤ 0) = True := eq_true q
    have r' : (nI 1 ≤ a ∧ a ≤ nI 63) = False := eq_false (fun r => absurd (Int32.le_trans r.1 q) (by decide))
    simp (disch := first | assumption | omega) only [f_X10_isCrossingSet, kb_X10_isCrossingSet_15, kb_X10_isCrossingSet_14, kb_X10_isCrossingSet_0, KL, KB, KC, KI, KJ, KZ, bI_0, bI_n, nI00, nI10, ne_eq, Classical.not_not, not_true_eq_false, not_false_eq_true, if_true, if_false, ite_not, ite_self, Bool.false_eq_true, nIne1, q', r']
    rfl
  · have q' : (a ≤ 0) = False := eq_false q
    have h1 : nI 1 ≤ a := by
      have e0 : (0 : Int32).toInt = 0 := by decide
      have e1 : (nI 1).toInt = 1 := by decide
      rw [Int32.le_iff_toInt_le, e0] at q
      rw [Int32.le_iff_toInt_le, e1]
      omega
    by_cases r : nI 64 ≤ a
    · have r0 : (nI 64 ≤ a) = True := eq_true r
      have r' : (nI 1 ≤ a ∧ a ≤ nI 63) = False := eq_false (fun s => absurd (Int32.le_trans r s.2) (by decide))
      simp (disch := first | assumption | omega) only [f_X10_isCrossingSet, kb_X10_isCrossingSet_15, kb_X10_isCrossingSet_14, kb_X10_isCrossingSet_0, KL, KB, KC, KI, KJ, KZ, bI_0, bI_n, nI00, nI10, ne_eq, Classical.not_not, not_true_eq_false, not_false_eq_true, if_true, if_false, ite_not, ite_self, Bool.false_eq_true, nIne1, q', r0, r']
      rfl
    · have r0 : (nI 64 ≤ a) = False := eq_false r
      have h2 : a ≤ nI 63 := by
        have e0 : (nI 64).toInt = 64 := by decide
        have e1 : (nI 63).toInt = 63 := by decide
        rw [Int32.le_iff_toInt_le, e0] at r
        rw [Int32.le_iff_toInt_le, e1]
        omega
      have r' : (nI 1 ≤ a ∧ a ≤ nI 63) = True := eq_true ⟨h1, h2⟩
      simp (disch := first | assumption | omega) only [f_X10_isCrossingSet, kb_X10_isCrossingSet_15, kb_X10_isCrossingSet_14, kb_X10_isCrossingSet_0, KL, KB, KC, KI, KJ, KZ, bI_0, bI_n, nI00, nI10, ne_eq, Classical.not_not, not_true_eq_false, not_false_eq_true, if_true, if_false, ite_not, ite_self, Bool.false_eq_true, nIne1, q', r0, r']
      rfl
/-- is w sound at all crossings below i that S has -/
def allG (G : Nat → Nat → Bool) (S w i : Nat) : Bool := decide (∀ c, c < i → S.testBit c = true → G c w = true)
theorem allG_0 (G : Nat → Nat → Bool) (S w : Nat) : allG G S w 0 = true := decide_eq_true (fun c hc => by omega)
theorem allG_skip {G : Nat → Nat → Bool} {S w i : Nat} (h : S.testBit i = false) : allG G S w (i + 1) = allG G S w i := by
  unfold allG
  refine decide_eq_decide.mpr ⟨?_, ?_⟩
  · intro q c hc hs; exact q c (by omega) hs
  · intro q c hc hs
    by_cases e : c = i
    · rw [e, h] at hs; cases hs
    · exact q c (by omega) hs
theorem allG_step {G : Nat → Nat → Bool} {S w i : Nat} (h : S.testBit i = true) : allG G S w (i + 1) = (allG G S w i && G i w) := by
  unfold allG
  by_cases a : ∀ c, c < i → S.testBit c = true → G c w = true
  · rw [decide_eq_true a, Bool.true_and]
    cases b : G i w with
    | true =>
      refine decide_eq_true (fun c hc hs => ?_)
      by_cases e : c = i
      · rw [e]; exact b
      · exact a c (by omega) hs
    | false => exact decide_eq_false (fun q => by have := q i (by omega) h; rw [b] at this; cases this)
  · rw [decide_eq_false a, Bool.false_and]
    exact decide_eq_false (fun q => a (fun c hc hs => q c (by omega) hs))
theorem allG_false {G : Nat → Nat → Bool} {S w i j : Nat} (h : i ≤ j) (hf : allG G S w i = false) : allG G S w j = false := by
  unfold allG at *
  exact decide_eq_false (fun q => of_decide_eq_false hf (fun c hc hs => q c (by omega) hs))
def bwW (lo hi w : Nat) : Bool := decide (lo ≤ w ∧ w ≤ hi ∧ okW w)
theorem c_try {j S lo hi : Nat} {g : GG} {m o : Nat} (hS : S < 64) (hlo : lo < 1000) (hhi : hi < 1000) (G : Nat → Nat → Bool) (hG : ∀ c, c < 6 → ∃ o', tryC g c o' (G c)) : ∃ (g' : GG) (m' o' : Nat), f_X0_tryWordings [.ref 164, .int (nI S), .int (nI lo), .int (nI hi)] (hp g m o) = some (none, hp g' m' o') ∧ KEEP g g' ∧ g' 188 = g 188 ∧ ∀ w, w < 289 → g' 171 w = bW (bwW lo hi w && allG G S w 6) := by
  -- the crossings
  have hcr : ∀ (g0 : GG) (v2 v3 : Value), KEEP g g0 → g0 188 = g 188 → (∀ w, w < 289 → g0 171 w = bW (bwW lo hi w)) → ∃ (g' : GG) (m' o' : Nat), kl_X0_tryWordings_52 [.ref 164, .int (nI S), v2, v3, .int (nI 0)] [] (hp g0 m o) = some (none, hp g' m' o') ∧ KEEP g g' ∧ g' 188 = g 188 ∧ ∀ w, w < 289 → g' 171 w = bW (bwW lo hi w && allG G S w 6) := by
    intro g0 v2 v3 hk0 hz0 h0
    unfold kl_X0_tryWordings_52
    refine kFor 6 (by unfold FU; omega) (fun i ls h => ∃ (g' : GG) (m' o' : Nat) (v2 v3 : Value), ls = [.ref 164, .int (nI S), v2, v3, .int (nI i)] ∧ h = hp g' m' o' ∧ KEEP g g' ∧ g' 188 = g 188 ∧ ∀ w, w < 289 → g' 171 w = bW (bwW lo hi w && allG G S w i)) (fun r => ∃ (g' : GG) (m' o' : Nat), r = some (none, hp g' m' o') ∧ KEEP g g' ∧ g' 188 = g 188 ∧ ∀ w, w < 289 → g' 171 w = bW (bwW lo hi w && allG G S w 6)) ?_ ?_ 0 _ _ (by omega) ⟨g0, m, o, v2, v3, rfl, rfl, hk0, hz0, fun w hw => by rw [allG_0, Bool.and_true]; exact h0 w hw⟩
    · rintro s0 ls h ⟨g', m', o', v2, v3, rfl, rfl, h1, h2, h3⟩
      have hin : (6 ≤ 6) = True := eq_true (by omega)
      simp (disch := first | assumption | omega) only [KL, KB, KC, KI, KJ, KZ, bI_0, bI_n, nI00, nI10, ne_eq, Classical.not_not, not_true_eq_false, not_false_eq_true, if_true, if_false, ite_not, ite_self, Bool.false_eq_true, nIne1, kMask, mask, mask_n, nIle, hin]
      exact ⟨g', m', o', rfl, h1, h2, h3⟩
    · rintro s0 i hi6 ih ls h ⟨g', m', o', v2, v3, rfl, rfl, h1, h2, h3⟩
      have hin : (6 ≤ i) = False := eq_false (by omega)
      have hb : (nI ((S >>> i) &&& 1) = 0) = (S.testBit i = false) := by rw [bit0, Nat.testBit_shiftRight, Nat.add_zero]
      cases hs : S.testBit i with
      | false =>
        have hs' : (S.testBit i = false) = True := eq_true hs
        simp (disch := first | assumption | omega) only [kb_X0_tryWordings_92, KL, KB, KC, KI, KJ, KZ, bI_0, bI_n, nI00, nI10, ne_eq, Classical.not_not, not_true_eq_false, not_false_eq_true, if_true, if_false, ite_not, ite_self, Bool.false_eq_true, nIne1, kMask, mask, mask_n, nIle, hin, nI_shr, nI_and, hb, hs', nI_add]
        exact ih _ _ ⟨g', m', o', _, _, rfl, rfl, h1, h2, fun w hw => by rw [allG_skip hs]; exact h3 w hw⟩
      | true =>
        have hs' : (S.testBit i = false) = False := eq_false (by rw [hs]; decide)
        obtain ⟨oo, hA⟩ := hG i hi6
        obtain ⟨g1, g2, g3, e1, e2, e3, k3, z3, w3⟩ := hA g' m' o' (fun w => bwW lo hi w && allG G S w i) h1 (fun w _ hb => by
          rw [Bool.and_eq_true] at hb
          exact (of_decide_eq_true hb.1).2.2) h3
        simp (disch := first | assumption | omega) only [kb_X0_tryWordings_92, KL, KB, KC, KI, KJ, KZ, bI_0, bI_n, nI00, nI10, ne_eq, Classical.not_not, not_true_eq_false, not_false_eq_true, if_true, if_false, ite_not, ite_self, Bool.false_eq_true, nIne1, kMask, mask, mask_n, nIle, hin, nI_shr, nI_and, hb, hs', O_w, O_co, aalX, e1, e2, e3, nI_add]
        exact ih _ _ ⟨g3, _, _, _, _, rfl, rfl, k3, z3.trans h2, fun w hw => by rw [allG_step hs, ← Bool.and_assoc]; exact w3 w hw⟩
  have key : ∃ (g' : GG) (m' o' : Nat), kl_X0_tryWordings_3 [.ref 164, .int (nI S), .int (nI lo), .int (nI hi), .int (nI 0)] [] (hp g m o) = some (none, hp g' m' o') ∧ KEEP g g' ∧ g' 188 = g 188 ∧ ∀ w, w < 289 → g' 171 w = bW (bwW lo hi w && allG G S w 6) := by
    unfold kl_X0_tryWordings_3
    refine kFor 289 (by unfold FU; omega) (fun i ls h => ∃ (g' : GG), ls = [.ref 164, .int (nI S), .int (nI lo), .int (nI hi), .int (nI i)] ∧ h = hp g' m o ∧ (∀ a, a ≠ 171 → g' a = g a) ∧ ∀ w, w < i → g' 171 w = bW (bwW lo hi w)) (fun r => ∃ (g' : GG) (m' o' : Nat), r = some (none, hp g' m' o') ∧ KEEP g g' ∧ g' 188 = g 188 ∧ ∀ w, w < 289 → g' 171 w = bW (bwW lo hi w && allG G S w 6)) ?_ ?_ 0 _ _ (by omega) ⟨g, rfl, rfl, fun _ _ => rfl, fun w hw => by omega⟩
    · rintro s0 ls h ⟨g', rfl, rfl, h1, h2⟩
      have hin : (288 < 289) = True := eq_true (by omega)
      have := hcr g' (.int (nI lo)) (.int (nI hi)) (KEEP.of (fun a x y z w => h1 a (by omega)) (fun i _ => by rw [h1 188 (by omega)])) (h1 188 (by omega)) h2
      simp (disch := first | assumption | omega) only [KL, KB, KC, KI, KJ, KZ, bI_0, bI_n, nI00, nI10, ne_eq, Classical.not_not, not_true_eq_false, not_false_eq_true, if_true, if_false, ite_not, ite_self, Bool.false_eq_true, nIne1, kMask, mask, mask_n, nIlt, hin]
      exact this
    · rintro s0 i hi9 ih ls h ⟨g', rfl, rfl, h1, h2⟩
      have hin : (288 < i) = False := eq_false (by omega)
      have fin : ∀ v : Int32, v = bW (bwW lo hi i) → ∃ (g'' : GG) (m' o' : Nat), s0 [.ref 164, .int (nI S), .int (nI lo), .int (nI hi), .int (nI (i + 1))] [] (hp (upd2 g' 171 i v) m o) = some (none, hp g'' m' o') ∧ KEEP g g'' ∧ g'' 188 = g 188 ∧ ∀ w, w < 289 → g'' 171 w = bW (bwW lo hi w && allG G S w 6) := fun v hv => ih _ _ ⟨_, rfl, rfl, fun a ha => by rw [uN ha]; exact h1 a ha, fun w hw => by
        by_cases q : w = i
        · rw [q, uS, hv]
        · rw [uO (Or.inr q)]; exact h2 w (by omega)⟩
      have o1 : nI 1 = nI 0 ∨ nI 1 = nI 1 := Or.inr rfl
      have o0 : nI 0 = nI 0 ∨ nI 0 = nI 1 := Or.inl rfl
      have ew := fun h => c_isW i (by omega) h
      by_cases a : i < lo
      · have a' : (i < lo) = True := eq_true a
        have := fin (nI 0) (by unfold bwW; rw [decide_eq_false (fun q => by have := q.1; omega)]; rfl)
        simp (disch := first | assumption | omega) only [kb_X0_tryWordings_41, kb_X0_tryWordings_42, KL, KB, KC, KI, KJ, KZ, bI_0, bI_n, nI00, nI10, ne_eq, Classical.not_not, not_true_eq_false, not_false_eq_true, if_true, if_false, ite_not, ite_self, Bool.false_eq_true, nIne1, kMask, mask, mask_n, O_co, AR, nIlt, hin, a', nI_add]
        exact this
      · have a' : (i < lo) = False := eq_false a
        by_cases b : hi < i
        · have b' : (hi < i) = True := eq_true b
          have := fin (nI 0) (by unfold bwW; rw [decide_eq_false (fun q => by have := q.2.1; omega)]; rfl)
          simp (disch := first | assumption | omega) only [kb_X0_tryWordings_41, kb_X0_tryWordings_42, KL, KB, KC, KI, KJ, KZ, bI_0, bI_n, nI00, nI10, ne_eq, Classical.not_not, not_true_eq_false, not_false_eq_true, if_true, if_false, ite_not, ite_self, Bool.false_eq_true, nIne1, kMask, mask, mask_n, O_co, AR, nIlt, hin, a', b', nI_add]
          exact this
        · have b' : (hi < i) = False := eq_false b
          by_cases d : okW i
          · rw [decide_eq_true d] at ew
            have hz : (bW true = 0) = False := eq_false (by decide)
            have := fin (nI 1) (by unfold bwW; rw [decide_eq_true (⟨by omega, by omega, d⟩ : lo ≤ i ∧ i ≤ hi ∧ okW i)]; rfl)
            simp (disch := first | assumption | omega) only [kb_X0_tryWordings_41, kb_X0_tryWordings_42, KL, KB, KC, KI, KJ, KZ, bI_0, bI_n, nI00, nI10, ne_eq, Classical.not_not, not_true_eq_false, not_false_eq_true, if_true, if_false, ite_not, ite_self, Bool.false_eq_true, nIne1, kMask, mask, mask_n, O_co, AR, nIlt, hin, a', b', ew, hz, nI_add]
            exact this
          · rw [decide_eq_false d] at ew
            have hz : (bW false = 0) = True := eq_true rfl
            have := fin (nI 0) (by unfold bwW; rw [decide_eq_false (fun q => d q.2.2)]; rfl)
            simp (disch := first | assumption | omega) only [kb_X0_tryWordings_41, kb_X0_tryWordings_42, KL, KB, KC, KI, KJ, KZ, bI_0, bI_n, nI00, nI10, ne_eq, Classical.not_not, not_true_eq_false, not_false_eq_true, if_true, if_false, ite_not, ite_self, Bool.false_eq_true, nIne1, kMask, mask, mask_n, O_co, AR, nIlt, hin, a', b', ew, hz, nI_add]
            exact this
  obtain ⟨g', m', o', e, w⟩ := key
  refine ⟨g', m', o', ?_, w⟩
  rw [← e]
  simp (disch := first | assumption | omega) only [f_X0_tryWordings, kb_X0_tryWordings_0, KL, KB, KC, KI, KJ, KZ, bI_0, bI_n, nI00, nI10, ne_eq, Classical.not_not, not_true_eq_false, not_false_eq_true, if_true, if_false, ite_not, ite_self, Bool.false_eq_true, nIne1]
/-- the model's frame when it tries a wording -/
def FM (g g' : GG) : Prop := (∀ a, a ≠ 188 → (a < 194 ∨ 207 < a) → g' a = g a) ∧ ∀ i, (i < 37 ∨ 45 < i) → i ≠ 20 → i ≠ 33 → g' 188 i = g 188 i
theorem FM.rfl' {g : GG} : FM g g := ⟨fun _ _ _ => rfl, fun _ _ _ _ => rfl⟩
theorem FM.tr {g g1 g2 : GG} (h : FM g g1) (h2 : FM g1 g2) : FM g g2 := ⟨fun a x y => (h2.1 a x y).trans (h.1 a x y), fun i x y z => (h2.2 i x y z).trans (h.2 i x y z)⟩
theorem m_isSound {S w : Nat} {g g0 : GG} {m o : Nat} (hS : S < 64) (hw : okW w) (G : Nat → Nat → Bool) (hG : ∀ c, c < 6 → tryM g c (G c)) (z8 : g0 189 = g 189) : ∃ g', f_X11_isSound [.ref 188, .int (nI S), .int (nI w)] (hp g0 m o) = some (some (.int (bW (allG G S w 6))), hp g' m o) ∧ FM g0 g' ∧ g' 188 33 = -1 := by
  have z0 : (bW false = 0) = True := eq_true rfl
  have z1 : (bW true = 0) = False := eq_false (by decide)
  have ex : ∀ (g1 : GG) (b : Bool) (v : Value) (i : Nat), FM g0 g1 → b = allG G S w 6 → ∃ g', kb_X11_isSound_53 [.ref 188, .int (nI S), v, .int (bW b), .int (nI i)] [] (hp g1 m o) = some (some (.int (bW (allG G S w 6))), hp g' m o) ∧ FM g0 g' ∧ g' 188 33 = -1 := by
    intro g1 b v i h1 hb
    rw [← hb]
    refine ⟨upd2 g1 188 33 (-1), ?_, ⟨fun a x y => by rw [uN x]; exact h1.1 a x y, fun i x y z => by rw [uO (Or.inr z)]; exact h1.2 i x y z⟩, uS⟩
    cases b with
    | true => simp (disch := first | assumption | omega) only [kb_X11_isSound_53, KL, KB, KC, KI, KJ, KZ, bI_0, bI_n, nI00, nI10, ne_eq, Classical.not_not, not_true_eq_false, not_false_eq_true, if_true, if_false, ite_not, ite_self, Bool.false_eq_true, nIne1, O_mo, bW_t]
    | false => simp (disch := first | assumption | omega) only [kb_X11_isSound_53, KL, KB, KC, KI, KJ, KZ, bI_0, bI_n, nI00, nI10, ne_eq, Classical.not_not, not_true_eq_false, not_false_eq_true, if_true, if_false, ite_not, ite_self, Bool.false_eq_true, nIne1, O_mo, bW_f]
  have key : ∃ g', kl_X11_isSound_10 [.ref 188, .int (nI S), .int (nI w), .int (bW true), .int (nI 0)] [] (hp (upd2 g0 188 33 (nI w)) m o) = some (some (.int (bW (allG G S w 6))), hp g' m o) ∧ FM g0 g' ∧ g' 188 33 = -1 := by
    unfold kl_X11_isSound_10
    refine kFor 6 (by unfold FU; omega) (fun i ls h => ∃ (g' : GG) (v : Value), ls = [.ref 188, .int (nI S), v, .int (bW (allG G S w i)), .int (nI i)] ∧ h = hp g' m o ∧ FM g0 g' ∧ g' 188 33 = nI w) (fun r => ∃ g', r = some (some (.int (bW (allG G S w 6))), hp g' m o) ∧ FM g0 g' ∧ g' 188 33 = -1) ?_ ?_ 0 _ _ (by omega) ⟨_, _, by rw [allG_0], rfl, ⟨fun a x y => by rw [uN x], fun i x y z => by rw [uO (Or.inr z)]⟩, uS⟩
    · rintro s0 ls h ⟨g', v, rfl, rfl, h1, h2⟩
      have hin : (6 ≤ 6) = True := eq_true (by omega)
      have := ex g' (allG G S w 6) (.long 0) 6 h1 rfl
      simp (disch := first | assumption | omega) only [KL, KB, KC, KI, KJ, KZ, bI_0, bI_n, nI00, nI10, ne_eq, Classical.not_not, not_true_eq_false, not_false_eq_true, if_true, if_false, ite_not, ite_self, Bool.false_eq_true, nIne1, kMask, mask, mask_n, nIle, hin]
      exact this
    · rintro s0 i hi ih ls h ⟨g', v, rfl, rfl, h1, h2⟩
      have hin : (6 ≤ i) = False := eq_false (by omega)
      have hb : (nI ((S >>> i) &&& 1) = 0) = (S.testBit i = false) := by rw [bit0, Nat.testBit_shiftRight, Nat.add_zero]
      cases hg : allG G S w i with
      | false =>
        have := ex g' false (.long 0) i h1 (allG_false (by omega) hg).symm
        simp (disch := first | assumption | omega) only [KL, KB, KC, KI, KJ, KZ, bI_0, bI_n, nI00, nI10, ne_eq, Classical.not_not, not_true_eq_false, not_false_eq_true, if_true, if_false, ite_not, ite_self, Bool.false_eq_true, nIne1, kMask, mask, mask_n, nIle, hin, z0]
        exact this
      | true =>
        cases hs : S.testBit i with
        | false =>
          have hs' : (S.testBit i = false) = True := eq_true hs
          simp (disch := first | assumption | omega) only [kb_X11_isSound_47, KL, KB, KC, KI, KJ, KZ, bI_0, bI_n, nI00, nI10, ne_eq, Classical.not_not, not_true_eq_false, not_false_eq_true, if_true, if_false, ite_not, ite_self, Bool.false_eq_true, nIne1, kMask, mask, mask_n, nIle, hin, z1, nI_shr, nI_and, hb, hs', nI_add]
          exact ih _ _ ⟨g', _, by rw [allG_skip hs, hg], rfl, h1, h2⟩
        | true =>
          have hs' : (S.testBit i = false) = False := eq_false (by rw [hs]; decide)
          obtain ⟨g1, g2, e1, e2, q1, q2⟩ := hG i hi g' m o w (by rw [h1.1 189 (by omega) (by omega)]; exact z8) h2 hw
          simp (disch := first | assumption | omega) only [kb_X11_isSound_47, KL, KB, KC, KI, KJ, KZ, bI_0, bI_n, nI00, nI10, ne_eq, Classical.not_not, not_true_eq_false, not_false_eq_true, if_true, if_false, ite_not, ite_self, Bool.false_eq_true, nIne1, kMask, mask, mask_n, nIle, hin, z1, nI_shr, nI_and, hb, hs', O_mo, e1, e2, nI_add]
          exact ih _ _ ⟨g2, _, by rw [allG_step hs, hg, Bool.true_and], rfl, h1.tr ⟨q1, fun i x y z => q2 i x y⟩, by rw [q2 33 (by omega) (by omega)]; exact h2⟩
  obtain ⟨g', e, w1⟩ := key
  refine ⟨g', ?_, w1⟩
  rw [← e]
  simp (disch := first | assumption | omega) only [f_X11_isSound, kb_X11_isSound_0, KL, KB, KC, KI, KJ, KZ, bI_0, bI_n, nI00, nI10, ne_eq, Classical.not_not, not_true_eq_false, not_false_eq_true, if_true, if_false, ite_not, ite_self, Bool.false_eq_true, nIne1, O_mo]
  rfl
theorem c_isSoundW {w : Nat} {g : GG} {m o : Nat} {b : Bool} (hw : w < 289) (h : g 171 w = bW b) : f_X0_isSound [.ref 164, .int (nI w)] (hp g m o) = some (some (.int (bW b)), hp g m o) := by
  have hy : (nI 0 ≤ nI w ∧ nI w ≤ nI 288) = True := eq_true (in_yes (by omega) (by omega))
  have z0 : (bW false = 0) = True := eq_true rfl
  have z1 : (bW true = 0) = False := eq_false (by decide)
  cases b with
  | true => simp (disch := first | assumption | omega) only [f_X0_isSound, kb_X0_isSound_24, kb_X0_isSound_23, kb_X0_isSound_0, KL, KB, KC, KI, KJ, KZ, bI_0, bI_n, nI00, nI10, ne_eq, Classical.not_not, not_true_eq_false, not_false_eq_true, if_true, if_false, ite_not, ite_self, Bool.false_eq_true, nIne1, O_co, AR, c_within, hy, h, z1, bW_t]
  | false => simp (disch := first | assumption | omega) only [f_X0_isSound, kb_X0_isSound_24, kb_X0_isSound_23, kb_X0_isSound_0, KL, KB, KC, KI, KJ, KZ, bI_0, bI_n, nI00, nI10, ne_eq, Classical.not_not, not_true_eq_false, not_false_eq_true, if_true, if_false, ite_not, ite_self, Bool.false_eq_true, nIne1, O_co, AR, c_within, hy, h, z0, bW_f]
theorem ag_sound (a0 a1 : Int32) : Ag RT f_X10_sound f_X11_sound [.int a0, .int a1] := by
  intro j g m o hj hR
  by_cases hP : nI 1 ≤ a0 ∧ a0 ≤ nI 63
  · have hyP : (nI 1 ≤ a0 ∧ a0 ≤ nI 63) = True := eq_true hP
    rcases in_cases a0 63 (by decide) with ⟨S, hS, rfl⟩ | h0
    · have hS64 : S < 64 := by omega
      rcases in_cases a1 288 (by decide) with ⟨w, hw, rfl⟩ | h1
      · have ew := fun h => c_isW w (by omega) h
        have em := fun h => m_isW w (by omega) h
        by_cases d : okW w
        · rw [decide_eq_true d] at ew em
          have hz : (bW true = 0) = False := eq_false (by decide)
          obtain ⟨G, hG⟩ := chs (α := Nat → Bool) (k := 6) (P := fun c b => ∃ o', tryC g c o' b ∧ tryM g c b) (fun c hc => hR.words hc)
          obtain ⟨g1, m1, o1, e1, k1, z1, q1⟩ := c_try (j := j) (m := m) (o := o) (lo := w) (hi := w) hS64 (by omega) (by omega) G (fun c hc => by obtain ⟨o', h, -⟩ := hG c hc; exact ⟨o', h⟩)
          have hq := q1 w (by omega)
          rw [show bwW w w w = true from decide_eq_true ⟨Nat.le_refl _, Nat.le_refl _, d⟩, Bool.true_and] at hq
          have es := c_isSoundW (m := m1) (o := o1) (by omega) hq
          obtain ⟨g2, e2, f2, h33⟩ := m_isSound (g0 := g1) (m := m1) (o := o1) hS64 d G (fun c hc => by obtain ⟨o', -, h⟩ := hG c hc; exact h) k1.2.2.2.1
          have hk2 : KEEP g1 g2 := KEEP.of (fun a x y z w => f2.1 a (by omega) (by omega)) (fun i hi => by
            by_cases q : i = 33
            · rw [q, h33, z1]; exact hR.2.2.2.2.2.2.1.symm
            · exact f2.2 i (by omega) (by omega) q)
          refine ⟨bW (allG G S w 6), g1, m1, o1, g2, ?_, ?_, hR.keep (k1.tr hk2)⟩
          · cases hb : allG G S w 6 with
            | true =>
              rw [hb] at es
              simp (disch := first | assumption | omega) only [f_X10_sound, kb_X10_sound_14, kb_X10_sound_42, kb_X10_sound_0, KL, KB, KC, KI, KJ, KZ, bI_0, bI_n, nI00, nI10, ne_eq, Classical.not_not, not_true_eq_false, not_false_eq_true, if_true, if_false, ite_not, ite_self, Bool.false_eq_true, nIne1, O_fp, O_co, c_isSet, hyP, ew, hz, e1, es, bW_t]
            | false =>
              rw [hb] at es
              have hz0 : (bW false = 0) = True := eq_true rfl
              simp (disch := first | assumption | omega) only [f_X10_sound, kb_X10_sound_14, kb_X10_sound_42, kb_X10_sound_0, KL, KB, KC, KI, KJ, KZ, bI_0, bI_n, nI00, nI10, ne_eq, Classical.not_not, not_true_eq_false, not_false_eq_true, if_true, if_false, ite_not, ite_self, Bool.false_eq_true, nIne1, O_fp, O_co, c_isSet, hyP, ew, hz, e1, es, hz0, bW_f]
          · cases hb : allG G S w 6 with
            | true =>
              rw [hb] at e2
              simp (disch := first | assumption | omega) only [f_X11_sound, kb_X11_sound_35, kb_X11_sound_34, kb_X11_sound_0, KL, KB, KC, KI, KJ, KZ, bI_0, bI_n, nI00, nI10, ne_eq, Classical.not_not, not_true_eq_false, not_false_eq_true, if_true, if_false, ite_not, ite_self, Bool.false_eq_true, nIne1, O_mo, m_isIn, hyP, em, hz, e2, bW_t]
            | false =>
              rw [hb] at e2
              have hz0 : (bW false = 0) = True := eq_true rfl
              simp (disch := first | assumption | omega) only [f_X11_sound, kb_X11_sound_35, kb_X11_sound_34, kb_X11_sound_0, KL, KB, KC, KI, KJ, KZ, bI_0, bI_n, nI00, nI10, ne_eq, Classical.not_not, not_true_eq_false, not_false_eq_true, if_true, if_false, ite_not, ite_self, Bool.false_eq_true, nIne1, O_mo, m_isIn, hyP, em, hz, e2, hz0, bW_f]
        · rw [decide_eq_false d] at ew em
          have hz : (bW false = 0) = True := eq_true rfl
          refine ⟨-1, g, m, o, g, ?_, ?_, RT_mono _ _ _ _ hR⟩
          · simp (disch := first | assumption | omega) only [f_X10_sound, kb_X10_sound_14, kb_X10_sound_42, kb_X10_sound_0, KL, KB, KC, KI, KJ, KZ, bI_0, bI_n, nI00, nI10, ne_eq, Classical.not_not, not_true_eq_false, not_false_eq_true, if_true, if_false, ite_not, ite_self, Bool.false_eq_true, nIne1, c_isSet, hyP, ew, hz]
          · simp (disch := first | assumption | omega) only [f_X11_sound, kb_X11_sound_35, kb_X11_sound_34, kb_X11_sound_0, KL, KB, KC, KI, KJ, KZ, bI_0, bI_n, nI00, nI10, ne_eq, Classical.not_not, not_true_eq_false, not_false_eq_true, if_true, if_false, ite_not, ite_self, Bool.false_eq_true, nIne1, m_isIn, hyP, em, hz]
      · refine ⟨-1, g, m, o, g, ?_, ?_, RT_mono _ _ _ _ hR⟩
        · simp (disch := first | assumption | omega) only [f_X10_sound, kb_X10_sound_14, kb_X10_sound_42, kb_X10_sound_0, KL, KB, KC, KI, KJ, KZ, bI_0, bI_n, nI00, nI10, ne_eq, Classical.not_not, not_true_eq_false, not_false_eq_true, if_true, if_false, ite_not, ite_self, Bool.false_eq_true, nIne1, c_isSet, hyP, c_isWN a1 h1]
        · simp (disch := first | assumption | omega) only [f_X11_sound, kb_X11_sound_35, kb_X11_sound_34, kb_X11_sound_0, KL, KB, KC, KI, KJ, KZ, bI_0, bI_n, nI00, nI10, ne_eq, Classical.not_not, not_true_eq_false, not_false_eq_true, if_true, if_false, ite_not, ite_self, Bool.false_eq_true, nIne1, m_isIn, hyP, m_isWN a1 h1]
    · exact absurd ⟨i_le1 hP.1, hP.2⟩ h0
  · have hyP : (nI 1 ≤ a0 ∧ a0 ≤ nI 63) = False := eq_false hP
    refine ⟨-1, g, m, o, g, ?_, ?_, RT_mono _ _ _ _ hR⟩
    · simp (disch := first | assumption | omega) only [f_X10_sound, kb_X10_sound_14, kb_X10_sound_42, kb_X10_sound_0, KL, KB, KC, KI, KJ, KZ, bI_0, bI_n, nI00, nI10, ne_eq, Classical.not_not, not_true_eq_false, not_false_eq_true, if_true, if_false, ite_not, ite_self, Bool.false_eq_true, nIne1, c_isSet, hyP]
    · simp (disch := first | assumption | omega) only [f_X11_sound, kb_X11_sound_35, kb_X11_sound_34, kb_X11_sound_0, KL, KB, KC, KI, KJ, KZ, bI_0, bI_n, nI00, nI10, ne_eq, Classical.not_not, not_true_eq_false, not_false_eq_true, if_true, if_false, ite_not, ite_self, Bool.false_eq_true, nIne1, m_isIn, hyP]
