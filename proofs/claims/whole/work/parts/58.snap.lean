-- ===== the picture of a crossing as it stands, on both sides =====
/-- what no call of asking changes -/
def KEEP (g g' : GG) : Prop := (∀ a, a ≤ 76 → g' a = g a) ∧ (∀ a, 82 ≤ a → a ≤ 160 → g' a = g a) ∧ (∀ a, 172 ≤ a → a ≤ 183 → g' a = g a) ∧ g' 189 = g 189 ∧ g' 190 = g 190 ∧ g' 193 = g 193 ∧ ∀ i, i = 2 ∨ i = 10 ∨ i = 17 ∨ i = 19 ∨ i = 33 ∨ i = 34 ∨ i = 35 → g' 188 i = g 188 i
theorem KEEP.rfl' {g : GG} : KEEP g g := ⟨fun _ _ => rfl, fun _ _ _ => rfl, fun _ _ _ => rfl, rfl, rfl, rfl, fun _ _ => rfl⟩
theorem KEEP.tr {g g1 g2 : GG} (h : KEEP g g1) (h2 : KEEP g1 g2) : KEEP g g2 := by
  obtain ⟨a1, a2, a3, a4, a5, a6, a7⟩ := h
  obtain ⟨b1, b2, b3, b4, b5, b6, b7⟩ := h2
  exact ⟨fun a p => (b1 a p).trans (a1 a p), fun a p q => (b2 a p q).trans (a2 a p q), fun a p q => (b3 a p q).trans (a3 a p q), b4.trans a4, b5.trans a5, b6.trans a6, fun i p => (b7 i p).trans (a7 i p)⟩
/-- nothing below 161, nothing from 172 to 193, but 77 to 81 -/
theorem KEEP.of {g g' : GG} (h : ∀ a, (a < 77 ∨ 81 < a) → (a < 161 ∨ 171 < a) → (a < 184 ∨ 188 < a) → (a < 194 ∨ 211 < a) → g' a = g a) (h2 : ∀ i, i = 2 ∨ i = 10 ∨ i = 17 ∨ i = 19 ∨ i = 33 ∨ i = 34 ∨ i = 35 → g' 188 i = g 188 i) : KEEP g g' :=
  ⟨fun a p => h a (by omega) (by omega) (by omega) (by omega), fun a p q => h a (by omega) (by omega) (by omega) (by omega), fun a p q => h a (by omega) (by omega) (by omega) (by omega), h _ (by omega) (by omega) (by omega) (by omega), h _ (by omega) (by omega) (by omega) (by omega), h _ (by omega) (by omega) (by omega) (by omega), h2⟩
theorem KEEP.sc {g g' : GG} (h : SC g g') : KEEP g g' := KEEP.of (fun a p q r s => h a (by omega) (by omega)) (fun i _ => by rw [h 188 (by omega) (by omega)])
theorem KEEP.sm {g g' : GG} (h : SM g g') : KEEP g g' := KEEP.of (fun a p q r s => h a (by omega) (by omega)) (fun i _ => by rw [h 188 (by omega) (by omega)])
theorem RT.keep {j : Nat} {g g' : GG} {m o m' o' : Nat} (h : RT j g m o) (hk : KEEP g g') : RT (j + 1) g' m' o' := by
  obtain ⟨a1, a2, a3, a4, a5, a6, a7⟩ := hk
  exact RT_other h (h.1.congr (by omega) (fun a p q => a1 a (by omega)) (fun i _ => by rw [a4])) a2 (by rw [a1 0 (by omega)]) a3 a5 a6 a7
theorem fvec_congr {n x y : Nat} {sz sl sg sz' sl' sg' : Nat → Int32} {p q : Nat × Nat × Nat} {f : Int32} (h1 : sz x = sz' x) (h2 : sz y = sz' y) (h3 : sl x = sl' x) (h4 : sl y = sl' y) (h5 : sg x = sg' x) (h6 : sg y = sg' y) : fvec n x y sz sl sg p q f = fvec n x y sz' sl' sg' p q f := by
  funext i
  unfold fvec
  split <;> first | rfl | assumption
theorem waitV_congr {n x y : Nat} {sz sl sg sz' sl' sg' : Nat → Int32} {cx cy : ACart} {mean : Nat} {rl : ARule} (h1 : sz x = sz' x) (h2 : sz y = sz' y) (h3 : sl x = sl' x) (h4 : sl y = sl' y) (h5 : sg x = sg' x) (h6 : sg y = sg' y) : waitV n x y sz sl sg cx cy mean rl = waitV n x y sz' sl' sg' cx cy mean rl := by
  unfold waitV
  rw [fvec_congr h1 h2 h3 h4 h5 h6]
abbrev FN : Type := Nat → Int32
/-- the class's cells: the carts ct on s, what is told of the roads, the rule of each road's land -/
def CSn (n s : Nat) (ct : Nat → ACart) (sz sl sg : FN) (kx : Nat → Nat) (rx : Nat → ARule) (X : Nat) (g : GG) : Prop :=
  g X 0 = nI n ∧ (∀ r, r < n → s.testBit r = true → cC g X n r (ct r)) ∧ (∀ r, r < n → s.testBit r = false → g (X + 2) r = -1) ∧ (∀ r, r < n → g (X + 1) r = sz r ∧ g (X + 1) (6 + r) = sl r ∧ g (X + 1) (12 + r) = sg r) ∧ ∀ r, r < n → kx r < 4 ∧ wfR (rx r) ∧ ruleC g (5 + 3 * kx r) (rx r) ∧ ∃ v, v < 2 ∧ g (X + 1) (18 + r) = nI v ∧ g 2 v = nI (kx r)
/-- the model's laid-out cells likewise -/
def MSn (n s : Nat) (ct : Nat → ACart) (sz sl sg : FN) (kx : Nat → Nat) (rx : Nat → ARule) (mean : Nat) (g : GG) : Prop :=
  g 188 20 = nI n ∧ (∀ r, r < n → s.testBit r = true → cM g n r (ct r) mean) ∧ (∀ r, r < n → g 196 r = sz r ∧ g 197 r = sl r ∧ g 198 r = sg r) ∧ g 188 35 = nI mean ∧ g 188 33 = -1 ∧ ∀ r, r < n → kx r < 4 ∧ wfR (rx r) ∧ ruleM g 189 (kx r) (rx r) ∧ ((g 188 34 = -1 ∧ ∃ v, v < 2 ∧ g 199 r = nI v ∧ g 189 (1 + v) = nI (kx r)) ∨ g 188 34 = nI (kx r))
def wV (n : Nat) (ct : Nat → ACart) (sz sl sg : FN) (rx : Nat → ARule) (mean x y : Nat) : Bool := waitV n x y sz sl sg (ct x) (ct y) mean (rx x)
theorem CSn.sc {n s : Nat} {ct : Nat → ACart} {sz sl sg : FN} {kx : Nat → Nat} {rx : Nat → ARule} {X : Nat} {g g' : GG} (h : CSn n s ct sz sl sg kx rx X g) (hX1 : X + 9 < 77) (hg : SC g g') : CSn n s ct sz sl sg kx rx X g' := by
  obtain ⟨h1, h2, h3, h4, h5⟩ := h
  have z : ∀ a, a < 77 → g' a = g a := fun a ha => hg a (by omega) (by omega)
  refine ⟨by rw [z X (by omega)]; exact h1, fun r hr hs => ?_, fun r hr hs => by rw [z _ (by omega)]; exact h3 r hr hs, fun r hr => by rw [z _ (by omega)]; exact h4 r hr, fun r hr => ?_⟩
  · have := h2 r hr hs
    unfold cC at this ⊢
    rw [z (X + 2) (by omega)]
    exact this
  · obtain ⟨a, b, c, v, d, e, f⟩ := h5 r hr
    exact ⟨a, b, c.congr (fun a _ _ => z a (by omega)), v, d, by rw [z _ (by omega)]; exact e, by rw [z _ (by omega)]; exact f⟩
theorem CSn.cw {n s mean : Nat} {ct : Nat → ACart} {sz sl sg : FN} {kx : Nat → Nat} {rx : Nat → ARule} {X : Nat} {g : GG} {m o : Nat} (h : CSn n s ct sz sl sg kx rx X g) (hX : isX X) (hX1 : X + 9 < 77) (hX2 : 16 < X) (n3 : 3 ≤ n) (n6 : n ≤ 6) (hm : mean < 4) : CW X n s (wV n ct sz sl sg rx mean) mean g m o := by
  intro g' hg x y hx hy hxy sx sy
  obtain ⟨h1, h2, h3, h4, h5⟩ := h.sc hX1 hg
  obtain ⟨k4, hw, hC, v, v2, ev, ek⟩ := h5 x hx
  obtain ⟨x1, x2, x3⟩ := h4 x hx
  obtain ⟨y1, y2, y3⟩ := h4 y hy
  obtain ⟨g2, e2, p2⟩ := c_waitsFor g' m o X n x y v (kx x) mean (ct x) (ct y) (rx x) hX hX1 hX2 h1 n3 n6 hx hy hxy (h2 x hx sx) (h2 y hy sy) v2 k4 ev ek hC hw hm
  refine ⟨g2, ?_, p2⟩
  rw [e2, waitV_congr (sz' := sz) (sl' := sl) (sg' := sg) x1 y1 x2 y2 x3 y3]
  rfl
theorem MSn.sm {n s mean : Nat} {ct : Nat → ACart} {sz sl sg : FN} {kx : Nat → Nat} {rx : Nat → ARule} {g g' : GG} (h : MSn n s ct sz sl sg kx rx mean g) (hg : ∀ a, a ≠ 194 → a ≠ 195 → a ≠ 207 → g' a = g a) : MSn n s ct sz sl sg kx rx mean g' := by
  obtain ⟨h1, h2, h3, h4, h5, h6⟩ := h
  have z : ∀ a, 195 < a → a < 207 → g' a = g a := fun a ha _ => hg a (by omega) (by omega) (by omega)
  have z7 : g' 188 = g 188 := hg _ (by omega) (by omega) (by omega)
  have z8 : g' 189 = g 189 := hg _ (by omega) (by omega) (by omega)
  refine ⟨by rw [z7]; exact h1, fun r hr hs => ?_, fun r hr => by rw [z 196 (by omega) (by omega), z 197 (by omega) (by omega), z 198 (by omega) (by omega)]; exact h3 r hr, by rw [z7]; exact h4, by rw [z7]; exact h5, fun r hr => ?_⟩
  · have := h2 r hr hs
    unfold cM at this ⊢
    rw [z 200 (by omega) (by omega), z 201 (by omega) (by omega), z 202 (by omega) (by omega), z 203 (by omega) (by omega), z 204 (by omega) (by omega), z 205 (by omega) (by omega)]
    exact this
  · obtain ⟨a, b, c, d⟩ := h6 r hr
    refine ⟨a, b, c.congr b a (fun i _ _ => by rw [z8]), ?_⟩
    rw [z7, z8, z 199 (by omega) (by omega)]
    exact d
theorem MSn.mw {n s mean : Nat} {ct : Nat → ACart} {sz sl sg : FN} {kx : Nat → Nat} {rx : Nat → ARule} {g : GG} {m o : Nat} (h : MSn n s ct sz sl sg kx rx mean g) (n3 : 3 ≤ n) (n6 : n ≤ 6) (hm : mean < 4) : MW n s (wV n ct sz sl sg rx mean) g m o := by
  intro g' hg x y hx hy hxy sx sy
  obtain ⟨h1, h2, h3, h4, h5, h6⟩ := h.sm (g' := g') (fun a p q _ => hg a p q)
  obtain ⟨k4, hw, hM, hone⟩ := h6 x hx
  obtain ⟨x1, x2, x3⟩ := h3 x hx
  obtain ⟨y1, y2, y3⟩ := h3 y hy
  obtain ⟨g2, e2, p2⟩ := m_waitsFor g' m o n x y (kx x) mean (ct x) (ct y) (rx x) h1 n3 n6 hx hy (h2 x hx sx) (h2 y hy sy) hm h4 h5 k4 hone hM hw
  refine ⟨g2, ?_, p2⟩
  rw [e2, waitV_congr (sz' := sz) (sl' := sl) (sg' := sg) x1 y1 x2 y2 x3 y3]
  rfl
theorem MSn.mono {n s s' mean : Nat} {ct : Nat → ACart} {sz sl sg : FN} {kx : Nat → Nat} {rx : Nat → ARule} {g : GG} (h : MSn n s ct sz sl sg kx rx mean g) (hs : ∀ r, s'.testBit r = true → s.testBit r = true) : MSn n s' ct sz sl sg kx rx mean g := by
  obtain ⟨h1, h2, h3⟩ := h
  exact ⟨h1, fun r hr q => h2 r hr (hs r q), h3⟩
theorem CW.mono {X n s s' mean : Nat} {W : Nat → Nat → Bool} {g : GG} {m o : Nat} (h : CW X n s W mean g m o) (hs : ∀ r, s'.testBit r = true → s.testBit r = true) : CW X n s' W mean g m o :=
  fun g' hg x y hx hy hxy sx sy => h g' hg x y hx hy hxy (hs x sx) (hs y sy)
theorem CW.sc {X n s mean : Nat} {W : Nat → Nat → Bool} {g g' : GG} {m o : Nat} (h : CW X n s W mean g m o) (hg : SC g g') : CW X n s W mean g' m o :=
  fun g2 hg2 x y hx hy hxy sx sy => h g2 (hg.tr hg2) x y hx hy hxy sx sy
theorem MW.sm {n s : Nat} {W : Nat → Nat → Bool} {g g' : GG} {m o : Nat} (h : MW n s W g m o) (hg : SM g g') : MW n s W g' m o :=
  fun g2 hg2 x y hx hy hxy sx sy => h g2 (hg.tr hg2) x y hx hy hxy sx sy
theorem CSn.cl {n s : Nat} {ct : Nat → ACart} {sz sl sg : FN} {kx : Nat → Nat} {rx : Nat → ARule} {X : Nat} {g : GG} (h : CSn n s ct sz sl sg kx rx X g) (n6 : n ≤ 6) : CL X n s (fun r => (ct r).1.1) g := by
  obtain ⟨h1, h2, h3, -⟩ := h
  refine ⟨h1, fun r hr => ⟨fun hs => ?_, h3 r hr⟩⟩
  obtain ⟨a, b, c, d, e, -⟩ := h2 r hr hs
  have := a.1
  exact ⟨e, by show (ct r).1.1 < 6; omega⟩
theorem MSn.tt {n s mean : Nat} {ct : Nat → ACart} {sz sl sg : FN} {kx : Nat → Nat} {rx : Nat → ARule} {g : GG} (h : MSn n s ct sz sl sg kx rx mean g) (n6 : n ≤ 6) : ∀ r, r < n → s.testBit r = true → g 200 r = nI (ct r).1.1 ∧ (ct r).1.1 < 6 := by
  intro r hr hs
  obtain ⟨a, b, c, d, e, -⟩ := h.2.1 r hr hs
  have := a.1
  exact ⟨e, by omega⟩
/-- a standing crossing: the pictures on both sides -/
theorem RT.snap {j : Nat} {g : GG} {m o c n : Nat} (hR : RT j g m o) (hj : j ≤ 512) (hc : c < 6) (hx : XRn g (17 + 10 * c) 189 (10 + 560 * c) n j) : ∃ (s : Nat) (ct : Nat → ACart) (sz sl sg : FN) (kx : Nat → Nat) (rx : Nat → ARule), s < 2 ^ n ∧ (∀ r, r < n → g 189 (10 + 560 * c + 92 * r + 18) = bW (s.testBit r)) ∧ CSn n s ct sz sl sg kx rx (17 + 10 * c) g ∧ ∀ g1 : GG, g1 189 = g 189 → ∃ g2, f_X11_laysOut [.ref 188, .int (nI c)] (hp g1 m o) = some (none, hp g2 m o) ∧ (∀ a, a ≠ 188 → (a < 196 ∨ 207 < a) → g2 a = g1 a) ∧ (∀ i, i ≠ 20 → g2 188 i = g1 188 i) ∧ ML n s g2 ∧ ∀ mean, mean < 4 → ∀ g3, (∀ a, a ≠ 188 → g3 a = g2 a) → g3 188 20 = nI n → g3 188 33 = -1 → g3 188 34 = -1 → g3 188 35 = nI mean → MSn n s ct sz sl sg kx rx mean g3 := by
  obtain ⟨n3, n6, en, em, fFa, fCa, fCo, fRo, fCt, fTo, fLi⟩ := id hx
  obtain ⟨hw1, hw2, hw3, hw4⟩ := hR.1
  have hC : ∃ C : Nat → Option ACart, ∀ r, r < 6 → cartR g (17 + 10 * c) 189 (10 + 560 * c) n r j (C r) := by
    refine ⟨fun r => if h : r < 6 then (fCa r h).choose else none, fun r h => ?_⟩
    simp only [dif_pos h]
    exact (fCa r h).choose_spec
  obtain ⟨C, hC⟩ := hC
  have hL : ∃ L : Nat → Nat, ∀ r, r < 6 → L r < 2 ∧ g (17 + 10 * c + 1) (18 + r) = nI (L r) ∧ g 189 (10 + 560 * c + 92 * r + 3) = nI (L r) := by
    have h0 : ∀ r, r < 6 → ∃ v, v < 2 ∧ g (17 + 10 * c + 1) (18 + r) = nI v ∧ g 189 (10 + 560 * c + 92 * r + 3) = nI v := fun r h => by
      obtain ⟨v, q1, q2, q3⟩ := fFa 3 (by omega) r h
      have q1' : v ≤ 1 := q1
      exact ⟨v, by omega, by rw [show 18 + r = 6 * 3 + r by omega]; exact q2, q3⟩
    refine ⟨fun r => if h : r < 6 then (h0 r h).choose else 0, fun r h => ?_⟩
    simp only [dif_pos h]
    exact (h0 r h).choose_spec
  obtain ⟨L, hL⟩ := hL
  have hK : ∃ K : Nat → Nat, ∀ v, v < 2 → K v < 4 ∧ g (0 + 2) v = nI (K v) ∧ g 189 (1 + v) = nI (K v) := by
    refine ⟨fun r => if h : r < 2 then (hw2 r h).choose else 0, fun r h => ?_⟩
    simp only [dif_pos h]
    exact (hw2 r h).choose_spec
  obtain ⟨K, hK⟩ := hK
  have hU : ∃ U : Nat → ARule, ∀ k, k < 4 → wfR (U k) ∧ ruleC g (0 + 5 + 3 * k) (U k) ∧ ruleM g 189 k (U k) := by
    refine ⟨fun r => if h : r < 4 then (hw3 r h).choose else [], fun r h => ?_⟩
    simp only [dif_pos h]
    exact (hw3 r h).choose_spec
  obtain ⟨U, hU⟩ := hU
  have hFm : ∀ w, w < 5 → ∀ r, r < 6 → g 189 (10 + 560 * c + 92 * r + w) = g (17 + 10 * c + 1) (6 * w + r) := fun w hw r hr => by
    obtain ⟨v, -, q2, q3⟩ := fFa w hw r hr
    rw [q2, q3]
  have hCS : ∀ r, r < 6 → (C r).isSome = true → ∃ ca, C r = some ca := fun r _ h => Option.isSome_iff_exists.mp h
  have hbit : ∀ r, r < n → (setN (fun r => (C r).isSome) n).testBit r = (C r).isSome := fun r hr => by rw [setN_bit, decide_eq_true hr, Bool.true_and]
  refine ⟨setN (fun r => (C r).isSome) n, fun r => (C r).getD ((0, 0, 0), 0, 0, 0), fun r => g (17 + 10 * c + 1) r, fun r => g (17 + 10 * c + 1) (6 + r), fun r => g (17 + 10 * c + 1) (12 + r), fun r => K (L r), fun r => U (K (L r)), setN_lt _ _, fun r hr => ?_, ⟨en, fun r hr hs => ?_, fun r hr hs => ?_, fun r hr => ⟨rfl, rfl, rfl⟩, fun r hr => ?_⟩, fun g1 hg1 => ?_⟩
  · rw [hbit r hr]
    have hc' := hC r (by omega)
    cases e : C r with
    | none => rw [e] at hc'; exact hc'.2
    | some ca => rw [e] at hc'; exact hc'.2.2.2.2.2.2.2.2.2.2.2.1
  · rw [hbit r hr] at hs
    obtain ⟨ca, e⟩ := hCS r (by omega) hs
    have hc' := hC r (by omega)
    rw [e] at hc'
    obtain ⟨-, a1, a2, a3, a4, a5, a6, a7, a8, a9, a10, -⟩ := hc'
    simp only [e, Option.getD_some]
    exact ⟨a1, a2, a3, by omega, a5, a6, a7, a8, a9, a10⟩
  · rw [hbit r hr] at hs
    have hc' := hC r (by omega)
    cases e : C r with
    | none => rw [e] at hc'; exact hc'.1
    | some ca => rw [e] at hs; cases hs
  · obtain ⟨l1, l2, l3⟩ := hL r (by omega)
    obtain ⟨k1, k2, k3⟩ := hK _ l1
    obtain ⟨u1, u2, u3⟩ := hU _ k1
    rw [Nat.zero_add] at k2 u2
    exact ⟨k1, u1, u2, L r, l1, l2, k2⟩
  · have z8 : g1 189 = g 189 := hg1
    obtain ⟨g2, e2, p1, p2, p3, p4, p5⟩ := m_laysOut g1 m o c n hc (by rw [z8]; exact em) n6
    have z8' : g2 189 = g 189 := (p1 189 (by omega) (by omega)).trans z8
    have hb : ∀ r, r < n → g 189 (10 + 560 * c + 92 * r + 18) = bW ((C r).isSome) := fun r hr => by
      have hc' := hC r (by omega)
      cases e : C r with
      | none => rw [e] at hc'; exact hc'.2
      | some ca => rw [e] at hc'; exact hc'.2.2.2.2.2.2.2.2.2.2.2.1
    refine ⟨g2, e2, p1, p2, ⟨p3, fun r hr => ?_⟩, fun mean hm g3 q1 q2 q3 q4 q5 => ?_⟩
    · rw [p5 r hr, hbit r hr, z8, hb r hr]
      cases (C r).isSome with
      | true => exact if_pos rfl
      | false => exact if_neg (by decide)
    · have hl : ∀ a, 196 ≤ a → a ≤ 206 → ∀ r, r < n → g3 a r = g 189 (10 + 560 * c + 92 * r + layF a) := fun a h1 h2 r hr => by
        rw [q1 a (by omega), p4 a h1 h2 r hr, z8]
      refine ⟨q2, fun r hr hs => ?_, fun r hr => ⟨?_, ?_, ?_⟩, q5, q3, fun r hr => ?_⟩
      · rw [hbit r hr] at hs
        obtain ⟨ca, e⟩ := hCS r (by omega) hs
        have hc' := hC r (by omega)
        rw [e] at hc'
        obtain ⟨-, a1, a2, a3, a4, a5, a6, a7, a8, a9, a10, b1, b2, b3, b4, b5, b6, b7⟩ := hc'
        simp only [e, Option.getD_some]
        exact ⟨a1, a2, a3, by omega, by rw [hl 200 (by omega) (by omega) r hr]; exact b2, by rw [hl 201 (by omega) (by omega) r hr]; exact b3, by rw [hl 202 (by omega) (by omega) r hr]; exact b4, by rw [hl 203 (by omega) (by omega) r hr]; exact b5, by rw [hl 204 (by omega) (by omega) r hr]; exact b6, fun _ => by rw [hl 205 (by omega) (by omega) r hr]; exact b7⟩
      · rw [hl 196 (by omega) (by omega) r hr]
        have := hFm 0 (by omega) r (by omega)
        rw [Nat.mul_zero, Nat.zero_add] at this
        exact this
      · rw [hl 197 (by omega) (by omega) r hr]
        exact hFm 1 (by omega) r (by omega)
      · rw [hl 198 (by omega) (by omega) r hr]
        exact hFm 2 (by omega) r (by omega)
      · obtain ⟨l1, l2, l3⟩ := hL r (by omega)
        obtain ⟨k1, k2, k3⟩ := hK _ l1
        obtain ⟨u1, u2, u3⟩ := hU _ k1
        have z83 : g3 189 = g 189 := (q1 189 (by omega)).trans z8'
        refine ⟨k1, u1, u3.congr u1 k1 (fun i _ _ => by rw [z83]), Or.inl ⟨q4, L r, l1, ?_, by rw [z83]; exact k3⟩⟩
        rw [hl 199 (by omega) (by omega) r hr]
        exact l3
