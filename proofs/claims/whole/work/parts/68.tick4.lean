-- ===== the class's tick as a whole =====
abbrev FA : Type := Nat → Nat → Nat
def dCa : ACart := ((0, 0, 0), 0, 0, 0)
/-- what a tick doesn't change, class -/
def CK (X n : Nat) (co : Nat → List Goods) (fa : FA) (U : Nat → ARule) (K : Nat → Nat) (g : GG) : Prop :=
  g X 0 = nI n ∧ (∀ w, w < 5 → ∀ r, r < 6 → fa w r ≤ mostN w ∧ g (X + 1) (6 * w + r) = nI (fa w r)) ∧ (∀ r, r < 6 → (co r).length ≤ 2 ∧ (n ≤ r → co r = []) ∧ (∀ z ∈ co r, okGo n r z) ∧ g (X + 4) r = nI (co r).length ∧ ∀ (i : Nat) (z : Goods), (co r)[i]? = some z → g (X + 3) (2 * r + i) = nI (goodsN z)) ∧ (∀ k, k < 4 → wfR (U k) ∧ ruleC g (5 + 3 * k) (U k)) ∧ ∀ v, v < 2 → K v < 4 ∧ g 2 v = nI (K v)
theorem CK.congr {X n : Nat} {co : Nat → List Goods} {fa : FA} {U : Nat → ARule} {K : Nat → Nat} {g g' : GG} (h : CK X n co fa U K g) (hX1 : X + 9 < 77) (hX2 : 16 < X) (h1 : ∀ a, a < 77 → a ≠ 1 → a ≠ X + 2 → (a < X + 5 ∨ X + 8 < a) → g' a = g a) : CK X n co fa U K g' := by
  obtain ⟨a1, a2, a3, a4, a5⟩ := h
  refine ⟨by rw [h1 X (by omega) (by omega) (by omega) (by omega)]; exact a1, fun w hw r hr => by rw [h1 (X + 1) (by omega) (by omega) (by omega) (by omega)]; exact a2 w hw r hr, fun r hr => by rw [h1 (X + 4) (by omega) (by omega) (by omega) (by omega), h1 (X + 3) (by omega) (by omega) (by omega) (by omega)]; exact a3 r hr, fun k hk => ⟨(a4 k hk).1, (a4 k hk).2.congr (fun a _ _ => h1 a (by omega) (by omega) (by omega) (by omega))⟩, fun v hv => by rw [h1 2 (by omega) (by omega) (by omega) (by omega)]; exact a5 v hv⟩
def stS (n : Nat) (ca : Nat → Option ACart) : Nat := setN (fun r => (ca r).isSome) n
def stC (ca : Nat → Option ACart) (r : Nat) : ACart := (ca r).getD dCa
def stW (n : Nat) (fa : FA) (U : Nat → ARule) (K : Nat → Nat) (ca : Nat → Option ACart) : Nat → Nat → Bool := wV n (stC ca) (fun r => nI (fa 0 r)) (fun r => nI (fa 1 r)) (fun r => nI (fa 2 r)) (fun r => U (K (fa 3 r))) 0
def stF (ca : Nat → Option ACart) (x y : Nat) : Bool := wayB x (stC ca x).1.1 y (stC ca y).1.1
def stG (n : Nat) (fa : FA) (U : Nat → ARule) (K : Nat → Nat) (ca : Nat → Option ACart) : Nat := goS n (stS n ca) (stW n fa U K ca)
/-- the class's carts as a picture for who waits -/
theorem CK.csn {X n b : Nat} {co : Nat → List Goods} {fa : FA} {U : Nat → ARule} {K : Nat → Nat} {ca : Nat → Option ACart} {g : GG} (h : CK X n co fa U K g) (n6 : n ≤ 6) (hb : b < 1000000) (hca : ∀ r, r < 6 → cartC g X r (ca r)) (hB : ∀ r, r < 6 → ∀ c, ca r = some c → r < n ∧ okGo n r c.1 ∧ c.2.1 ≤ 99 ∧ c.2.2.1 ≤ 2 ∧ c.2.2.2 ≤ b) : CSn n (stS n ca) (stC ca) (fun r => nI (fa 0 r)) (fun r => nI (fa 1 r)) (fun r => nI (fa 2 r)) (fun r => K (fa 3 r)) (fun r => U (K (fa 3 r))) X g := by
  obtain ⟨a1, a2, a3, a4, a5⟩ := h
  have hbit : ∀ r, r < n → (stS n ca).testBit r = (ca r).isSome := fun r hr => by unfold stS; rw [setN_bit, decide_eq_true hr, Bool.true_and]
  refine ⟨a1, fun r hr hs => ?_, fun r hr hs => ?_, fun r hr => ⟨?_, ?_, ?_⟩, fun r hr => ?_⟩
  · rw [hbit r hr] at hs
    obtain ⟨c, hc⟩ := Option.isSome_iff_exists.mp hs
    have h1 := hca r (by omega)
    obtain ⟨b1, b2, b3, b4, b5⟩ := hB r (by omega) c hc
    rw [hc] at h1
    obtain ⟨c0, c1, c2, c3, c4, c5⟩ := h1
    unfold stC
    rw [hc]
    exact ⟨b2, b3, b4, by show c.2.2.2 < 1000000; omega, c0, c1, c2, c3, c4, c5⟩
  · rw [hbit r hr] at hs
    have h1 := hca r (by omega)
    cases hc : ca r with
    | none => rw [hc] at h1; exact h1
    | some c => rw [hc] at hs; cases hs
  · have := (a2 0 (by omega) r (by omega)).2
    rwa [Nat.mul_zero, Nat.zero_add] at this
  · exact (a2 1 (by omega) r (by omega)).2
  · exact (a2 2 (by omega) r (by omega)).2
  · have h3 := a2 3 (by omega) r (by omega)
    have hm : mostN 3 = 1 := rfl
    rw [hm] at h3
    obtain ⟨k1, k2⟩ := a5 (fa 3 r) (by omega)
    exact ⟨k1, (a4 _ k1).1, (a4 _ k1).2, fa 3 r, by omega, h3.2, k2⟩
/-- one tick -/
def tickA (n : Nat) (co : Nat → List Goods) (fa : FA) (U : Nat → ARule) (K : Nat → Nat) (S : Int32 × AX) : Int32 × AX :=
  let C := comeN co (fa 4) n (S.1, S.2.2.1)
  let M := movN (S.2.2.2.2 0) n (S.2.1, C.2)
  let G := stG n fa U K M.1
  (C.1, (caG G M.1, M.2, ctG n G (stS n M.1) M.1 S.2.2.2.1, toG (decide (ffJ n G (stF M.1) ≠ -1)) (decide (stS n M.1 ≠ 0 ∧ G = 0)) S.2.2.2.2))
def tickP (n : Nat) (co : Nat → List Goods) (fa : FA) (U : Nat → ARule) (K : Nat → Nat) (S : Int32 × AX) : Nat :=
  popN (stG n fa U K (movN (S.2.2.2.2 0) n (S.2.1, (comeN co (fa 4) n (S.1, S.2.2.1)).2)).1)
theorem c_tick {X n b : Nat} {co : Nat → List Goods} {fa : FA} {U : Nat → ARule} {K : Nat → Nat} {A : AX} {g : GG} {m o : Nat} (hX : isX X) (hX1 : X + 9 < 77) (hX2 : 16 < X) (n3 : 3 ≤ n) (n6 : n ≤ 6) (hb : b < 90000) (hK : CK X n co fa U K g) (hA : CXd X A g) (hB : BXd n b A) : ∃ g', f_X2_tick [.ref 184, .ref X] (hp g m o) = some (some (.int (nI (tickP n co fa U K (g 1 0, A)))), hp g' m o) ∧ CXd X (tickA n co fa U K (g 1 0, A)).2 g' ∧ g' 1 0 = (tickA n co fa U K (g 1 0, A)).1 ∧ ∀ a, a ≠ 1 → a ≠ 78 → a ≠ 79 → a ≠ X + 2 → (a < X + 5 ∨ X + 8 < a) → g' a = g a := by
  obtain ⟨ca, ro, ct, to⟩ := A
  obtain ⟨A1, A2, A3, A4⟩ := hA
  obtain ⟨B1, B2, B3, B4⟩ := hB
  simp only [] at A1 A2 A3 A4 B1 B2 B3 B4
  -- comers
  obtain ⟨g1, e1, p1, p2, p3⟩ := c_bringComers (m := m) (o := o) (co := co) (ch := fa 4) (ro := ro) hX hX1 hX2 hK.1 n6 (fun r hr => ⟨(hK.2.2.1 r (by omega)).1, (hK.2.2.1 r (by omega)).2.2.2⟩) (fun r hr => by
    have := hK.2.1 4 (by omega) r (by omega)
    exact ⟨this.1, this.2⟩) (fun r hr => ⟨(B2 r hr).1, A2 r hr⟩)
  have hro1 := comeN_ok (n := n) (ch := fa 4) (fun r hr => (hK.2.2.1 r (by omega)).2.2.1) n (g 1 0, ro) (by omega) (fun r hr => B2 r hr)
  generalize hC : comeN co (fa 4) n (g 1 0, ro) = C at *
  -- rows
  have hM0 : MVc X n (ca, C.2) g1 := fun r hr => ⟨(A1 r hr).congr (fun t ht => by rw [p2 _ (by omega) (by omega) (by omega)]), fun a ha => by
    have := (B1 r hr a ha).2.1.1
    omega, (p3 r hr).1, (hro1 r hr).2.2, (p3 r hr).2⟩
  obtain ⟨g2, e2, q1, q2⟩ := c_bringUpRows (m := m) (o := o) (tk := to 0) hX hX1 hX2 (by rw [p2 _ (by omega) (by omega) (by omega)]; exact hK.1) n6 (by rw [p2 _ (by omega) (by omega) (by omega)]; exact A4 0 (by omega)) (by have := B4 0 (by omega); omega) hM0
  have hM1 := movN_ok (n := n) (tk := to 0) (by omega) (b := b) n (ca, C.2) (by omega) ⟨B1, hro1⟩
  generalize hM : movN (to 0) n (ca, C.2) = M at *
  have hK2 : CK X n co fa U K g2 := hK.congr hX1 hX2 (fun a a1 a2 a3 a4 => by rw [q1 a (by omega) (by omega) (by omega), p2 a (by omega) (by omega) (by omega)])
  -- who may go
  have hCS := hK2.csn (b := b) (ca := M.1) n6 (by omega) (fun r hr => (q2 r hr).1) hM1.1
  have hs : stS n M.1 < 2 ^ n := setN_lt _ _
  have hset := x_cartSet (m := m) (o := o) hX (hCS.cl n6) (by omega) n6 hs
  obtain ⟨g3, e3, r1⟩ := c_goers (m := m) (o := o) (mean := 0) hX (fun g' hg => (hCS.sc hX1 hg).1) n6 (lt64 hs n6) (hCS.cw (m := m) (o := o) (mean := 0) hX hX1 hX2 n3 n6 (by omega)) g2 SC.rfl'
  have hCS3 := hCS.sc hX1 r1
  have hGd : goS n (stS n M.1) (wV n (stC M.1) (fun r => nI (fa 0 r)) (fun r => nI (fa 1 r)) (fun r => nI (fa 2 r)) (fun r => U (K (fa 3 r))) 0) = stG n fa U K M.1 := rfl
  rw [hGd] at e3
  have G2 : stG n fa U K M.1 < 2 ^ n := goS_lt
  have G64 : stG n fa U K M.1 < 64 := lt64 G2 n6
  have hGs : ∀ r, (stG n fa U K M.1).testBit r = true → (stS n M.1).testBit r = true := fun r h => goS_sub r h
  have e4 := c_firstF (m := m) (o := o) (tt := fun r => (stC M.1 r).1.1) hX hCS3.1 n6 G64 (fun r hr hb => ((hCS3.cl n6).2 r hr).1 (hGs r hb))
  have hFd : (fun x y => wayB x (stC M.1 x).1.1 y (stC M.1 y).1.1) = stF M.1 := rfl
  simp only [hFd] at e4
  have hsz : (nI (stS n M.1) = 0) = (stS n M.1 = 0) := nIk0 (by have := lt64 hs n6; omega)
  have hgz : (nI (stG n fa U K M.1) = 0) = (stG n fa U K M.1 = 0) := nIk0 (by omega)
  have z3 : ∀ a, a ≠ 78 → a ≠ 79 → a ≠ 1 → a ≠ X + 2 → a ≠ X + 5 → a ≠ X + 6 → g3 a = g a := fun a a1 a2 a3 a4 a5 a6 => by rw [r1 a a1 a2, q1 a a4 a5 a6, p2 a a3 a5 a6]
  have hres : tickA n co fa U K (g 1 0, (ca, ro, ct, to)) = (C.1, (caG (stG n fa U K M.1) M.1, M.2, ctG n (stG n fa U K M.1) (stS n M.1) M.1 ct, toG (decide (ffJ n (stG n fa U K M.1) (stF M.1) ≠ -1)) (decide (stS n M.1 ≠ 0 ∧ stG n fa U K M.1 = 0)) to)) := by
    unfold tickA
    simp only [hC, hM]
  have hresP : tickP n co fa U K (g 1 0, (ca, ro, ct, to)) = popN (stG n fa U K M.1) := by
    unfold tickP
    simp only [hC, hM]
  rw [hres, hresP]
  generalize hF : ffJ n (stG n fa U K M.1) (stF M.1) = ff at *
  generalize hG : stG n fa U K M.1 = G at *
  generalize hS : stS n M.1 = s at *
  have s64 := lt64 hs n6
  have t8 : ∀ t, t < 3 → g3 (X + 8) t = nI (to t) := fun t ht => by rw [z3 _ (by omega) (by omega) (by omega) (by omega) (by omega) (by omega)]; exact A4 t ht
  have b8 := fun t ht => B4 t ht
  have b80 := B4 0 (by omega)
  have b81 := B4 1 (by omega)
  have b82 := B4 2 (by omega)
  have hcaS : ∀ r, r < 6 → stayO (M.1 r) < 100000 ∧ (r < n → s.testBit r = (M.1 r).isSome) ∧ (n ≤ r → M.1 r = none) := fun r hr => by
    refine ⟨?_, fun hr => ?_, fun hr' => ?_⟩
    · cases hc : M.1 r with
      | none => show 0 < 100000; omega
      | some c => have := (hM1.1 r hr c hc).2.2.2.2; show c.2.2.2 < 100000; omega
    · rw [← hS]; unfold stS; rw [setN_bit, decide_eq_true hr, Bool.true_and]
    · cases hc : M.1 r with
      | none => rfl
      | some c => have := (hM1.1 r hr c hc).1; omega
  -- the tail: from any state that differs in what is counted of the crossing alone
  have tail : ∀ (g4 : GG) (cr st : Bool), (∀ a, a ≠ X + 8 → g4 a = g3 a) → g4 (X + 8) 0 = nI (to 0) → g4 (X + 8) 1 = nI (to 1 + if cr = true then 1 else 0) → g4 (X + 8) 2 = nI (to 2 + if st = true then 1 else 0) → ∃ g', kb_X2_tick_63 [.ref 184, .ref X, .int (nI s), .int (nI G)] [] (hp g4 m o) = some (some (.int (nI (popN G))), hp g' m o) ∧ CXd X (caG G M.1, M.2, ctG n G s M.1 ct, toG cr st to) g' ∧ g' 1 0 = C.1 ∧ ∀ a, a ≠ 1 → a ≠ 78 → a ≠ 79 → a ≠ X + 2 → (a < X + 5 ∨ X + 8 < a) → g' a = g a := by
    intro g4 cr st w1 w2 w3 w4
    obtain ⟨g5, e5, v1, v2, v3, v4, v5⟩ := c_tick66 (g := g4) (m := m) (o := o) (s := s) (G := G) (ca := M.1) (ct := ct) (tk := to 0) hX hX1 hX2 (by rw [w1 X (by omega)]; exact hCS3.1) n6 s64 G64 G2 hGs (fun r hr => ⟨(q2 r hr).1.congr (fun t ht => by rw [w1 _ (by omega), r1 _ (by omega) (by omega)]), hcaS r hr⟩) (fun t ht r hr => ⟨by have := (B3 t ht r hr).1; omega, by rw [w1 _ (by omega), z3 _ (by omega) (by omega) (by omega) (by omega) (by omega) (by omega)]; exact A3 t ht r hr⟩) w2 (by omega) (.ref 184) []
    simp only [List.append_nil] at e5
    refine ⟨g5, ?_, ⟨v2, fun r hr => ?_, v3, fun t ht => ?_⟩, ?_, fun a a1 a2 a3 a4 a5 => ?_⟩
    · simp (disch := first | assumption | omega) only [kb_X2_tick_63, KL, KB, KC, KI, KJ, KZ, bI_0, bI_n, nI00, nI10, ne_eq, Classical.not_not, not_true_eq_false, not_false_eq_true, if_true, if_false, ite_not, ite_self, Bool.false_eq_true, nIne1, e5]
    · rw [v1 _ (by omega) (by omega) (by omega), v1 (X + 5) (by omega) (by omega) (by omega), w1 _ (by omega), w1 (X + 5) (by omega), r1 _ (by omega) (by omega), r1 (X + 5) (by omega) (by omega)]
      exact (q2 r hr).2.2.2.2
    · have ht' : t = 0 ∨ t = 1 ∨ t = 2 := by omega
      rcases ht' with rfl | rfl | rfl
      · exact v4
      · rw [v5 1 (by omega)]; exact w3
      · rw [v5 2 (by omega)]; exact w4
    · rw [v1 1 (by omega) (by omega) (by omega), w1 1 (by omega), r1 1 (by omega) (by omega), q1 1 (by omega) (by omega) (by omega)]; exact p1
    · rw [v1 a (by omega) (by omega) (by omega), w1 a (by omega), z3 a (by omega) (by omega) (by omega) (by omega) (by omega) (by omega)]
  -- from where STOOD is counted
  have tail45 : ∀ (g4 : GG) (cr : Bool), (∀ a, a ≠ X + 8 → g4 a = g3 a) → g4 (X + 8) 0 = nI (to 0) → g4 (X + 8) 1 = nI (to 1 + if cr = true then 1 else 0) → g4 (X + 8) 2 = nI (to 2) → ∃ g', kb_X2_tick_45 [.ref 184, .ref X, .int (nI s), .int (nI G)] [] (hp g4 m o) = some (some (.int (nI (popN G))), hp g' m o) ∧ CXd X (caG G M.1, M.2, ctG n G s M.1 ct, toG cr (decide (s ≠ 0 ∧ G = 0)) to) g' ∧ g' 1 0 = C.1 ∧ ∀ a, a ≠ 1 → a ≠ 78 → a ≠ 79 → a ≠ X + 2 → (a < X + 5 ∨ X + 8 < a) → g' a = g a := by
    intro g4 cr w1 w2 w3 w4
    by_cases h : s ≠ 0 ∧ G = 0
    · have h1 : (s = 0) = False := eq_false h.1
      have h2 : (G = 0) = True := eq_true h.2
      obtain ⟨g', e, t⟩ := tail (upd2 g4 (X + 8) 2 (nI (to 2 + 1))) cr (decide (s ≠ 0 ∧ G = 0)) (fun a ha => by rw [uN ha]; exact w1 a ha) (by rw [uO (by omega)]; exact w2) (by rw [uO (by omega)]; exact w3) (by rw [uS, decide_eq_true h]; rfl)
      refine ⟨g', ?_, t⟩
      rw [← e]
      simp (disch := first | assumption | omega) only [kb_X2_tick_45, KL, KB, KC, KI, KJ, KZ, bI_0, bI_n, nI00, nI10, ne_eq, Classical.not_not, not_true_eq_false, not_false_eq_true, if_true, if_false, ite_not, ite_self, Bool.false_eq_true, nIne1, XO, hsz, hgz, h1, h2, w4, nI_add]
    · obtain ⟨g', e, t⟩ := tail g4 cr (decide (s ≠ 0 ∧ G = 0)) w1 w2 w3 (by rw [w4, decide_eq_false h]; rfl)
      refine ⟨g', ?_, t⟩
      rw [← e]
      by_cases h1 : s = 0
      · have h1' : (s = 0) = True := eq_true h1
        simp (disch := first | assumption | omega) only [kb_X2_tick_45, KL, KB, KC, KI, KJ, KZ, bI_0, bI_n, nI00, nI10, ne_eq, Classical.not_not, not_true_eq_false, not_false_eq_true, if_true, if_false, ite_not, ite_self, Bool.false_eq_true, nIne1, XO, hsz, hgz, h1']
      · have h1' : (s = 0) = False := eq_false h1
        have h2' : (G = 0) = False := eq_false (fun q => h ⟨h1, q⟩)
        simp (disch := first | assumption | omega) only [kb_X2_tick_45, KL, KB, KC, KI, KJ, KZ, bI_0, bI_n, nI00, nI10, ne_eq, Classical.not_not, not_true_eq_false, not_false_eq_true, if_true, if_false, ite_not, ite_self, Bool.false_eq_true, nIne1, XO, hsz, hgz, h1', h2']
  by_cases hff : ff = -1
  · obtain ⟨g', e, t⟩ := tail45 g3 (decide (ff ≠ -1)) (fun _ _ => rfl) (t8 0 (by omega)) (by rw [t8 1 (by omega), decide_eq_false (fun q => q hff)]; rfl) (t8 2 (by omega))
    refine ⟨g', ?_, t⟩
    rw [← e]
    simp (disch := first | assumption | omega) only [f_X2_tick, kb_X2_tick_0, KL, KB, KC, KI, KJ, KZ, bI_0, bI_n, nI00, nI10, ne_eq, Classical.not_not, not_true_eq_false, not_false_eq_true, if_true, if_false, ite_not, ite_self, Bool.false_eq_true, nIne1, O_dy, O_st, XO, e1, e2, hset, e3, e4, hff, eq_self]
  · obtain ⟨g', e, t⟩ := tail45 (upd2 g3 (X + 8) 1 (nI (to 1 + 1))) (decide (ff ≠ -1)) (fun a ha => uN ha) (by rw [uO (by omega)]; exact t8 0 (by omega)) (by rw [uS, decide_eq_true hff]; rfl) (by rw [uO (by omega)]; exact t8 2 (by omega))
    refine ⟨g', ?_, t⟩
    rw [← e]
    have t81 := t8 1 (by omega)
    simp (disch := first | assumption | omega) only [f_X2_tick, kb_X2_tick_0, KL, KB, KC, KI, KJ, KZ, bI_0, bI_n, nI00, nI10, ne_eq, Classical.not_not, not_true_eq_false, not_false_eq_true, if_true, if_false, ite_not, ite_self, Bool.false_eq_true, nIne1, O_dy, O_st, XO, e1, e2, hset, e3, e4, hff, t81, nI_add]
