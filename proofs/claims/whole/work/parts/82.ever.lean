-- ===== ever =====
theorem MW.congr {n s : Nat} {W W' : Nat → Nat → Bool} {g : GG} {m o : Nat} (h : MW n s W g m o) (hw : ∀ x y, x < n → y < n → x ≠ y → s.testBit x = true → s.testBit y = true → W x y = W' x y) : MW n s W' g m o := fun g' hg x y hx hy hxy sx sy => by
  rw [← hw x y hx hy hxy sx sy]
  exact h g' hg x y hx hy hxy sx sy
theorem mwv_of {n : Nat} {co : Nat → List Goods} {fa : FA} {rl : Nat → ARule} {kr : Nat → Nat} {g0 : GG} {m o : Nat} (n3 : 3 ≤ n) (n6 : n ≤ 6) (hlen : ∀ r, (co r).length ≤ 2) (hok : ∀ r, r < n → ∀ z ∈ co r, okGo n r z) (en : g0 188 20 = nI n) (h5 : ∀ r, r < n → g0 196 r = nI (fa 0 r) ∧ g0 197 r = nI (fa 1 r) ∧ g0 198 r = nI (fa 2 r)) (h35 : g0 188 35 = nI 0) (h33 : g0 188 33 = -1) (h6 : ∀ r, r < n → kr r < 4 ∧ wfR (rl r) ∧ ruleM g0 189 (kr r) (rl r) ∧ ((g0 188 34 = -1 ∧ ∃ v, v < 2 ∧ g0 199 r = nI v ∧ g0 189 (1 + v) = nI (kr r)) ∨ g0 188 34 = nI (kr r))) : MWV n co (VR n co fa rl) g0 m o := by
  intro g d k hd hk hB hL
  have z : ∀ a, a = 189 ∨ a = 196 ∨ a = 197 ∨ a = 198 ∨ a = 199 → g a = g0 a := fun a ha => hB.1 a (by omega) (by omega) (by omega) (by omega) (by omega) (by omega) (by omega) (by omega) (by omega)
  have hMS : MSn n (sD n d) (fun r => (cG co (xD d r), ordRank n k r, 0, 0)) (fun r => nI (fa 0 r)) (fun r => nI (fa 1 r)) (fun r => nI (fa 2 r)) kr rl 0 g := by
    refine ⟨by rw [hB.2 20 (by omega)]; exact en, fun r hr hs => ?_, fun r hr => by rw [z 196 (by omega), z 197 (by omega), z 198 (by omega)]; exact h5 r hr, by rw [hB.2 35 (by omega)]; exact h35, by rw [hB.2 33 (by omega)]; exact h33, fun r hr => ?_⟩
    · rw [sD_bit d hr] at hs
      have h0 := of_decide_eq_true hs
      obtain ⟨w1, w2, w3⟩ := hL.1 r (by omega) hr
      obtain ⟨w4, w5, w6⟩ := w3 h0
      have hrk := (ord_p n3 n6 hk hr).2.2.1
      exact ⟨hok r hr _ (List.mem_of_getElem? (cG_x (hd.1 r) (hlen r) h0)), by show ordRank n k r ≤ 99; omega, by show 0 ≤ 2; omega, by show 0 < 1000000; omega, w4, w5, w6, hL.2 r hr, w2, fun q => absurd q (by omega)⟩
    · obtain ⟨a1, a2, a3, a4⟩ := h6 r hr
      refine ⟨a1, a2, a3.congr a2 a1 (fun i _ _ => by rw [z 189 (by omega)]), ?_⟩
      rw [hB.2 34 (by omega), z 199 (by omega), z 189 (by omega)]
      exact a4
  refine (hMS.mw (m := m) (o := o) n3 n6 (by omega)).congr (fun x y hx hy hxy sx sy => ?_)
  rw [sD_bit d hx] at sx
  rw [sD_bit d hy] at sy
  have hx0 := of_decide_eq_true sx
  have hy0 := of_decide_eq_true sy
  have hx1 := hd.1 x
  have hy1 := hd.1 y
  have hx2 := hlen x
  have hy2 := hlen y
  have ex : xD d x / 2 = x := by unfold xD; omega
  have ey : xD d y / 2 = y := by unfold xD; omega
  unfold wV waitV WD VR
  rw [ex, ey]
  simp only [if_true]
  rfl
theorem BAS.keep {g0 g : GG} (h : BAS g0 g) : KEEP g0 g := KEEP.of (fun a a1 a2 a3 a4 => h.1 a (by omega) (by omega) (by omega) (by omega) (by omega) (by omega) (by omega) (by omega) (by omega)) (fun i hi => h.2 i (by omega))
/-- the model laid out at a crossing, ready to go through -/
theorem MK.base {n c : Nat} {co : Nat → List Goods} {fa : FA} {U : Nat → ARule} {K : Nat → Nat} {g : GG} {m o : Nat} (hc : c < 6) (h : MK (10 + 560 * c) n co fa U K g) (n6 : n ≤ 6) : ∃ g2, f_X11_laysOut [.ref 188, .int (nI c)] (hp g m o) = some (none, hp g2 m o) ∧ (∀ a, a ≠ 188 → (a < 196 ∨ 207 < a) → g2 a = g a) ∧ (∀ i, i ≠ 20 → g2 188 i = g 188 i) ∧ MO c n co g2 ∧ (∀ r, r < n → g2 196 r = nI (fa 0 r) ∧ g2 197 r = nI (fa 1 r) ∧ g2 198 r = nI (fa 2 r) ∧ g2 199 r = nI (fa 3 r)) := by
  obtain ⟨a1, a2, a3, a4, a5⟩ := h
  obtain ⟨g2, e2, p1, p2, p3, p4, p5⟩ := m_laysOut g m o c n hc a1 n6
  have z8 : g2 189 = g 189 := p1 189 (by omega) (by omega)
  refine ⟨g2, e2, p1, p2, ⟨p3, fun r hr => ?_⟩, fun r hr => ⟨?_, ?_, ?_, ?_⟩⟩
  · obtain ⟨b1, b2, b3, b4, b5⟩ := a3 r (by omega)
    exact ⟨b1, b3, by rw [p4 206 (by omega) (by omega) r hr]; exact b4, fun i z hz => by rw [z8]; exact b5 i z hz⟩
  · rw [p4 196 (by omega) (by omega) r hr]; exact (a2 0 (by omega) r (by omega)).2
  · rw [p4 197 (by omega) (by omega) r hr]; exact (a2 1 (by omega) r (by omega)).2
  · rw [p4 198 (by omega) (by omega) r hr]; exact (a2 2 (by omega) r (by omega)).2
  · rw [p4 199 (by omega) (by omega) r hr]; exact (a2 3 (by omega) r (by omega)).2
theorem MK.rules {n c : Nat} {co : Nat → List Goods} {fa : FA} {U : Nat → ARule} {K : Nat → Nat} {g g2 : GG} (n6 : n ≤ 6) (h : MK (10 + 560 * c) n co fa U K g) (z8 : g2 189 = g 189) (h208 : ∀ r, r < n → g2 199 r = nI (fa 3 r)) (h34 : g2 188 34 = -1) : ∀ r, r < n → K (fa 3 r) < 4 ∧ wfR (U (K (fa 3 r))) ∧ ruleM g2 189 (K (fa 3 r)) (U (K (fa 3 r))) ∧ ((g2 188 34 = -1 ∧ ∃ v, v < 2 ∧ g2 199 r = nI v ∧ g2 189 (1 + v) = nI (K (fa 3 r))) ∨ g2 188 34 = nI (K (fa 3 r))) := fun r hr => by
  obtain ⟨a1, a2, a3, a4, a5⟩ := h
  have h3 := a2 3 (by omega) r (by omega)
  have hm : mostN 3 = 1 := rfl
  rw [hm] at h3
  obtain ⟨k1, k2⟩ := a5 (fa 3 r) (by omega)
  exact ⟨k1, (a4 _ k1).1, (a4 _ k1).2.congr (a4 _ k1).1 k1 (fun i _ _ => by rw [z8]), Or.inl ⟨h34, fa 3 r, by omega, h208 r hr, by rw [z8]; exact k2⟩⟩
/-- comers of roads beyond six are none -/
def coTr (n : Nat) (co : Nat → List Goods) (r : Nat) : List Goods := if r < n then co r else []
theorem CK.coT {X n : Nat} {co : Nat → List Goods} {fa : FA} {U : Nat → ARule} {K : Nat → Nat} {g : GG} (n6 : n ≤ 6) (h : CK X n co fa U K g) : CK X n (coTr n co) fa U K g := by
  obtain ⟨a1, a2, a3, a4, a5⟩ := h
  refine ⟨a1, a2, fun r hr => ?_, a4, a5⟩
  have h := a3 r hr
  by_cases q : r < n
  · have e : coTr n co r = co r := if_pos q
    rw [e]; exact h
  · have e : coTr n co r = co r := (if_neg q).trans (h.2.1 (by omega)).symm
    rw [e]; exact h
theorem MK.coT {B n : Nat} {co : Nat → List Goods} {fa : FA} {U : Nat → ARule} {K : Nat → Nat} {g : GG} (n6 : n ≤ 6) (h : MK B n co fa U K g) : MK B n (coTr n co) fa U K g := by
  obtain ⟨a1, a2, a3, a4, a5⟩ := h
  refine ⟨a1, a2, fun r hr => ?_, a4, a5⟩
  have h := a3 r hr
  by_cases q : r < n
  · have e : coTr n co r = co r := if_pos q
    rw [e]; exact h
  · have e : coTr n co r = co r := (if_neg q).trans (h.2.1 (by omega)).symm
    rw [e]; exact h
/-- a crossing's picture for all that can come: on both sides -/
theorem RT.comeP {j : Nat} {g : GG} {m o c n : Nat} (hR : RT j g m o) (hc : c < 6) (hx : XRn g (17 + 10 * c) 189 (10 + 560 * c) n j) : ∃ (co : Nat → List Goods) (fa : FA) (U : Nat → ARule) (K : Nat → Nat), CK (17 + 10 * c) n co fa U K g ∧ MK (10 + 560 * c) n co fa U K g ∧ (∀ r, n ≤ r → co r = []) ∧ (∀ r, (co r).length ≤ 2) ∧ ∀ r, r < n → ∀ z ∈ co r, okGo n r z := by
  obtain ⟨co, fa, U, K, A, hCK, hMK, -⟩ := hR.abs hc hx
  have n6 := hx.2.1
  refine ⟨coTr n co, fa, U, K, hCK.coT n6, hMK.coT n6, fun r hr => if_neg (by omega), fun r => ?_, fun r hr z hz => ?_⟩
  · by_cases q : r < n
    · have e : coTr n co r = co r := if_pos q
      rw [e]; exact (hCK.2.2.1 r (by omega)).1
    · have e : coTr n co r = [] := if_neg q
      rw [e]; show 0 ≤ 2; omega
  · have e : coTr n co r = co r := if_pos hr
    rw [e] at hz
    exact (hCK.2.2.1 r (by omega)).2.2.1 z hz
theorem ag_ever (a0 a1 : Int32) : Ag RT f_X10_ever f_X11_ever [.int a0, .int a1] := by
  intro j g m o hj hR
  rcases in_cases a0 5 (by decide) with ⟨c, hc, rfl⟩ | h0
  · have hc6 : c < 6 := by omega
    have hX := isX_live c hc6
    have hyc : (nI 0 ≤ nI c ∧ nI c ≤ nI 5) = True := eq_true (in_yes hc (by omega))
    obtain ⟨n, hx⟩ := hR.at hc6
    obtain ⟨n3, n6, en, em, -⟩ := id hx
    rcases in_cases a1 4 (by decide) with ⟨k, hk, rfl⟩ | h1
    · have hyk : (nI 0 ≤ nI k ∧ nI k ≤ nI 4) = True := eq_true (in_yes hk (by omega))
      obtain ⟨co, fa, U, K, hCK, hMK, hco, hlen, hok⟩ := hR.comeP hc6 hx
      obtain ⟨g1, e1, p1, p2, p3, p4⟩ := c_askByRule (m := m) (o := o) hX (by omega) (by omega) n3 n6 hCK (-1) (fun r => K (fa 3 r)) (Or.inl ⟨rfl, fun _ => rfl⟩)
      have z1 : ∀ a, a < 77 → g1 a = g a := fun a ha => p1 a (by omega) (by omega) (by omega) (by omega) (by omega) (by omega) (by omega)
      have hO : ORD g := hR.2.2.2.2.2.1
      have hO1 : ORD g1 := hO.congr (fun a x y => p1 a (by omega) (by omega) (by omega) (by omega) (by omega) (by omega) (by omega))
      have hCO1 : CO (17 + 10 * c) n co g1 := hCK.co.congr (z1 _ (by omega)) (z1 _ (by omega)) (z1 _ (by omega))
      obtain ⟨g2, e2, q1, q2⟩ := c_survey hX (by omega) n3 n6 hCO1 (fun r hr => hco r (by omega)) p4 hO1 p2
      -- the model from any state that the class leaves
      have hmod : ∀ g3 : GG, g3 188 = g 188 → g3 189 = g 189 → ∃ g5 : GG, KEEP g3 g5 ∧ SVM n co ((nuN co n - 1) * ordMany n) (svNum n co (VR n co fa (fun r => U (K (fa 3 r)))) (nuN co n - 1)) g5 ∧ ∃ g4 b, f_X11_laysOut [.ref 188, .int (nI c)] (hp g3 (17 + 10 * c) (OO n)) = some (none, hp g4 (17 + 10 * c) (OO n)) ∧ f_X11_goesThrough [.ref 188, .int (nI c), .int (nI 0)] (hp g4 (17 + 10 * c) (OO n)) = some (some (.int b), hp g5 (17 + 10 * c) (OO n)) := by
        intro g3 z7 z8
        have hMK3 : MK (10 + 560 * c) n co fa U K g3 := hMK.congr (by omega) (by omega) (FR8.of z8)
        obtain ⟨g4, e4, r1, r2, r3, r4⟩ := hMK3.base (m := 17 + 10 * c) (o := OO n) hc6 n6
        have h34 : g4 188 34 = -1 := by rw [r2 34 (by omega), z7]; exact hR.2.2.2.2.2.2.2.1
        have h33 : g4 188 33 = -1 := by rw [r2 33 (by omega), z7]; exact hR.2.2.2.2.2.2.1
        have h35 : g4 188 35 = nI 0 := by rw [r2 35 (by omega), z7]; exact hR.2.2.2.2.2.2.2.2
        have hV := mwv_of (m := 17 + 10 * c) (o := OO n) (rl := fun r => U (K (fa 3 r))) (kr := fun r => K (fa 3 r)) n3 n6 hlen hok r3.1 (fun r hr => ⟨(r4 r hr).1, (r4 r hr).2.1, (r4 r hr).2.2.1⟩) h35 h33 (hMK3.rules n6 (r1 189 (by omega) (by omega)) (fun r hr => (r4 r hr).2.2.2) h34)
        obtain ⟨g5, e5, w1, w2⟩ := m_thru (m := 17 + 10 * c) (o := OO n) false hc6 n3 n6 r3 hco hV
        exact ⟨g5, (KEEP.of (fun a x y z w => r1 a (by omega) (by omega)) (fun i hi => r2 i (by omega))).tr w1.keep, w2 rfl, g4, _, e4, e5⟩
      have hk1 : KEEP g g1 := KEEP.of (fun a x y z w => p1 a (by omega) (by omega) (by omega) (by omega) (by omega) (by omega) (by omega)) (fun i _ => by rw [p1 188 (by omega) (by omega) (by omega) (by omega) (by omega) (by omega) (by omega)])
      have hk2 : KEEP g1 g2 := KEEP.of (fun a x y z w => q1 a (by omega) (by omega)) (fun i _ => by rw [q1 188 (by omega) (by omega)])
      have z71 : g1 188 = g 188 := p1 188 (by omega) (by omega) (by omega) (by omega) (by omega) (by omega) (by omega)
      have z81 : g1 189 = g 189 := p1 189 (by omega) (by omega) (by omega) (by omega) (by omega) (by omega) (by omega)
      have hkk : k = 0 ∨ k = 1 ∨ k = 2 ∨ k = 3 ∨ k = 4 := by omega
      have z00 : (nI 0 = 0) = True := eq_true rfl
      have z10 : (nI 1 = 0) = False := eq_false (by decide)
      have z20 : (nI 2 = 0) = False := eq_false (by decide)
      have z21 : (nI 2 = nI 1) = False := eq_false (by decide)
      have z30 : (nI 3 = 0) = False := eq_false (by decide)
      have z31 : (nI 3 = nI 1) = False := eq_false (by decide)
      have z32 : (nI 3 = nI 2) = False := eq_false (by decide)
      have z40 : (nI 4 = 0) = False := eq_false (by decide)
      have z41 : (nI 4 = nI 1) = False := eq_false (by decide)
      have z42 : (nI 4 = nI 2) = False := eq_false (by decide)
      have z43 : (nI 4 = nI 3) = False := eq_false (by decide)
      obtain ⟨o1, o2, o3, o4⟩ := OO_obj n3 n6
      have gi0 : ∀ (g : GG) (k : KK) (ls st : List Value), kGetI 3 3 0 k ls (.ref (OO n) :: st) (hp g (17 + 10 * c) (OO n)) = k ls (.int (g (OO n) 0) :: st) (hp g (17 + 10 * c) (OO n)) := fun g k ls st => gi_at o1 k ls st
      rcases hkk with rfl | hkk
      · -- how many: the class surveys nothing
        obtain ⟨g5, k5, ⟨s37, -⟩, g4, b, e4, e5⟩ := hmod g1 z71 z81
        have eo := OO_many n3 n6 hO1
        have hpos := nuN_pos co n
        refine ⟨nI ((nuN co n - 1) * ordMany n), g1, 17 + 10 * c, OO n, g5, ?_, ?_, hR.keep (hk1.tr k5)⟩
        · simp (disch := first | assumption | omega) only [f_X10_ever, kb_X10_ever_18, kb_X10_ever_112, kb_X10_ever_96, kb_X10_ever_0, f_X0_withCarts, kb_X0_withCarts_0, KL, KB, KC, KI, KJ, KZ, bI_0, bI_n, nI00, nI10, ne_eq, Classical.not_not, not_true_eq_false, not_false_eq_true, if_true, if_false, ite_not, ite_self, Bool.false_eq_true, nIne1, O_fp, O_co, XO, c_at g m o c hc6, c_within, hyk, e1, p2, nI_sub, gi0, eo, nI_mul]
        · simp (disch := first | assumption | omega) only [f_X11_ever, kb_X11_ever_16, kb_X11_ever_81, kb_X11_ever_0, KL, KB, KC, KI, KJ, KZ, bI_0, bI_n, nI00, nI10, ne_eq, Classical.not_not, not_true_eq_false, not_false_eq_true, if_true, if_false, ite_not, ite_self, Bool.false_eq_true, nIne1, O_mo, m_isCrossing, m_isIn, hyc, hyk, e4, e5, s37]
      · obtain ⟨g5, k5, ⟨s37, s38, s39, s40, s43⟩, g4, b, e4, e5⟩ := hmod g2 ((q1 188 (by omega) (by omega)).trans z71) ((q1 189 (by omega) (by omega)).trans z81)
        obtain ⟨t1, t2, t3, t4, t5, t6⟩ := q2
        generalize svNum n co (VR n co fa (fun r => U (K (fa 3 r)))) (nuN co n - 1) = A at *
        have hkeep := hR.keep (m' := 17 + 10 * c) (o' := OO n) ((hk1.tr hk2).tr k5)
        rcases hkk with rfl | rfl | rfl | rfl
        · refine ⟨nI A.1, g2, 17 + 10 * c, OO n, g5, ?_, ?_, hkeep⟩
          · simp (disch := first | assumption | omega) only [f_X10_ever, kb_X10_ever_18, kb_X10_ever_112, kb_X10_ever_96, kb_X10_ever_0, KL, KB, KC, KI, KJ, KZ, bI_0, bI_n, nI00, nI10, ne_eq, Classical.not_not, not_true_eq_false, not_false_eq_true, if_true, if_false, ite_not, ite_self, Bool.false_eq_true, nIne1, O_fp, O_co, XO, c_at g m o c hc6, c_within, hyk, e1, e2, z10, eq_self, t1]
          · simp (disch := first | assumption | omega) only [f_X11_ever, kb_X11_ever_16, kb_X11_ever_81, kb_X11_ever_0, KL, KB, KC, KI, KJ, KZ, bI_0, bI_n, nI00, nI10, ne_eq, Classical.not_not, not_true_eq_false, not_false_eq_true, if_true, if_false, ite_not, ite_self, Bool.false_eq_true, nIne1, O_mo, m_isCrossing, m_isIn, hyc, hyk, e4, e5, z10, eq_self, s38]
        · refine ⟨nI A.2.1, g2, 17 + 10 * c, OO n, g5, ?_, ?_, hkeep⟩
          · simp (disch := first | assumption | omega) only [f_X10_ever, kb_X10_ever_18, kb_X10_ever_112, kb_X10_ever_96, kb_X10_ever_0, KL, KB, KC, KI, KJ, KZ, bI_0, bI_n, nI00, nI10, ne_eq, Classical.not_not, not_true_eq_false, not_false_eq_true, if_true, if_false, ite_not, ite_self, Bool.false_eq_true, nIne1, O_fp, O_co, XO, c_at g m o c hc6, c_within, hyk, e1, e2, z20, z21, eq_self, t2]
          · simp (disch := first | assumption | omega) only [f_X11_ever, kb_X11_ever_16, kb_X11_ever_81, kb_X11_ever_0, KL, KB, KC, KI, KJ, KZ, bI_0, bI_n, nI00, nI10, ne_eq, Classical.not_not, not_true_eq_false, not_false_eq_true, if_true, if_false, ite_not, ite_self, Bool.false_eq_true, nIne1, O_mo, m_isCrossing, m_isIn, hyc, hyk, e4, e5, z20, z21, eq_self, s39]
        · cases hA : A.2.2.1 with
          | none =>
            rw [hA] at s40 t3
            have s40' : g5 188 40 = -1 := s40
            have t3' : g2 164 14 = nI 0 := t3
            refine ⟨-1, g2, 17 + 10 * c, OO n, g5, ?_, ?_, hkeep⟩
            · simp (disch := first | assumption | omega) only [f_X10_ever, kb_X10_ever_18, kb_X10_ever_112, kb_X10_ever_96, kb_X10_ever_0, KL, KB, KC, KI, KJ, KZ, bI_0, bI_n, nI00, nI10, ne_eq, Classical.not_not, not_true_eq_false, not_false_eq_true, if_true, if_false, ite_not, ite_self, Bool.false_eq_true, nIne1, O_fp, O_co, XO, c_at g m o c hc6, c_within, hyk, e1, e2, z30, z31, z32, eq_self, t3', z00]
            · simp (disch := first | assumption | omega) only [f_X11_ever, kb_X11_ever_16, kb_X11_ever_81, kb_X11_ever_0, KL, KB, KC, KI, KJ, KZ, bI_0, bI_n, nI00, nI10, ne_eq, Classical.not_not, not_true_eq_false, not_false_eq_true, if_true, if_false, ite_not, ite_self, Bool.false_eq_true, nIne1, O_mo, m_isCrossing, m_isIn, hyc, hyk, e4, e5, z30, z31, z32, eq_self, s40']
          | some q =>
            rw [hA] at s40 t3
            obtain ⟨t4a, t4b, t4c⟩ := t4 q hA
            have s40' : g5 188 40 = nI (cD n (dgN n co q.1)) := s40.1
            have t3' : g2 164 14 = nI (slD (dgN n co q.1)) := t3
            have hl12 : slD (dgN n co q.1) < 4096 := setN_lt12 _
            have hz : (nI (slD (dgN n co q.1)) = 0) = False := by rw [nIk0 (by omega)]; exact eq_false t4c
            have hbc := fun h => c_bitCount (slD (dgN n co q.1)) hl12 h
            rw [popN_slD n6 hlen t4b] at hbc
            refine ⟨nI (cD n (dgN n co q.1)), g2, 17 + 10 * c, OO n, g5, ?_, ?_, hkeep⟩
            · simp (disch := first | assumption | omega) only [f_X10_ever, kb_X10_ever_18, kb_X10_ever_112, kb_X10_ever_96, kb_X10_ever_0, KL, KB, KC, KI, KJ, KZ, bI_0, bI_n, nI00, nI10, ne_eq, Classical.not_not, not_true_eq_false, not_false_eq_true, if_true, if_false, ite_not, ite_self, Bool.false_eq_true, nIne1, O_fp, O_co, XO, c_at g m o c hc6, c_within, hyk, e1, e2, z30, z31, z32, eq_self, t3', hz, hbc]
            · simp (disch := first | assumption | omega) only [f_X11_ever, kb_X11_ever_16, kb_X11_ever_81, kb_X11_ever_0, KL, KB, KC, KI, KJ, KZ, bI_0, bI_n, nI00, nI10, ne_eq, Classical.not_not, not_true_eq_false, not_false_eq_true, if_true, if_false, ite_not, ite_self, Bool.false_eq_true, nIne1, O_mo, m_isCrossing, m_isIn, hyc, hyk, e4, e5, z30, z31, z32, eq_self, s40']
        · cases hA : A.2.2.2 with
          | none =>
            rw [hA] at s43 t5
            have s40' : g5 188 43 = -1 := s43
            have t3' : g2 164 16 = nI 0 := t5
            refine ⟨-1, g2, 17 + 10 * c, OO n, g5, ?_, ?_, hkeep⟩
            · simp (disch := first | assumption | omega) only [f_X10_ever, kb_X10_ever_18, kb_X10_ever_112, kb_X10_ever_96, kb_X10_ever_0, KL, KB, KC, KI, KJ, KZ, bI_0, bI_n, nI00, nI10, ne_eq, Classical.not_not, not_true_eq_false, not_false_eq_true, if_true, if_false, ite_not, ite_self, Bool.false_eq_true, nIne1, O_fp, O_co, XO, c_at g m o c hc6, c_within, hyk, e1, e2, z40, z41, z42, z43, t3', z00]
            · simp (disch := first | assumption | omega) only [f_X11_ever, kb_X11_ever_16, kb_X11_ever_81, kb_X11_ever_0, KL, KB, KC, KI, KJ, KZ, bI_0, bI_n, nI00, nI10, ne_eq, Classical.not_not, not_true_eq_false, not_false_eq_true, if_true, if_false, ite_not, ite_self, Bool.false_eq_true, nIne1, O_mo, m_isCrossing, m_isIn, hyc, hyk, e4, e5, z40, z41, z42, z43, s40']
          | some q =>
            rw [hA] at s43 t5
            obtain ⟨t4a, t4b, t4c⟩ := t6 q hA
            have s40' : g5 188 43 = nI (cD n (dgN n co q.1)) := s43.1
            have t3' : g2 164 16 = nI (slD (dgN n co q.1)) := t5
            have hl12 : slD (dgN n co q.1) < 4096 := setN_lt12 _
            have hz : (nI (slD (dgN n co q.1)) = 0) = False := by rw [nIk0 (by omega)]; exact eq_false t4c
            have hbc := fun h => c_bitCount (slD (dgN n co q.1)) hl12 h
            rw [popN_slD n6 hlen t4b] at hbc
            refine ⟨nI (cD n (dgN n co q.1)), g2, 17 + 10 * c, OO n, g5, ?_, ?_, hkeep⟩
            · simp (disch := first | assumption | omega) only [f_X10_ever, kb_X10_ever_18, kb_X10_ever_112, kb_X10_ever_96, kb_X10_ever_0, KL, KB, KC, KI, KJ, KZ, bI_0, bI_n, nI00, nI10, ne_eq, Classical.not_not, not_true_eq_false, not_false_eq_true, if_true, if_false, ite_not, ite_self, Bool.false_eq_true, nIne1, O_fp, O_co, XO, c_at g m o c hc6, c_within, hyk, e1, e2, z40, z41, z42, z43, t3', hz, hbc]
            · simp (disch := first | assumption | omega) only [f_X11_ever, kb_X11_ever_16, kb_X11_ever_81, kb_X11_ever_0, KL, KB, KC, KI, KJ, KZ, bI_0, bI_n, nI00, nI10, ne_eq, Classical.not_not, not_true_eq_false, not_false_eq_true, if_true, if_false, ite_not, ite_self, Bool.false_eq_true, nIne1, O_mo, m_isCrossing, m_isIn, hyc, hyk, e4, e5, z40, z41, z42, z43, s40']
    · refine ⟨-1, g, m, o, g, ?_, ?_, RT_mono _ _ _ _ hR⟩
      · simp (disch := first | assumption | omega) only [f_X10_ever, kb_X10_ever_18, kb_X10_ever_112, kb_X10_ever_96, kb_X10_ever_0, KL, KB, KC, KI, KJ, KZ, bI_0, bI_n, nI00, nI10, ne_eq, Classical.not_not, not_true_eq_false, not_false_eq_true, if_true, if_false, ite_not, ite_self, Bool.false_eq_true, nIne1, O_fp, XO, c_at g m o c hc6, c_within, h1]
      · simp (disch := first | assumption | omega) only [f_X11_ever, kb_X11_ever_16, kb_X11_ever_81, kb_X11_ever_0, KL, KB, KC, KI, KJ, KZ, bI_0, bI_n, nI00, nI10, ne_eq, Classical.not_not, not_true_eq_false, not_false_eq_true, if_true, if_false, ite_not, ite_self, Bool.false_eq_true, nIne1, O_mo, m_isCrossing, m_isIn, hyc, h1]
  · refine ⟨-1, g, m, o, g, ?_, ?_, RT_mono _ _ _ _ hR⟩
    · simp (disch := first | assumption | omega) only [f_X10_ever, kb_X10_ever_18, kb_X10_ever_112, kb_X10_ever_96, kb_X10_ever_0, KL, KB, KC, KI, KJ, KZ, bI_0, bI_n, nI00, nI10, ne_eq, Classical.not_not, not_true_eq_false, not_false_eq_true, if_true, if_false, ite_not, ite_self, Bool.false_eq_true, nIne1, O_fp, c_atN g m o a0 h0]
    · simp (disch := first | assumption | omega) only [f_X11_ever, kb_X11_ever_16, kb_X11_ever_81, kb_X11_ever_0, KL, KB, KC, KI, KJ, KZ, bI_0, bI_n, nI00, nI10, ne_eq, Classical.not_not, not_true_eq_false, not_false_eq_true, if_true, if_false, ite_not, ite_self, Bool.false_eq_true, nIne1, O_mo, m_isCrossing, h0]
