-- ===== lay: both halves together =====
def SVQ (n i : Nat) (x : Option (Nat × Nat)) : Prop := ∀ q, x = some q → q.1 ≤ i ∧ q.2 < ordMany n
theorem updL_Q {n i nu k : Nat} {co : Nat → List Goods} {x : Option (Nat × Nat)} (h : SVQ n i x) (h1 : nu ≤ i) (h2 : k < ordMany n) : SVQ n i (updL n co nu k x) := by
  intro q hq
  cases x with
  | none =>
    have e : some (nu, k) = some q := hq
    cases e
    exact ⟨h1, h2⟩
  | some p =>
    by_cases hlt : cD n (dgN n co nu) < cD n (dgN n co p.1)
    · rw [updL_some hlt] at hq
      cases hq
      exact ⟨h1, h2⟩
    · rw [updL_keep hlt] at hq
      exact h q hq
theorem svOrd_Q {n i nu : Nat} {co : Nat → List Goods} {V : Nat → Nat → Bool → Bool} {A : SVA} (h1 : nu ≤ i) (hA : SVQ n i A.2.2.1) (hB : SVQ n i A.2.2.2) : ∀ k, k ≤ ordMany n → SVQ n i (svOrd n co V nu k A).2.2.1 ∧ SVQ n i (svOrd n co V nu k A).2.2.2 := by
  intro k
  induction k with
  | zero => intro _; exact ⟨hA, hB⟩
  | succ k ih =>
    intro hk
    obtain ⟨i1, i2⟩ := ih (by omega)
    have e : svOrd n co V nu (k + 1) A = svStep n co V nu k (svOrd n co V nu k A) := rfl
    rw [e]
    unfold svStep
    split
    · exact ⟨updL_Q i1 h1 (by omega), i2⟩
    · split
      · exact ⟨i1, updL_Q i2 h1 (by omega)⟩
      · exact ⟨i1, i2⟩
theorem svNum_Q (n : Nat) (co : Nat → List Goods) (V : Nat → Nat → Bool → Bool) : ∀ i, SVQ n i (svNum n co V i).2.2.1 ∧ SVQ n i (svNum n co V i).2.2.2 := by
  intro i
  induction i with
  | zero => exact ⟨fun q hq => (by cases hq), fun q hq => (by cases hq)⟩
  | succ i ih =>
    have e : svNum n co V (i + 1) = svOrd n co V (i + 1) (ordMany n) (svNum n co V i) := rfl
    rw [e]
    exact svOrd_Q (Nat.le_refl _) (fun q hq => ⟨by have := (ih.1 q hq).1; omega, (ih.1 q hq).2⟩) (fun q hq => ⟨by have := (ih.2 q hq).1; omega, (ih.2 q hq).2⟩) (ordMany n) (Nat.le_refl _)
theorem nIneT {a : Nat} (ha : a < 2147483648) : (nI a ≠ -1) = True := eq_true (by intro h; rw [nIne1 ha] at h; exact h)
/-- the abstract crossing, what can come cut to its roads -/
theorem RT.comeA {j : Nat} {g : GG} {m o c n : Nat} (hR : RT j g m o) (hc : c < 6) (hx : XRn g (17 + 10 * c) 189 (10 + 560 * c) n j) : ∃ (co : Nat → List Goods) (fa : FA) (U : Nat → ARule) (K : Nat → Nat) (A : AX), CK (17 + 10 * c) n co fa U K g ∧ MK (10 + 560 * c) n co fa U K g ∧ (∀ r, n ≤ r → co r = []) ∧ (∀ r, (co r).length ≤ 2) ∧ (∀ r, r < n → ∀ z ∈ co r, okGo n r z) ∧ CXd (17 + 10 * c) A g ∧ MXd (10 + 560 * c) A g ∧ BXd n (60 * j) A := by
  obtain ⟨co, fa, U, K, A, hCK, hMK, h1, h2, h3⟩ := hR.abs hc hx
  have n6 := hx.2.1
  refine ⟨coTr n co, fa, U, K, A, hCK.coT n6, hMK.coT n6, fun r hr => if_neg (by omega), fun r => ?_, fun r hr z hz => ?_, h1, h2, h3⟩
  · by_cases q : r < n
    · have e : coTr n co r = co r := if_pos q
      rw [e]; exact (hCK.2.2.1 r (by omega)).1
    · have e : coTr n co r = [] := if_neg q
      rw [e]; show 0 ≤ 2; omega
  · have e : coTr n co r = co r := if_pos hr
    rw [e] at hz
    exact (hCK.2.2.1 r (by omega)).2.2.1 z hz
/-- the crossing after a state has been put down on both sides -/
theorem laid_X {j c n k : Nat} {co : Nat → List Goods} {fa : FA} {U : Nat → ARule} {K : Nat → Nat} {A : AX} {d : Nat → Nat} {g g8 : GG} (hc : c < 6) (n3 : 3 ≤ n) (n6 : n ≤ 6) (hk : k < ordMany n) (hd : DG n co d) (hlen : ∀ r, (co r).length ≤ 2) (hok : ∀ r, r < n → ∀ z ∈ co r, okGo n r z) (hCK : CK (17 + 10 * c) n co fa U K g) (hMK : MK (10 + 560 * c) n co fa U K g) (hCX : CXd (17 + 10 * c) A g) (hMX : MXd (10 + 560 * c) A g) (hBX : BXd n (60 * j) A) (hL : XLi g (17 + 10 * c) 189 (10 + 560 * c) n)
    (f1 : ∀ a, a < 77 → a ≠ 17 + 10 * c + 2 → g8 a = g a) (f2 : ∀ i, n ≤ i % 6 → g8 (17 + 10 * c + 2) i = g (17 + 10 * c + 2) i) (f3 : ∀ i, (∀ q, q < n → i < 10 + 560 * c + 92 * q + 18 ∨ 10 + 560 * c + 92 * q + 24 < i) → g8 189 i = g 189 i) (f4 : ∀ r, r < n → cartC g8 (17 + 10 * c) r (caL n k co d r)) (f5 : ∀ r, r < n → cartM g8 (10 + 560 * c) r (caL n k co d r)) : XRn g8 (17 + 10 * c) 189 (10 + 560 * c) n (j + 1) := by
  have hF8 : FR8 (10 + 560 * c) g g8 := ⟨fun i _ hi => f3 i (fun q hq => by omega), fun r t hr ht ht2 => f3 _ (fun q hq => by
    by_cases e : q = r
    · subst e; omega
    · have : q < r ∨ r < q := by omega
      omega), f3 _ (fun q hq => by omega)⟩
  obtain ⟨w1, w2, w3, w4⟩ := hCX
  obtain ⟨v1, v2, v3, v4⟩ := hMX
  obtain ⟨b1, b2, b3, b4⟩ := hBX
  refine XRn.of_abs (A := (fun r => if r < n then caL n k co d r else A.1 r, A.2.1, A.2.2.1, A.2.2.2)) n3 n6 (hCK.congr (by omega) (by omega) (fun a a1 a2 a3 a4 => f1 a a1 a3)) (hMK.congr (by omega) (by omega) hF8) ⟨fun r hr => ?_, fun r hr => ?_, fun t ht r hr => ?_, fun t ht => ?_⟩ ⟨fun r hr => ?_, fun r hr => ?_, fun t ht r hr => ?_, fun t ht => ?_⟩ ⟨fun r hr a ha => ?_, b2, fun t ht r hr => ⟨by have := (b3 t ht r hr).1; show A.2.2.1 t r ≤ _; omega, (b3 t ht r hr).2⟩, fun t ht => by have := b4 t ht; show A.2.2.2 t ≤ _; omega⟩ (hL.congr (fun i hi => by rw [f1 _ (by omega) (by omega)]) (fun r2 hr2 t _ _ => hF8.2.1 r2 t hr2 (by omega) (by omega)))
  · by_cases q : r < n
    · show cartC g8 _ r (if r < n then _ else _)
      rw [if_pos q]; exact f4 r q
    · show cartC g8 _ r (if r < n then _ else _)
      rw [if_neg q]
      exact (w1 r hr).congr (fun t ht => f2 _ (by omega))
  · rw [f1 _ (by omega) (by omega), f1 (17 + 10 * c + 5) (by omega) (by omega)]
    exact w2 r hr
  · rw [f1 _ (by omega) (by omega)]
    exact w3 t ht r hr
  · rw [f1 _ (by omega) (by omega)]
    exact w4 t ht
  · by_cases q : r < n
    · show cartM g8 _ r (if r < n then _ else _)
      rw [if_pos q]; exact f5 r q
    · show cartM g8 _ r (if r < n then _ else _)
      rw [if_neg q]
      exact (v1 r hr).congr (fun t ht ht2 => f3 _ (fun q hq => by omega))
  · have hh : ∀ t, 25 ≤ t → t < 92 → g8 189 (10 + 560 * c + 92 * r + t) = g 189 (10 + 560 * c + 92 * r + t) := fun t h1 h2 => f3 _ (fun q hq => by
      by_cases e : q = r
      · subst e; omega
      · have : q < r ∨ r < q := by omega
        omega)
    obtain ⟨x1, x2⟩ := v2 r hr
    refine ⟨by rw [hh 25 (by omega) (by omega)]; exact x1, fun i z hz => ?_⟩
    have hil : i < 20 := by
      have h20 := (b2 r hr).1
      have : i < (A.2.1 r).length := by
        have := List.getElem?_eq_some_iff.mp hz
        exact this.1
      omega
    have y0 : g8 189 (10 + 560 * c + 92 * r + 26 + 3 * i) = g 189 (10 + 560 * c + 92 * r + 26 + 3 * i) := (by have h := hh (26 + 3 * i) (by omega) (by omega); rwa [← Nat.add_assoc] at h)
    have y1 : g8 189 (10 + 560 * c + 92 * r + 26 + 3 * i + 1) = g 189 (10 + 560 * c + 92 * r + 26 + 3 * i + 1) := (by have h := hh (26 + 3 * i + 1) (by omega) (by omega); rwa [← Nat.add_assoc, ← Nat.add_assoc] at h)
    have y2 : g8 189 (10 + 560 * c + 92 * r + 26 + 3 * i + 2) = g 189 (10 + 560 * c + 92 * r + 26 + 3 * i + 2) := (by have h := hh (26 + 3 * i + 2) (by omega) (by omega); rwa [← Nat.add_assoc, ← Nat.add_assoc] at h)
    obtain ⟨z0, z1, z2⟩ := x2 i z hz
    exact ⟨by rw [← z0]; exact y0, by rw [← z1]; exact y1, by rw [← z2]; exact y2⟩
  · have hh := f3 (10 + 560 * c + 92 * r + 86 + t) (fun q hq => by
      by_cases e : q = r
      · subst e; omega
      · have : q < r ∨ r < q := by omega
        omega)
    rw [hh]
    exact v3 t ht r hr
  · rw [f3 _ (fun q hq => by omega)]
    exact v4 t ht
  · have ha' : (if r < n then caL n k co d r else A.1 r) = some a := ha
    by_cases q : r < n
    · rw [if_pos q] at ha'
      unfold caL at ha'
      by_cases h0 : 0 < d r
      · rw [if_pos h0] at ha'
        have e := Option.some.inj ha'
        rw [← e]
        have hrk := (ord_p n3 n6 hk q).2.2.1
        exact ⟨q, hok r q _ (List.mem_of_getElem? (cG_x (hd.1 r) (hlen r) h0)), by show ordRank n k r ≤ 99; omega, by show 0 ≤ 2; omega, Nat.zero_le _⟩
      · rw [if_neg h0] at ha'
        cases ha'
    · rw [if_neg q] at ha'
      obtain ⟨x0, x1, x2, x3, x4⟩ := b1 r hr a ha'
      exact ⟨x0, x1, x2, x3, by omega⟩
theorem ag_lay (a0 a1 : Int32) : Ag RT f_X10_lay f_X11_lay [.int a0, .int a1] := by
  intro j g m o hj hR
  rcases in_cases a0 5 (by decide) with ⟨c, hc, rfl⟩ | h0
  · have hc6 : c < 6 := by omega
    have hX := isX_live c hc6
    have hyc : (nI 0 ≤ nI c ∧ nI c ≤ nI 5) = True := eq_true (in_yes hc (by omega))
    obtain ⟨n, hx⟩ := hR.at hc6
    obtain ⟨n3, n6, en, em, fFa, fCa, fCo, fRo, fCt, fTo, fLi⟩ := id hx
    rcases in_cases a1 1 (by decide) with ⟨k, hk, rfl⟩ | h1
    · have hyk : (nI 0 ≤ nI k ∧ nI k ≤ nI 1) = True := eq_true (in_yes hk (by omega))
      obtain ⟨co, fa, U, K, A, hCK, hMK, hco, hlen, hok, hCX, hMX, hBX⟩ := hR.comeA hc6 hx
      obtain ⟨g1, e1, p1, p2, p3, p4⟩ := c_askByRule (m := m) (o := o) hX (by omega) (by omega) n3 n6 hCK (-1) (fun r => K (fa 3 r)) (Or.inl ⟨rfl, fun _ => rfl⟩)
      have z1 : ∀ a, a < 77 → g1 a = g a := fun a ha => p1 a (by omega) (by omega) (by omega) (by omega) (by omega) (by omega) (by omega)
      have hO : ORD g := hR.2.2.2.2.2.1
      have hO1 : ORD g1 := hO.congr (fun a x y => p1 a (by omega) (by omega) (by omega) (by omega) (by omega) (by omega) (by omega))
      have hCO1 : CO (17 + 10 * c) n co g1 := hCK.co.congr (z1 _ (by omega)) (z1 _ (by omega)) (z1 _ (by omega))
      obtain ⟨g2, e2, q1, q2⟩ := c_survey hX (by omega) n3 n6 hCO1 (fun r hr => hco r (by omega)) p4 hO1 p2
      have z71 : g1 188 = g 188 := p1 188 (by omega) (by omega) (by omega) (by omega) (by omega) (by omega) (by omega)
      have z81 : g1 189 = g 189 := p1 189 (by omega) (by omega) (by omega) (by omega) (by omega) (by omega) (by omega)
      have z72 : g2 188 = g 188 := (q1 188 (by omega) (by omega)).trans z71
      have z82 : g2 189 = g 189 := (q1 189 (by omega) (by omega)).trans z81
      have hk1 : KEEP g g1 := KEEP.of (fun a x y z w => p1 a (by omega) (by omega) (by omega) (by omega) (by omega) (by omega) (by omega)) (fun i _ => by rw [z71])
      have hk2 : KEEP g1 g2 := KEEP.of (fun a x y z w => q1 a (by omega) (by omega)) (fun i _ => by rw [q1 188 (by omega) (by omega)])
      have hk12 := hk1.tr hk2
      have hO2 : ORD g2 := hO1.congr (fun a x y => q1 a (by omega) (by omega))
      have hCO2 : CO (17 + 10 * c) n co g2 := hCO1.congr (q1 _ (by omega) (by omega)) (q1 _ (by omega) (by omega)) (q1 _ (by omega) (by omega))
      have hpos := nuN_pos co n
      have hN2 : nuN co n ≤ 729 := Nat.le_trans (nuN_le co hlen n) (by have : (3 : Nat) ^ n ≤ 3 ^ 6 := Nat.pow_le_pow_right (by omega) n6; omega)
      -- the model from any state that the class leaves
      have hmod : ∀ g3 : GG, g3 188 = g 188 → g3 189 = g 189 → ∃ (g4 g5 : GG) (b : Int32), f_X11_laysOut [.ref 188, .int (nI c)] (hp g3 (17 + 10 * c) (OO n)) = some (none, hp g4 (17 + 10 * c) (OO n)) ∧ f_X11_goesThrough [.ref 188, .int (nI c), .int (nI 0)] (hp g4 (17 + 10 * c) (OO n)) = some (some (.int b), hp g5 (17 + 10 * c) (OO n)) ∧ (∀ a, a ≠ 188 → (a < 194 ∨ 207 < a) → g5 a = g3 a) ∧ (∀ i, i ≠ 20 → i < 37 → g5 188 i = g3 188 i) ∧ MO c n co g5 ∧ SVM n co ((nuN co n - 1) * ordMany n) (svNum n co (VR n co fa (fun r => U (K (fa 3 r)))) (nuN co n - 1)) g5 := by
        intro g3 z7 z8
        have hMK3 : MK (10 + 560 * c) n co fa U K g3 := hMK.congr (by omega) (by omega) (FR8.of z8)
        obtain ⟨g4, e4, r1, r2, r3, r4⟩ := hMK3.base (m := 17 + 10 * c) (o := OO n) hc6 n6
        have h34 : g4 188 34 = -1 := by rw [r2 34 (by omega), z7]; exact hR.2.2.2.2.2.2.2.1
        have h33 : g4 188 33 = -1 := by rw [r2 33 (by omega), z7]; exact hR.2.2.2.2.2.2.1
        have h35 : g4 188 35 = nI 0 := by rw [r2 35 (by omega), z7]; exact hR.2.2.2.2.2.2.2.2
        have hV := mwv_of (m := 17 + 10 * c) (o := OO n) (rl := fun r => U (K (fa 3 r))) (kr := fun r => K (fa 3 r)) n3 n6 hlen hok r3.1 (fun r hr => ⟨(r4 r hr).1, (r4 r hr).2.1, (r4 r hr).2.2.1⟩) h35 h33 (hMK3.rules n6 (r1 189 (by omega) (by omega)) (fun r hr => (r4 r hr).2.2.2) h34)
        obtain ⟨g5, e5, w1, w2⟩ := m_thru (m := 17 + 10 * c) (o := OO n) false hc6 n3 n6 r3 hco hV
        refine ⟨g4, g5, _, e4, e5, fun a a1 a2 => ?_, fun i i1 i2 => ?_, ?_, w2 rfl⟩
        · rw [w1.1 a (by omega) (by omega) (by omega) (by omega) (by omega) (by omega) (by omega) (by omega) (by omega), r1 a (by omega) (by omega)]
        · rw [w1.2 i (by omega), r2 i i1]
        · exact r3.congr (w1.2 20 (by omega)) (w1.1 206 (by omega) (by omega) (by omega) (by omega) (by omega) (by omega) (by omega) (by omega) (by omega)) (w1.1 189 (by omega) (by omega) (by omega) (by omega) (by omega) (by omega) (by omega) (by omega) (by omega))
      -- a state found: both put it down
      have hput : ∀ (v : Value) (nu kk : Nat), nu < nuN co n → kk < ordMany n → ∃ (g3 g4 g5 : GG) (b : Int32), f_X0_putDown [.ref 164, .int (nI (slD (dgN n co nu))), .int (nI kk)] (hp g2 (17 + 10 * c) (OO n)) = some (none, hp g3 (17 + 10 * c) (OO n)) ∧ f_X11_laysOut [.ref 188, .int (nI c)] (hp g3 (17 + 10 * c) (OO n)) = some (none, hp g4 (17 + 10 * c) (OO n)) ∧ f_X11_goesThrough [.ref 188, .int (nI c), .int (nI 0)] (hp g4 (17 + 10 * c) (OO n)) = some (some (.int b), hp g5 (17 + 10 * c) (OO n)) ∧ SVM n co ((nuN co n - 1) * ordMany n) (svNum n co (VR n co fa (fun r => U (K (fa 3 r)))) (nuN co n - 1)) g5 ∧ ∃ (g6 g7 g8 : GG), f_X11_lays [.ref 188, .int (nI c), .int (nI nu)] (hp g5 (17 + 10 * c) (OO n)) = some (some (.int (nI (cD n (dgN n co nu)))), hp g6 (17 + 10 * c) (OO n)) ∧ g6 188 = g5 188 ∧ f_X11_ranks [.ref 188, .int (nI kk)] (hp g6 (17 + 10 * c) (OO n)) = some (none, hp g7 (17 + 10 * c) (OO n)) ∧ kl_X11_lay_93 [.ref 188, .int (nI c), v, .int (nI 0)] [] (hp g7 (17 + 10 * c) (OO n)) = some (some (.int (nI 1)), hp g8 (17 + 10 * c) (OO n)) ∧ RT (j + 1) g8 (17 + 10 * c) (OO n) := by
        intro v nu kk hnu hkk
        obtain ⟨hd, -⟩ := dgN_ok hnu
        obtain ⟨g3, e3, s1, s2, s3⟩ := c_putDown hX (by omega) n3 n6 hCO2 hO2 hlen hd hkk
        have y7 : g3 188 = g 188 := (s1 188 (by omega)).trans z72
        have y8 : g3 189 = g 189 := (s1 189 (by omega)).trans z82
        obtain ⟨g4, g5, b, e4, e5, t1, t2, t3, t4⟩ := hmod g3 y7 y8
        obtain ⟨g6, e6, l1, l2⟩ := m_lays (m := 17 + 10 * c) (o := OO n) hc6 n3 n6 t3 hnu hN2
        have en6 : g6 188 20 = nI n := by rw [l1 188 (by omega) (by omega) (by omega) (by omega) (by omega)]; exact t3.1
        obtain ⟨g7, e7, k1, k2⟩ := m_ranks g6 (17 + 10 * c) (OO n) n kk n3 n6 en6 hkk
        have hL7 : LYK n kk co (dgN n co nu) g7 := ⟨l2.congr (fun a ha => k1 a (by omega)), k2⟩
        obtain ⟨g8, e8, x1, x2, x3⟩ := m_lay93 (m := 17 + 10 * c) (o := OO n) hc6 n3 n6 (by rw [k1 188 (by omega)]; exact en6) hL7 v
        refine ⟨g3, g4, g5, b, e3, e4, e5, t4, g6, g7, g8, e6, l1 188 (by omega) (by omega) (by omega) (by omega) (by omega), e7, e8, ?_⟩
        have y75 : ∀ a, a ≠ 189 → (a < 194 ∨ 207 < a) → g8 a = g5 a := fun a a1 a2 => by rw [x1 a a1, k1 a (by omega), l1 a (by omega) (by omega) (by omega) (by omega) (by omega)]
        have y3 : ∀ a, a ≠ 188 → a ≠ 189 → (a < 194 ∨ 207 < a) → g8 a = g3 a := fun a a0 a1 a2 => by rw [y75 a a1 a2, t1 a a0 a2]
        have y2 : ∀ a, a ≠ 188 → a ≠ 189 → (a < 194 ∨ 207 < a) → a ≠ 17 + 10 * c + 2 → g8 a = g2 a := fun a a0 a1 a2 a3 => by rw [y3 a a0 a1 a2, s1 a a3]
        have y82 : ∀ i, (∀ q, q < n → i < 10 + 560 * c + 92 * q + 18 ∨ 10 + 560 * c + 92 * q + 24 < i) → g8 189 i = g 189 i := fun i hi => by
          rw [x3 i hi, k1 189 (by omega), l1 189 (by omega) (by omega) (by omega) (by omega) (by omega), t1 189 (by omega) (by omega), y8]
        have hXR := laid_X (g8 := g8) hc6 n3 n6 hkk hd hlen hok hCK hMK hCX hMX hBX fLi (fun a a1 a2 => by rw [y2 a (by omega) (by omega) (by omega) a2]; exact hk12.1 a (by omega)) (fun i hi => by rw [y3 _ (by omega) (by omega) (by omega), s3 i hi]; rw [hk12.1 _ (by omega)]) y82 (fun r hr => (s2 r hr).congr (fun t ht => by rw [y3 _ (by omega) (by omega) (by omega)])) x2
        refine hR.put hc6 hXR (fun a a1 a2 => ?_) (fun i i1 i2 => y82 i (fun q hq => by omega)) ?_ ?_ (fun i hi => ?_)
        · rw [y2 a (by omega) (by omega) (by omega) (by omega)]
          rcases a1 with h | h | h
          · exact hk12.1 a h
          · exact hk12.2.1 a h.1 h.2
          · exact hk12.2.2.1 a h.1 h.2
        · rw [y2 190 (by omega) (by omega) (by omega) (by omega)]; exact hk12.2.2.2.2.1
        · rw [y2 193 (by omega) (by omega) (by omega) (by omega)]; exact hk12.2.2.2.2.2.1
        · rw [y75 188 (by omega) (by omega), t2 i (by omega) (by omega), y7]
      have hnone : ∃ (g4 g5 : GG) (b : Int32), f_X11_laysOut [.ref 188, .int (nI c)] (hp g2 (17 + 10 * c) (OO n)) = some (none, hp g4 (17 + 10 * c) (OO n)) ∧ f_X11_goesThrough [.ref 188, .int (nI c), .int (nI 0)] (hp g4 (17 + 10 * c) (OO n)) = some (some (.int b), hp g5 (17 + 10 * c) (OO n)) ∧ SVM n co ((nuN co n - 1) * ordMany n) (svNum n co (VR n co fa (fun r => U (K (fa 3 r)))) (nuN co n - 1)) g5 ∧ RT (j + 1) g5 (17 + 10 * c) (OO n) := by
        obtain ⟨g4, g5, b, e4, e5, t1, t2, t3, t4⟩ := hmod g2 z72 z82
        exact ⟨g4, g5, b, e4, e5, t4, hR.keep (hk12.tr (KEEP.of (fun a x y z w => t1 a (by omega) (by omega)) (fun i hi => t2 i (by omega) (by omega))))⟩
      obtain ⟨hQ1, hQ2⟩ := svNum_Q n co (VR n co fa (fun r => U (K (fa 3 r)))) (nuN co n - 1)
      obtain ⟨t1, t2, t3, t4, t5, t6⟩ := q2
      generalize svNum n co (VR n co fa (fun r => U (K (fa 3 r)))) (nuN co n - 1) = F at *
      have z00 : (nI 0 = 0) = True := eq_true rfl
      have z00' : (nI 0 ≠ 0) = False := eq_false (by decide)
      have z10' : (nI 1 ≠ 0) = True := eq_true (by decide)
      have zm : ((-1 : Int32) ≠ -1) = False := eq_false (by decide)
      have hkk : k = 0 ∨ k = 1 := by omega
      rcases hkk with rfl | rfl
      · cases hA : F.2.2.1 with
        | none =>
          rw [hA] at t3
          have t3' : g2 164 14 = nI 0 := t3
          obtain ⟨g4, g5, b, e4, e5, s, hRT⟩ := hnone
          have s40 := s.2.2.2.1
          rw [hA] at s40
          have s40' : g5 188 40 = -1 := s40
          refine ⟨nI 0, g2, 17 + 10 * c, OO n, g5, ?_, ?_, hRT⟩
          · simp (disch := first | assumption | omega) only [f_X10_lay, kb_X10_lay_18, kb_X10_lay_80, kb_X10_lay_57, kb_X10_lay_0, KL, KB, KC, KI, KJ, KZ, bI_0, bI_n, nI00, nI10, ne_eq, Classical.not_not, not_true_eq_false, not_false_eq_true, if_true, if_false, ite_not, ite_self, Bool.false_eq_true, nIne1, O_fp, O_co, XO, c_at g m o c hc6, c_within, hyk, e1, e2, z00', t3']
          · simp (disch := first | assumption | omega) only [f_X11_lay, kb_X11_lay_16, kb_X11_lay_153, kb_X11_lay_88, kb_X11_lay_68, kb_X11_lay_45, kb_X11_lay_0, KL, KB, KC, KI, KJ, KZ, bI_0, bI_n, nI00, nI10, ne_eq, Classical.not_not, not_true_eq_false, not_false_eq_true, if_true, if_false, ite_not, ite_self, Bool.false_eq_true, nIne1, O_mo, m_isCrossing, m_isIn, hyc, hyk, e4, e5, z00', s40', zm]
        | some q =>
          rw [hA] at t3
          have t3' : g2 164 14 = nI (slD (dgN n co q.1)) := t3
          obtain ⟨t4a, t4b, t4c⟩ := t4 q hA
          obtain ⟨u1, u2⟩ := hQ1 q hA
          obtain ⟨g3, g4, g5, b, e3, e4, e5, s, g6, g7, g8, e6, e67, e7, e8, hRT⟩ := hput (.int (nI 0)) q.1 q.2 (by omega) u2
          have s40 := s.2.2.2.1
          rw [hA] at s40
          have s40' : g5 188 40 = nI (cD n (dgN n co q.1)) ∧ g5 188 41 = nI q.1 ∧ g5 188 42 = nI q.2 := s40
          obtain ⟨s40a, s40b, s40c⟩ := s40'
          have hl12 : slD (dgN n co q.1) < 4096 := setN_lt12 _
          have hz : (nI (slD (dgN n co q.1)) ≠ 0) = True := eq_true (by rw [Ne, nIk0 (by omega)]; exact t4c)
          have b1 : cD n (dgN n co q.1) ≤ n := cntN_le _ _
          have hne := nIneT (a := cD n (dgN n co q.1)) (by omega)
          refine ⟨nI 1, g3, 17 + 10 * c, OO n, g8, ?_, ?_, hRT⟩
          · simp (disch := first | assumption | omega) only [f_X10_lay, kb_X10_lay_18, kb_X10_lay_80, kb_X10_lay_57, kb_X10_lay_0, KL, KB, KC, KI, KJ, KZ, bI_0, bI_n, nI00, nI10, ne_eq, Classical.not_not, not_true_eq_false, not_false_eq_true, if_true, if_false, ite_not, ite_self, Bool.false_eq_true, nIne1, O_fp, O_co, XO, c_at g m o c hc6, c_within, hyk, e1, e2, z00', t3', t4a, hz, e3]
          · simp (disch := first | assumption | omega) only [f_X11_lay, kb_X11_lay_16, kb_X11_lay_153, kb_X11_lay_88, kb_X11_lay_68, kb_X11_lay_45, kb_X11_lay_0, KL, KB, KC, KI, KJ, KZ, bI_0, bI_n, nI00, nI10, ne_eq, Classical.not_not, not_true_eq_false, not_false_eq_true, if_true, if_false, ite_not, ite_self, Bool.false_eq_true, nIne1, O_mo, m_isCrossing, m_isIn, hyc, hyk, e4, e5, z00', s40a, hne, s40b, e6, e67, s40c, e7, e8]
      · cases hA : F.2.2.2 with
        | none =>
          rw [hA] at t5
          have t3' : g2 164 16 = nI 0 := t5
          obtain ⟨g4, g5, b, e4, e5, s, hRT⟩ := hnone
          have s40 := s.2.2.2.2
          rw [hA] at s40
          have s40' : g5 188 43 = -1 := s40
          refine ⟨nI 0, g2, 17 + 10 * c, OO n, g5, ?_, ?_, hRT⟩
          · simp (disch := first | assumption | omega) only [f_X10_lay, kb_X10_lay_18, kb_X10_lay_80, kb_X10_lay_57, kb_X10_lay_0, KL, KB, KC, KI, KJ, KZ, bI_0, bI_n, nI00, nI10, ne_eq, Classical.not_not, not_true_eq_false, not_false_eq_true, if_true, if_false, ite_not, ite_self, Bool.false_eq_true, nIne1, O_fp, O_co, XO, c_at g m o c hc6, c_within, hyk, e1, e2, z00', z10', t3']
          · simp (disch := first | assumption | omega) only [f_X11_lay, kb_X11_lay_16, kb_X11_lay_153, kb_X11_lay_88, kb_X11_lay_68, kb_X11_lay_45, kb_X11_lay_0, KL, KB, KC, KI, KJ, KZ, bI_0, bI_n, nI00, nI10, ne_eq, Classical.not_not, not_true_eq_false, not_false_eq_true, if_true, if_false, ite_not, ite_self, Bool.false_eq_true, nIne1, O_mo, m_isCrossing, m_isIn, hyc, hyk, e4, e5, z10', s40', zm]
        | some q =>
          rw [hA] at t5
          have t3' : g2 164 16 = nI (slD (dgN n co q.1)) := t5
          obtain ⟨t4a, t4b, t4c⟩ := t6 q hA
          obtain ⟨u1, u2⟩ := hQ2 q hA
          obtain ⟨g3, g4, g5, b, e3, e4, e5, s, g6, g7, g8, e6, e67, e7, e8, hRT⟩ := hput (.int (nI 1)) q.1 q.2 (by omega) u2
          have s40 := s.2.2.2.2
          rw [hA] at s40
          have s40' : g5 188 43 = nI (cD n (dgN n co q.1)) ∧ g5 188 44 = nI q.1 ∧ g5 188 45 = nI q.2 := s40
          obtain ⟨s40a, s40b, s40c⟩ := s40'
          have hl12 : slD (dgN n co q.1) < 4096 := setN_lt12 _
          have hz : (nI (slD (dgN n co q.1)) ≠ 0) = True := eq_true (by rw [Ne, nIk0 (by omega)]; exact t4c)
          have b1 : cD n (dgN n co q.1) ≤ n := cntN_le _ _
          have hne := nIneT (a := cD n (dgN n co q.1)) (by omega)
          refine ⟨nI 1, g3, 17 + 10 * c, OO n, g8, ?_, ?_, hRT⟩
          · simp (disch := first | assumption | omega) only [f_X10_lay, kb_X10_lay_18, kb_X10_lay_80, kb_X10_lay_57, kb_X10_lay_0, KL, KB, KC, KI, KJ, KZ, bI_0, bI_n, nI00, nI10, ne_eq, Classical.not_not, not_true_eq_false, not_false_eq_true, if_true, if_false, ite_not, ite_self, Bool.false_eq_true, nIne1, O_fp, O_co, XO, c_at g m o c hc6, c_within, hyk, e1, e2, z10', t3', t4a, hz, e3]
          · simp (disch := first | assumption | omega) only [f_X11_lay, kb_X11_lay_16, kb_X11_lay_153, kb_X11_lay_88, kb_X11_lay_68, kb_X11_lay_45, kb_X11_lay_0, KL, KB, KC, KI, KJ, KZ, bI_0, bI_n, nI00, nI10, ne_eq, Classical.not_not, not_true_eq_false, not_false_eq_true, if_true, if_false, ite_not, ite_self, Bool.false_eq_true, nIne1, O_mo, m_isCrossing, m_isIn, hyc, hyk, e4, e5, z10', s40a, hne, s40b, e6, e67, s40c, e7, e8]
    · refine ⟨nI 0, g, m, o, g, ?_, ?_, RT_mono _ _ _ _ hR⟩
      · simp (disch := first | assumption | omega) only [f_X10_lay, kb_X10_lay_18, kb_X10_lay_80, kb_X10_lay_57, kb_X10_lay_0, KL, KB, KC, KI, KJ, KZ, bI_0, bI_n, nI00, nI10, ne_eq, Classical.not_not, not_true_eq_false, not_false_eq_true, if_true, if_false, ite_not, ite_self, Bool.false_eq_true, nIne1, O_fp, XO, c_at g m o c hc6, c_within, h1, ne_eq]
      · simp (disch := first | assumption | omega) only [f_X11_lay, kb_X11_lay_16, kb_X11_lay_153, kb_X11_lay_88, kb_X11_lay_68, kb_X11_lay_45, kb_X11_lay_0, KL, KB, KC, KI, KJ, KZ, bI_0, bI_n, nI00, nI10, ne_eq, Classical.not_not, not_true_eq_false, not_false_eq_true, if_true, if_false, ite_not, ite_self, Bool.false_eq_true, nIne1, O_mo, m_isCrossing, m_isIn, hyc, h1, ne_eq]
  · refine ⟨nI 0, g, m, o, g, ?_, ?_, RT_mono _ _ _ _ hR⟩
    · simp (disch := first | assumption | omega) only [f_X10_lay, kb_X10_lay_18, kb_X10_lay_80, kb_X10_lay_57, kb_X10_lay_0, KL, KB, KC, KI, KJ, KZ, bI_0, bI_n, nI00, nI10, ne_eq, Classical.not_not, not_true_eq_false, not_false_eq_true, if_true, if_false, ite_not, ite_self, Bool.false_eq_true, nIne1, O_fp, c_atN g m o a0 h0]
    · simp (disch := first | assumption | omega) only [f_X11_lay, kb_X11_lay_16, kb_X11_lay_153, kb_X11_lay_88, kb_X11_lay_68, kb_X11_lay_45, kb_X11_lay_0, KL, KB, KC, KI, KJ, KZ, bI_0, bI_n, nI00, nI10, ne_eq, Classical.not_not, not_true_eq_false, not_false_eq_true, if_true, if_false, ite_not, ite_self, Bool.false_eq_true, nIne1, O_mo, m_isCrossing, h0]
