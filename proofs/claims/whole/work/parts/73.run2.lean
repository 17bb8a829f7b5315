-- ===== run =====
theorem chs {α : Type} [Inhabited α] {k : Nat} {P : Nat → α → Prop} (h : ∀ r, r < k → ∃ a, P r a) : ∃ f : Nat → α, ∀ r, r < k → P r (f r) :=
  ⟨fun r => if hr : r < k then (h r hr).choose else default, fun r hr => by simp only [dif_pos hr]; exact (h r hr).choose_spec⟩
/-- a crossing's picture, on both sides -/
theorem RT.abs {j : Nat} {g : GG} {m o c n : Nat} (hR : RT j g m o) (hc : c < 6) (hx : XRn g (17 + 10 * c) 189 (10 + 560 * c) n j) : ∃ (co : Nat → List Goods) (fa : FA) (U : Nat → ARule) (K : Nat → Nat) (A : AX), CK (17 + 10 * c) n co fa U K g ∧ MK (10 + 560 * c) n co fa U K g ∧ CXd (17 + 10 * c) A g ∧ MXd (10 + 560 * c) A g ∧ BXd n (60 * j) A := by
  obtain ⟨n3, n6, en, em, fFa, fCa, fCo, fRo, fCt, fTo, fLi⟩ := id hx
  obtain ⟨hw1, hw2, hw3, hw4⟩ := hR.1
  obtain ⟨fa, hfa⟩ := chs (α := Nat → Nat) (k := 5) (P := fun w f => ∀ r, r < 6 → f r ≤ mostN w ∧ g (17 + 10 * c + 1) (6 * w + r) = nI (f r) ∧ g 189 (10 + 560 * c + 92 * r + w) = nI (f r)) (fun w hw => chs (fun r hr => fFa w hw r hr))
  obtain ⟨ca, hca⟩ := chs (α := Option ACart) fCa
  obtain ⟨co, hco⟩ := chs (α := List Goods) fCo
  obtain ⟨ro, hro⟩ := chs (α := List Goods) fRo
  obtain ⟨ct, hct⟩ := chs (α := Nat → Nat) (k := 3) (P := fun t f => ∀ r, r < 6 → f r ≤ 60 * j ∧ (n ≤ r → f r = 0) ∧ g (17 + 10 * c + 7) (6 * t + r) = nI (f r) ∧ g 189 (10 + 560 * c + 92 * r + 86 + t) = nI (f r)) (fun t ht => chs (fun r hr => fCt t ht r hr))
  obtain ⟨to, hto⟩ := chs (α := Nat) fTo
  obtain ⟨K, hK⟩ := chs (α := Nat) hw2
  obtain ⟨U, hU⟩ := chs (α := ARule) hw3
  have hgo : ∀ (l : List Goods) (a i0 j0 r : Nat), goodsR g a i0 189 j0 n r l → ∀ z ∈ l, okGo n r z := fun l a i0 j0 r h z hz => by
    obtain ⟨i, hi, e⟩ := List.getElem_of_mem hz
    exact (h i z (by rw [List.getElem?_eq_getElem hi, e])).1
  refine ⟨co, fa, U, K, (ca, ro, ct, to), ⟨en, fun w hw r hr => ⟨(hfa w hw r hr).1, (hfa w hw r hr).2.1⟩, fun r hr => ?_, fun k hk => ?_, fun v hv => ?_⟩, ⟨em, fun w hw r hr => ⟨(hfa w hw r hr).1, (hfa w hw r hr).2.2⟩, fun r hr => ?_, fun k hk => ⟨(hU k hk).1, (hU k hk).2.2⟩, fun v hv => ⟨(hK v hv).1, (hK v hv).2.2⟩⟩, ⟨fun r hr => ?_, fun r hr => ?_, fun t ht r hr => (hct t ht r hr).2.2.1, fun t ht => (hto t ht).2.1⟩, ⟨fun r hr => ?_, fun r hr => ?_, fun t ht r hr => (hct t ht r hr).2.2.2, fun t ht => (hto t ht).2.2⟩, ⟨fun r hr a ha => ?_, fun r hr => ?_, fun t ht r hr => ⟨(hct t ht r hr).1, (hct t ht r hr).2.1⟩, fun t ht => (hto t ht).1⟩⟩
  · obtain ⟨b1, b2, b3, b4, b5⟩ := hco r hr
    exact ⟨b1, b2, hgo _ _ _ _ _ b5, b3, fun i z hz => (b5 i z hz).2.1⟩
  · have := hU k hk
    rw [Nat.zero_add] at this
    exact ⟨this.1, this.2.1⟩
  · have := hK v hv
    rw [Nat.zero_add] at this
    exact ⟨this.1, this.2.1⟩
  · obtain ⟨b1, b2, b3, b4, b5⟩ := hco r hr
    exact ⟨b1, b2, hgo _ _ _ _ _ b5, b4, fun i z hz => (b5 i z hz).2.2⟩
  · have h := hca r hr
    simp only [] at h ⊢
    cases e : ca r with
    | none => rw [e] at h; exact h.1
    | some a =>
      rw [e] at h
      obtain ⟨-, -, -, -, -, a5, a6, a7, a8, a9, a10, -⟩ := h
      exact ⟨a5, a6, a7, a8, a9, a10⟩
  · obtain ⟨b1, b2, b3, b4, b5⟩ := hro r hr
    exact ⟨b3, fun i z hz => (b5 i z hz).2.1⟩
  · have h := hca r hr
    simp only [] at h ⊢
    cases e : ca r with
    | none => rw [e] at h; exact h.2
    | some a =>
      rw [e] at h
      obtain ⟨-, -, -, -, -, -, -, -, -, -, -, b1, b2, b3, b4, b5, b6, b7⟩ := h
      exact ⟨b1, b2, b3, b4, b5, b6, b7⟩
  · obtain ⟨b1, b2, b3, b4, b5⟩ := hro r hr
    exact ⟨b4, fun i z hz => (b5 i z hz).2.2⟩
  · have h := hca r hr
    simp only [] at ha
    rw [ha] at h
    obtain ⟨a0, a1, a2, a3, a4, -⟩ := h
    exact ⟨a0, a1, a2, a3, a4⟩
  · obtain ⟨b1, b2, b3, b4, b5⟩ := hro r hr
    exact ⟨b1, b2, hgo _ _ _ _ _ b5⟩
theorem XRn.of_abs {q c n : Nat} {g : GG} {co : Nat → List Goods} {fa : FA} {U : Nat → ARule} {K : Nat → Nat} {A : AX} (n3 : 3 ≤ n) (n6 : n ≤ 6) (hCK : CK (17 + 10 * c) n co fa U K g) (hMK : MK (10 + 560 * c) n co fa U K g) (hC : CXd (17 + 10 * c) A g) (hM : MXd (10 + 560 * c) A g) (hB : BXd n (60 * q) A) (hL : XLi g (17 + 10 * c) 189 (10 + 560 * c) n) : XRn g (17 + 10 * c) 189 (10 + 560 * c) n q := by
  obtain ⟨c1, c2, c3, c4, c5⟩ := hCK
  obtain ⟨m1, m2, m3, m4, m5⟩ := hMK
  obtain ⟨d1, d2, d3, d4⟩ := hC
  obtain ⟨e1, e2, e3, e4⟩ := hM
  obtain ⟨b1, b2, b3, b4⟩ := hB
  refine ⟨n3, n6, c1, m1, fun w hw r hr => ⟨fa w r, (c2 w hw r hr).1, (c2 w hw r hr).2, (m2 w hw r hr).2⟩, fun r hr => ⟨A.1 r, ?_⟩, fun r hr => ⟨co r, (c3 r hr).1, (c3 r hr).2.1, (c3 r hr).2.2.2.1, (m3 r hr).2.2.2.1, fun i z hz => ⟨(c3 r hr).2.2.1 z (List.mem_of_getElem? hz), (c3 r hr).2.2.2.2 i z hz, (m3 r hr).2.2.2.2 i z hz⟩⟩, fun r hr => ⟨A.2.1 r, (b2 r hr).1, (b2 r hr).2.1, (d2 r hr).1, (e2 r hr).1, fun i z hz => ⟨(b2 r hr).2.2 z (List.mem_of_getElem? hz), (d2 r hr).2 i z hz, (e2 r hr).2 i z hz⟩⟩, fun t ht r hr => ⟨A.2.2.1 t r, (b3 t ht r hr).1, (b3 t ht r hr).2, d3 t ht r hr, e3 t ht r hr⟩, fun t ht => ⟨A.2.2.2 t, b4 t ht, d4 t ht, e4 t ht⟩, hL⟩
  have h1 := d1 r hr
  have h2 := e1 r hr
  cases e : A.1 r with
  | none => rw [e] at h1 h2; exact ⟨h1, h2⟩
  | some a =>
    rw [e] at h1 h2
    obtain ⟨a0, a1, a2, a3, a4⟩ := b1 r hr a e
    obtain ⟨x0, x1, x2, x3, x4, x5⟩ := h1
    obtain ⟨y0, y1, y2, y3, y4, y5, y6⟩ := h2
    exact ⟨a0, a1, a2, a3, a4, x0, x1, x2, x3, x4, x5, y0, y1, y2, y3, y4, y5, y6⟩
theorem BXd.tick {n b : Nat} {co : Nat → List Goods} {fa : FA} {U : Nat → ARule} {K : Nat → Nat} {S : Int32 × AX} (hco : ∀ r, r < n → ∀ z ∈ co r, okGo n r z) (hB : BXd n b S.2) : BXd n (b + 1) (tickA n co fa U K S).2 := by
  obtain ⟨st, ca, ro, ct, to⟩ := S
  obtain ⟨B1, B2, B3, B4⟩ := hB
  simp only [] at B1 B2 B3 B4
  have hro1 := comeN_ok (n := n) (ch := fa 4) hco n (st, ro) (by omega) (fun r hr => B2 r hr)
  have hM1 := movN_ok (n := n) (tk := to 0) (by omega) (b := b) n (ca, (comeN co (fa 4) n (st, ro)).2) (by omega) ⟨B1, hro1⟩
  unfold tickA
  simp only []
  clear hro1
  generalize movN (to 0) n (ca, (comeN co (fa 4) n (st, ro)).2) = M at *
  obtain ⟨M1, M2⟩ := hM1
  generalize stG n fa U K M.1 = G at *
  generalize stS n M.1 = s at *
  have hst : ∀ r, r < 6 → stayO (M.1 r) ≤ b := fun r hr => by
    cases e : M.1 r with
    | none => show 0 ≤ b; omega
    | some a => exact (M1 r hr a e).2.2.2.2
  refine ⟨fun r hr c hc => ?_, M2, fun t ht r hr => ?_, fun t ht => ?_⟩
  · simp only [] at hc
    unfold caG at hc
    by_cases hg : G.testBit r = true
    · rw [if_pos hg] at hc; cases hc
    · rw [if_neg hg] at hc
      cases e : M.1 r with
      | none => rw [e] at hc; cases hc
      | some a =>
        rw [e] at hc
        cases hc
        obtain ⟨a0, a1, a2, a3, a4⟩ := M1 r hr a e
        exact ⟨a0, a1, a2, a3, by show a.2.2.2 + 1 ≤ b + 1; omega⟩
  · simp only []
    have h1 := B3 t ht r hr
    have h2 := hst r hr
    unfold ctG
    constructor
    · split
      · split <;> omega
      · split
        · split
          · omega
          · split
            · exact Nat.max_le.mpr ⟨by omega, by omega⟩
            · omega
        · omega
    · intro hn
      rw [if_neg (fun e => by omega), if_neg (fun e => by omega)]
      exact h1.2 hn
  · simp only []
    have h0 := B4 0 (by omega)
    have h1 := B4 1 (by omega)
    have h2 := B4 2 (by omega)
    unfold toG
    split
    · omega
    · split
      · split <;> omega
      · split <;> omega
def tkN (n : Nat) (co : Nat → List Goods) (fa : FA) (U : Nat → ARule) (K : Nat → Nat) (S : Int32 × AX) : Nat → Int32 × AX
  | 0 => S
  | i + 1 => tickA n co fa U K (tkN n co fa U K S i)
def tkS (n : Nat) (co : Nat → List Goods) (fa : FA) (U : Nat → ARule) (K : Nat → Nat) (S : Int32 × AX) : Nat → Nat
  | 0 => 0
  | i + 1 => tkS n co fa U K S i + tickP n co fa U K (tkN n co fa U K S i)
theorem tkN_B {n b : Nat} {co : Nat → List Goods} {fa : FA} {U : Nat → ARule} {K : Nat → Nat} {S : Int32 × AX} (hco : ∀ r, r < n → ∀ z ∈ co r, okGo n r z) (hB : BXd n b S.2) : ∀ i, BXd n (b + i) (tkN n co fa U K S i).2 := by
  intro i
  induction i with
  | zero => exact hB
  | succ i ih => exact BXd.tick hco ih
theorem c_run29 {X n b k : Nat} {co : Nat → List Goods} {fa : FA} {U : Nat → ARule} {K : Nat → Nat} {A : AX} {g : GG} {m o : Nat} (hX : isX X) (hX1 : X + 9 < 77) (hX2 : 16 < X) (n3 : 3 ≤ n) (n6 : n ≤ 6) (hb : b < 80000) (hk : k ≤ 60) (hK : CK X n co fa U K g) (hA : CXd X A g) (hB : BXd n b A) (v : Value) : ∃ g', kl_X10_run_29 [.ref 0, v, .int (nI k), .ref X, .int (nI 0), .int (nI 0)] [] (hp g m o) = some (some (.int (nI (tkS n co fa U K (g 1 0, A) k))), hp g' m o) ∧ CXd X (tkN n co fa U K (g 1 0, A) k).2 g' ∧ g' 1 0 = (tkN n co fa U K (g 1 0, A) k).1 ∧ ∀ a, a ≠ 1 → a ≠ 78 → a ≠ 79 → a ≠ X + 2 → (a < X + 5 ∨ X + 8 < a) → g' a = g a := by
  have hBi := tkN_B (S := (g 1 0, A)) (fa := fa) (U := U) (K := K) (fun r hr => (hK.2.2.1 r (by omega)).2.2.1) hB
  unfold kl_X10_run_29
  refine kFor k (by unfold FU; omega) (fun i ls h => ∃ (g' : GG) (v : Value), ls = [.ref 0, v, .int (nI k), .ref X, .int (nI (tkS n co fa U K (g 1 0, A) i)), .int (nI i)] ∧ h = hp g' m o ∧ CXd X (tkN n co fa U K (g 1 0, A) i).2 g' ∧ g' 1 0 = (tkN n co fa U K (g 1 0, A) i).1 ∧ ∀ a, a ≠ 1 → a ≠ 78 → a ≠ 79 → a ≠ X + 2 → (a < X + 5 ∨ X + 8 < a) → g' a = g a) (fun r => ∃ g', r = some (some (.int (nI (tkS n co fa U K (g 1 0, A) k))), hp g' m o) ∧ CXd X (tkN n co fa U K (g 1 0, A) k).2 g' ∧ g' 1 0 = (tkN n co fa U K (g 1 0, A) k).1 ∧ ∀ a, a ≠ 1 → a ≠ 78 → a ≠ 79 → a ≠ X + 2 → (a < X + 5 ∨ X + 8 < a) → g' a = g a) ?_ ?_ 0 _ _ (by omega) ⟨g, v, rfl, rfl, hA, rfl, fun _ _ _ _ _ _ => rfl⟩
  · rintro s0 ls h ⟨g', v, rfl, rfl, h1, h2, h3⟩
    have hin : (k ≤ k) = True := eq_true (by omega)
    simp (disch := first | assumption | omega) only [KL, KB, KC, KI, KJ, KZ, bI_0, bI_n, nI00, nI10, ne_eq, Classical.not_not, not_true_eq_false, not_false_eq_true, if_true, if_false, ite_not, ite_self, Bool.false_eq_true, nIne1, kMask, mask, nIle, hin]
    exact ⟨g', rfl, h1, h2, h3⟩
  · rintro s0 i hi ih ls h ⟨g', v, rfl, rfl, h1, h2, h3⟩
    have hin : (k ≤ i) = False := eq_false (by omega)
    have hN : tkN n co fa U K (g 1 0, A) (i + 1) = tickA n co fa U K (tkN n co fa U K (g 1 0, A) i) := rfl
    have hS : tkS n co fa U K (g 1 0, A) (i + 1) = tkS n co fa U K (g 1 0, A) i + tickP n co fa U K (tkN n co fa U K (g 1 0, A) i) := rfl
    have hb' := hBi i
    obtain ⟨g2, e2, p1, p2, p3⟩ := c_tick (b := b + i) (m := m) (o := o) hX hX1 hX2 n3 n6 (by omega) (hK.congr hX1 hX2 (fun a a1 a2 a3 a4 => h3 a a2 (by omega) (by omega) a3 a4)) h1 hb'
    rw [h2] at e2 p1 p2
    have heta : ((tkN n co fa U K (g 1 0, A) i).1, (tkN n co fa U K (g 1 0, A) i).2) = tkN n co fa U K (g 1 0, A) i := rfl
    rw [heta] at e2 p1 p2
    rw [← hN] at p1 p2
    simp (disch := first | assumption | omega) only [KL, KB, KC, KI, KJ, KZ, bI_0, bI_n, nI00, nI10, ne_eq, Classical.not_not, not_true_eq_false, not_false_eq_true, if_true, if_false, ite_not, ite_self, Bool.false_eq_true, nIne1, kMask, mask, nIle, hin, O_fp, O_dy, e2, nI_add]
    exact ih _ _ ⟨g2, _, by rw [hS], rfl, p1, p2, fun a a1 a2 a3 a4 a5 => by rw [p3 a a1 a2 a3 a4 a5]; exact h3 a a1 a2 a3 a4 a5⟩
theorem m_run24 {c n b k : Nat} {co : Nat → List Goods} {fa : FA} {U : Nat → ARule} {K : Nat → Nat} {A : AX} {g : GG} {m o : Nat} (hc : c < 6) (n3 : 3 ≤ n) (n6 : n ≤ 6) (hb : b < 80000) (hk : k ≤ 60) (hK : MK (10 + 560 * c) n co fa U K g) (hA : MXd (10 + 560 * c) A g) (hB : BXd n b A) (h33 : g 188 33 = -1) (h34 : g 188 34 = -1) (h35 : g 188 35 = nI 0) : ∃ g', kl_X11_run_24 [.ref 188, .int (nI c), .int (nI k), .int (nI 0), .int (nI 0)] [] (hp g m o) = some (some (.int (nI (tkS n co fa U K (g 189 0, A) k))), hp g' m o) ∧ MXd (10 + 560 * c) (tkN n co fa U K (g 189 0, A) k).2 g' ∧ g' 189 0 = (tkN n co fa U K (g 189 0, A) k).1 ∧ (∀ a, a ≠ 188 → a ≠ 189 → (a < 194 ∨ 207 < a) → g' a = g a) ∧ (∀ i, i ≠ 20 → g' 188 i = g 188 i) ∧ FR8 (10 + 560 * c) g g' := by
  have hBi := tkN_B (S := (g 189 0, A)) (fa := fa) (U := U) (K := K) (fun r hr => (hK.2.2.1 r (by omega)).2.2.1) hB
  unfold kl_X11_run_24
  refine kFor k (by unfold FU; omega) (fun i ls h => ∃ (g' : GG), ls = [.ref 188, .int (nI c), .int (nI k), .int (nI (tkS n co fa U K (g 189 0, A) i)), .int (nI i)] ∧ h = hp g' m o ∧ MXd (10 + 560 * c) (tkN n co fa U K (g 189 0, A) i).2 g' ∧ g' 189 0 = (tkN n co fa U K (g 189 0, A) i).1 ∧ (∀ a, a ≠ 188 → a ≠ 189 → (a < 194 ∨ 207 < a) → g' a = g a) ∧ (∀ i, i ≠ 20 → g' 188 i = g 188 i) ∧ FR8 (10 + 560 * c) g g') (fun r => ∃ g', r = some (some (.int (nI (tkS n co fa U K (g 189 0, A) k))), hp g' m o) ∧ MXd (10 + 560 * c) (tkN n co fa U K (g 189 0, A) k).2 g' ∧ g' 189 0 = (tkN n co fa U K (g 189 0, A) k).1 ∧ (∀ a, a ≠ 188 → a ≠ 189 → (a < 194 ∨ 207 < a) → g' a = g a) ∧ (∀ i, i ≠ 20 → g' 188 i = g 188 i) ∧ FR8 (10 + 560 * c) g g') ?_ ?_ 0 _ _ (by omega) ⟨g, rfl, rfl, hA, rfl, fun _ _ _ _ => rfl, fun _ _ => rfl, FR8.rfl'⟩
  · rintro s0 ls h ⟨g', rfl, rfl, h1, h2, h3, h4, h5⟩
    have hin : (k ≤ k) = True := eq_true (by omega)
    simp (disch := first | assumption | omega) only [KL, KB, KC, KI, KJ, KZ, bI_0, bI_n, nI00, nI10, ne_eq, Classical.not_not, not_true_eq_false, not_false_eq_true, if_true, if_false, ite_not, ite_self, Bool.false_eq_true, nIne1, kMask, mask, nIle, hin]
    exact ⟨g', rfl, h1, h2, h3, h4, h5⟩
  · rintro s0 i hi ih ls h ⟨g', rfl, rfl, h1, h2, h3, h4, h5⟩
    have hin : (k ≤ i) = False := eq_false (by omega)
    have hN : tkN n co fa U K (g 189 0, A) (i + 1) = tickA n co fa U K (tkN n co fa U K (g 189 0, A) i) := rfl
    have hS : tkS n co fa U K (g 189 0, A) (i + 1) = tkS n co fa U K (g 189 0, A) i + tickP n co fa U K (tkN n co fa U K (g 189 0, A) i) := rfl
    have hb' := hBi i
    obtain ⟨g2, e2, p1, p2, p3, p4, p5⟩ := m_tick (b := b + i) (m := m) (o := o) hc n3 n6 (by omega) (hK.congr (by omega) (by omega) h5) h1 hb' (by rw [h4 33 (by omega)]; exact h33) (by rw [h4 34 (by omega)]; exact h34) (by rw [h4 35 (by omega)]; exact h35)
    rw [h2] at e2 p1 p2
    have heta : ((tkN n co fa U K (g 189 0, A) i).1, (tkN n co fa U K (g 189 0, A) i).2) = tkN n co fa U K (g 189 0, A) i := rfl
    rw [heta] at e2 p1 p2
    rw [← hN] at p1 p2
    simp (disch := first | assumption | omega) only [KL, KB, KC, KI, KJ, KZ, bI_0, bI_n, nI00, nI10, ne_eq, Classical.not_not, not_true_eq_false, not_false_eq_true, if_true, if_false, ite_not, ite_self, Bool.false_eq_true, nIne1, kMask, mask, nIle, hin, O_mo, e2, nI_add]
    exact ih _ _ ⟨g2, by rw [hS], rfl, p1, p2, fun a a1 a2 a3 => by rw [p3 a a1 a2 a3]; exact h3 a a1 a2 a3, fun i hi => by rw [p4 i hi]; exact h4 i hi, h5.tr p5⟩
theorem ag_run (a0 a1 : Int32) : Ag RT f_X10_run f_X11_run [.int a0, .int a1] := by
  intro j g m o hj hR
  rcases in_cases a0 5 (by decide) with ⟨c, hc, rfl⟩ | h0
  · have hc6 : c < 6 := by omega
    have hX := isX_live c hc6
    have hyc : (nI 0 ≤ nI c ∧ nI c ≤ nI 5) = True := eq_true (in_yes hc (by omega))
    obtain ⟨n, hx⟩ := hR.at hc6
    obtain ⟨n3, n6, en, em, fFa, fCa, fCo, fRo, fCt, fTo, fLi⟩ := id hx
    rcases in_cases a1 60 (by decide) with ⟨k, hk, rfl⟩ | h1
    · by_cases hk0 : k = 0
      · subst hk0
        have hlt : (nI 0 < nI 1) = True := eq_true (by decide)
        have hno : (nI 1 ≤ nI 0 ∧ nI 0 ≤ nI 60) = False := eq_false (by decide)
        refine ⟨-1, g, m, o, g, ?_, ?_, RT_mono _ _ _ _ hR⟩
        · simp (disch := first | assumption | omega) only [f_X10_run, kb_X10_run_21, kb_X10_run_0, KL, KB, KC, KI, KJ, KZ, bI_0, bI_n, nI00, nI10, ne_eq, Classical.not_not, not_true_eq_false, not_false_eq_true, if_true, if_false, ite_not, ite_self, Bool.false_eq_true, nIne1, O_fp, XO, c_at g m o c hc6, hlt]
        · simp (disch := first | assumption | omega) only [f_X11_run, kb_X11_run_17, kb_X11_run_0, KL, KB, KC, KI, KJ, KZ, bI_0, bI_n, nI00, nI10, ne_eq, Classical.not_not, not_true_eq_false, not_false_eq_true, if_true, if_false, ite_not, ite_self, Bool.false_eq_true, nIne1, O_mo, m_isCrossing, m_isIn, hyc, hno]
      · have hlt : (k < 1) = False := eq_false (by omega)
        have hle : (k ≤ 60) = True := eq_true hk
        have hyes : (nI 1 ≤ nI k ∧ nI k ≤ nI 60) = True := by rw [nIle (by omega) (by omega), nIle (by omega) (by omega)]; exact eq_true (by omega)
        obtain ⟨co, fa, U, K, A, hCK, hMK, hCX, hMX, hBX⟩ := hR.abs hc6 hx
        have hdr : g 1 0 = g 189 0 := by have := hR.1.1; rwa [Nat.zero_add] at this
        obtain ⟨g1, e1, p1, p2, p3⟩ := c_run29 (m := m) (o := o) (k := k) hX (by omega) (by omega) n3 n6 (by omega) hk hCK hCX hBX (.int (nI c))
        have z198 : g1 189 = g 189 := p3 189 (by omega) (by omega) (by omega) (by omega) (by omega)
        have z197 : g1 188 = g 188 := p3 188 (by omega) (by omega) (by omega) (by omega) (by omega)
        obtain ⟨g2, e2, q1, q2, q3, q4, q5⟩ := m_run24 (g := g1) (m := m) (o := o) (k := k) hc6 n3 n6 (by omega) hk (hMK.congr (by omega) (by omega) (FR8.of z198)) (by
          obtain ⟨w1, w2, w3, w4⟩ := hMX
          exact ⟨fun r hr => (w1 r hr).congr (fun t _ _ => by rw [z198]), fun r hr => by rw [z198]; exact w2 r hr, fun t ht r hr => by rw [z198]; exact w3 t ht r hr, fun t ht => by rw [z198]; exact w4 t ht⟩) hBX (by rw [z197]; exact hR.2.2.2.2.2.2.1) (by rw [z197]; exact hR.2.2.2.2.2.2.2.1) (by rw [z197]; exact hR.2.2.2.2.2.2.2.2)
        rw [z198, ← hdr] at e2 q1 q2
        have hBk := tkN_B (S := (g 1 0, A)) (fa := fa) (U := U) (K := K) (fun r hr => (hCK.2.2.1 r (by omega)).2.2.1) hBX k
        generalize tkN n co fa U K (g 1 0, A) k = S at *
        generalize tkS n co fa U K (g 1 0, A) k = V at *
        have z2 : ∀ a, a < 77 → g2 a = g1 a := fun a ha => q3 a (by omega) (by omega) (by omega)
        have z1 : ∀ a, a < 77 → a ≠ 1 → a ≠ 17 + 10 * c + 2 → (a < 17 + 10 * c + 5 ∨ 17 + 10 * c + 8 < a) → g2 a = g a := fun a ha a1 a2 a3 => by rw [z2 a ha, p3 a a1 (by omega) (by omega) a2 a3]
        have hF8 : FR8 (10 + 560 * c) g g2 := (FR8.of z198).tr q5
        have hCX2 : CXd (17 + 10 * c) S.2 g2 := by
          obtain ⟨w1, w2, w3, w4⟩ := p1
          exact ⟨fun r hr => (w1 r hr).congr (fun t _ => by rw [z2 _ (by omega)]), fun r hr => by rw [z2 _ (by omega), z2 (17 + 10 * c + 5) (by omega)]; exact w2 r hr, fun t ht r hr => by rw [z2 _ (by omega)]; exact w3 t ht r hr, fun t ht => by rw [z2 _ (by omega)]; exact w4 t ht⟩
        have hBX2 : BXd n (60 * (j + 1)) S.2 := by
          obtain ⟨w1, w2, w3, w4⟩ := hBk
          exact ⟨fun r hr a ha => by obtain ⟨x0, x1, x2, x3, x4⟩ := w1 r hr a ha; exact ⟨x0, x1, x2, x3, by omega⟩, w2, fun t ht r hr => ⟨by have := (w3 t ht r hr).1; omega, (w3 t ht r hr).2⟩, fun t ht => by have := w4 t ht; omega⟩
        have hLi : XLi g2 (17 + 10 * c) 189 (10 + 560 * c) n := fLi.congr (fun i hi => by rw [z1 _ (by omega) (by omega) (by omega) (by omega)]) (fun r2 hr2 t _ _ => hF8.2.1 r2 t hr2 (by omega) (by omega))
        have hXR := XRn.of_abs n3 n6 (hCK.congr (by omega) (by omega) (fun a a1 a2 a3 a4 => z1 a a1 a2 a3 a4)) (hMK.congr (by omega) (by omega) hF8) hCX2 q1 hBX2 hLi
        refine ⟨nI V, g1, m, o, g2, ?_, ?_, RT_other hR ?_ (fun a x y => ?_) ?_ (fun a x y => ?_) ?_ ?_ (fun i hi => ?_)⟩
        · simp (disch := first | assumption | omega) only [f_X10_run, kb_X10_run_21, kb_X10_run_0, KL, KB, KC, KI, KJ, KZ, bI_0, bI_n, nI00, nI10, ne_eq, Classical.not_not, not_true_eq_false, not_false_eq_true, if_true, if_false, ite_not, ite_self, Bool.false_eq_true, nIne1, O_fp, XO, c_at g m o c hc6, nIlt, hlt, nIle, hle, e1]
        · simp (disch := first | assumption | omega) only [f_X11_run, kb_X11_run_17, kb_X11_run_0, KL, KB, KC, KI, KJ, KZ, bI_0, bI_n, nI00, nI10, ne_eq, Classical.not_not, not_true_eq_false, not_false_eq_true, if_true, if_false, ite_not, ite_self, Bool.false_eq_true, nIne1, O_mo, m_isCrossing, m_isIn, hyc, hyes, e2]
        · obtain ⟨hw1, hw2, hw3, hw4⟩ := hR.1
          refine ⟨?_, fun v hv => ?_, fun k hk => ?_, fun d hd => ?_⟩
          · rw [Nat.zero_add, z2 1 (by omega), p2, q2]
          · rw [z1 (0 + 2) (by omega) (by omega) (by omega) (by omega), hF8.1 (1 + v) (by omega) (by omega)]
            exact hw2 v hv
          · obtain ⟨rl, w1, w2, w3⟩ := hw3 k hk
            exact ⟨rl, w1, w2.congr (fun a _ _ => z1 a (by omega) (by omega) (by omega) (by omega)), w3.congr w1 hk (fun i _ _ => hF8.1 i (by omega) (by omega))⟩
          · by_cases hdc : d = c
            · subst hdc
              refine ⟨n, ?_⟩
              rw [Nat.zero_add]
              exact hXR
            · refine (hw4 d hd).congr (by omega) (fun a x y => z1 a (by omega) (by omega) (by omega) (by omega)) (fun i hi => hF8.1 _ (by omega) (by omega))
        · rw [q3 a (by omega) (by omega) (by omega), p3 a (by omega) (by omega) (by omega) (by omega) (by omega)]
        · rw [z1 0 (by omega) (by omega) (by omega) (by omega)]
        · rw [q3 a (by omega) (by omega) (by omega), p3 a (by omega) (by omega) (by omega) (by omega) (by omega)]
        · rw [q3 190 (by omega) (by omega) (by omega), p3 190 (by omega) (by omega) (by omega) (by omega) (by omega)]
        · rw [q3 193 (by omega) (by omega) (by omega), p3 193 (by omega) (by omega) (by omega) (by omega) (by omega)]
        · rw [q4 i (by omega), z197]
    · refine ⟨-1, g, m, o, g, ?_, ?_, RT_mono _ _ _ _ hR⟩
      · by_cases hlt0 : a1 < nI 1
        · have hlt : (a1 < nI 1) = True := eq_true hlt0
          simp (disch := first | assumption | omega) only [f_X10_run, kb_X10_run_21, kb_X10_run_0, KL, KB, KC, KI, KJ, KZ, bI_0, bI_n, nI00, nI10, ne_eq, Classical.not_not, not_true_eq_false, not_false_eq_true, if_true, if_false, ite_not, ite_self, Bool.false_eq_true, nIne1, O_fp, XO, c_at g m o c hc6, hlt]
        · have hlt : (a1 < nI 1) = False := eq_false hlt0
          have hle : (a1 ≤ nI 60) = False := eq_false (fun q => h1 ⟨Int32.le_trans (show nI 0 ≤ nI 1 by decide) (Int32.not_lt.mp hlt0), q⟩)
          simp (disch := first | assumption | omega) only [f_X10_run, kb_X10_run_21, kb_X10_run_0, KL, KB, KC, KI, KJ, KZ, bI_0, bI_n, nI00, nI10, ne_eq, Classical.not_not, not_true_eq_false, not_false_eq_true, if_true, if_false, ite_not, ite_self, Bool.false_eq_true, nIne1, O_fp, XO, c_at g m o c hc6, hlt, hle]
      · have hno : (nI 1 ≤ a1 ∧ a1 ≤ nI 60) = False := eq_false (fun q => h1 ⟨Int32.le_trans (show nI 0 ≤ nI 1 by decide) q.1, q.2⟩)
        simp (disch := first | assumption | omega) only [f_X11_run, kb_X11_run_17, kb_X11_run_0, KL, KB, KC, KI, KJ, KZ, bI_0, bI_n, nI00, nI10, ne_eq, Classical.not_not, not_true_eq_false, not_false_eq_true, if_true, if_false, ite_not, ite_self, Bool.false_eq_true, nIne1, O_mo, m_isCrossing, m_isIn, hyc, hno]
  · refine ⟨-1, g, m, o, g, ?_, ?_, RT_mono _ _ _ _ hR⟩
    · simp (disch := first | assumption | omega) only [f_X10_run, kb_X10_run_21, kb_X10_run_0, KL, KB, KC, KI, KJ, KZ, bI_0, bI_n, nI00, nI10, ne_eq, Classical.not_not, not_true_eq_false, not_false_eq_true, if_true, if_false, ite_not, ite_self, Bool.false_eq_true, nIne1, O_fp, c_atN g m o a0 h0]
    · simp (disch := first | assumption | omega) only [f_X11_run, kb_X11_run_17, kb_X11_run_0, KL, KB, KC, KI, KJ, KZ, bI_0, bI_n, nI00, nI10, ne_eq, Classical.not_not, not_true_eq_false, not_false_eq_true, if_true, if_false, ite_not, ite_self, Bool.false_eq_true, nIne1, O_mo, m_isCrossing, h0]
