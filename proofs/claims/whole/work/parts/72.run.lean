-- ===== the model's tick as a whole; run =====
theorem m_tick30 {n c b : Nat} {co : Nat → List Goods} {fa : FA} {U : Nat → ARule} {K : Nat → Nat} {ca : Nat → Option ACart} {ro : Nat → List Goods} {ct : FA} {to : Nat → Nat} {g : GG} {m o : Nat} (hc : c < 6) (n3 : 3 ≤ n) (n6 : n ≤ 6) (hb : b < 90000) (hK : MK (10 + 560 * c) n co fa U K g) (hca : ∀ r, r < 6 → cartM g (10 + 560 * c) r (ca r)) (hro : MRo (10 + 560 * c) ro g) (hct : ∀ t, t < 3 → ∀ r, r < 6 → g 189 (10 + 560 * c + 92 * r + 86 + t) = nI (ct t r)) (hto : ∀ t, t < 3 → g 189 (10 + 560 * c + 553 + t) = nI (to t)) (B1 : ∀ r, r < 6 → ∀ c, ca r = some c → r < n ∧ okGo n r c.1 ∧ c.2.1 ≤ 99 ∧ c.2.2.1 ≤ 2 ∧ c.2.2.2 ≤ b) (B2 : ∀ r, r < 6 → (ro r).length ≤ 20 ∧ (n ≤ r → ro r = []) ∧ ∀ z ∈ ro r, okGo n r z) (B3 : ∀ t, t < 3 → ∀ r, r < 6 → ct t r ≤ b) (B4 : ∀ t, t < 3 → to t ≤ b) (h33 : g 188 33 = -1) (h34 : g 188 34 = -1) (h35 : g 188 35 = nI 0) (M : (Nat → Option ACart) × (Nat → List Goods)) (hM : movN (to 0) n (ca, ro) = M) : ∃ g', kl_X11_tick_30 [.ref 188, .int (nI c), .int (nI n), .int (nI 0)] [] (hp g m o) = some (some (.int (nI (popN (stG n fa U K M.1)))), hp g' m o) ∧ MXd (10 + 560 * c) (caG (stG n fa U K M.1) M.1, M.2, ctG n (stG n fa U K M.1) (stS n M.1) M.1 ct, toG (decide (ffJ n (stG n fa U K M.1) (stF M.1) ≠ -1)) (decide (stS n M.1 ≠ 0 ∧ stG n fa U K M.1 = 0)) to) g' ∧ g' 189 0 = g 189 0 ∧ (∀ a, a ≠ 188 → a ≠ 189 → (a < 194 ∨ 207 < a) → g' a = g a) ∧ (∀ i, i ≠ 20 → g' 188 i = g 188 i) ∧ FR8 (10 + 560 * c) g g' := by
  have b0 := B4 0 (by omega)
  have b1 := B4 1 (by omega)
  have b2 := B4 2 (by omega)
  have hok : ∀ k, k ≤ n → (∀ r, r < 6 → ∀ c, (movN (to 0) k (ca, ro)).1 r = some c → r < n ∧ okGo n r c.1 ∧ c.2.1 ≤ 99 ∧ c.2.2.1 ≤ 2 ∧ c.2.2.2 ≤ b) ∧ (∀ r, r < 6 → ((movN (to 0) k (ca, ro)).2 r).length ≤ 20 ∧ (n ≤ r → (movN (to 0) k (ca, ro)).2 r = []) ∧ ∀ z ∈ (movN (to 0) k (ca, ro)).2 r, okGo n r z) := fun k hk => movN_ok (by omega) k (ca, ro) hk ⟨B1, B2⟩
  unfold kl_X11_tick_30
  refine kFor n (by unfold FU; omega) (fun i ls h => ∃ (g' : GG), ls = [.ref 188, .int (nI c), .int (nI n), .int (nI i)] ∧ h = hp g' m o ∧ (∀ a, a ≠ 189 → g' a = g a) ∧ FR8 (10 + 560 * c) g g' ∧ MVm (10 + 560 * c) n (movN (to 0) i (ca, ro)) g' ∧ g' 189 0 = g 189 0 ∧ (∀ i, (∀ q, q < 6 → i < 10 + 560 * c + 92 * q + 18 ∨ 10 + 560 * c + 92 * q + 86 ≤ i) → g' 189 i = g 189 i)) (fun r => ∃ g', r = some (some (.int (nI (popN (stG n fa U K M.1)))), hp g' m o) ∧ MXd (10 + 560 * c) (caG (stG n fa U K M.1) M.1, M.2, ctG n (stG n fa U K M.1) (stS n M.1) M.1 ct, toG (decide (ffJ n (stG n fa U K M.1) (stF M.1) ≠ -1)) (decide (stS n M.1 ≠ 0 ∧ stG n fa U K M.1 = 0)) to) g' ∧ g' 189 0 = g 189 0 ∧ (∀ a, a ≠ 188 → a ≠ 189 → (a < 194 ∨ 207 < a) → g' a = g a) ∧ (∀ i, i ≠ 20 → g' 188 i = g 188 i) ∧ FR8 (10 + 560 * c) g g') ?_ ?_ 0 _ _ (by omega) ⟨g, rfl, rfl, fun _ _ => rfl, FR8.rfl', ⟨hca, fun r hr => (B2 r hr).1, hro⟩, rfl, fun _ _ => rfl⟩
  · rintro s0 ls h ⟨g', rfl, rfl, h1, h2, h3, h4, h5⟩
    have hin : (n ≤ n) = True := eq_true (by omega)
    obtain ⟨k1, k2⟩ := hok n (by omega)
    rw [hM] at h3 k1 k2
    have hK' := hK.congr (by omega) (by omega) h2
    have z7 : g' 188 = g 188 := h1 188 (by omega)
    obtain ⟨g2, e2, p1, p2, hML, hMS⟩ := hK'.msn (m := m) (o := o) (b := b) hc n6 (by omega) h3.1 k1 (by rw [z7]; exact h33) (by rw [z7]; exact h34) (by rw [z7]; exact h35)
    have hs : stS n M.1 < 2 ^ n := setN_lt _ _
    obtain ⟨g3, e3, q1⟩ := m_goers (m := m) (o := o) hML n6 (hMS.mw (m := m) (o := o) n3 n6 (by omega)) g2 SM.rfl'
    have hGd : goS n (stS n M.1) (wV n (stC M.1) (fun r => nI (fa 0 r)) (fun r => nI (fa 1 r)) (fun r => nI (fa 2 r)) (fun r => U (K (fa 3 r))) 0) = stG n fa U K M.1 := rfl
    rw [hGd] at e3
    have G2 : stG n fa U K M.1 < 2 ^ n := goS_lt
    have hGs : ∀ r, (stG n fa U K M.1).testBit r = true → (stS n M.1).testBit r = true := fun r h => goS_sub r h
    have hMS3 := hMS.sm (g' := g3) (fun a x y _ => q1 a x y)
    have e4 := m_firstF (m := m) (o := o) (tt := fun r => (stC M.1 r).1.1) hMS3.1 n6 (lt64 G2 n6) (fun r hr hb => hMS3.tt n6 r hr (hGs r hb))
    have hFd : (fun x y => wayB x (stC M.1 x).1.1 y (stC M.1 y).1.1) = stF M.1 := rfl
    simp only [hFd] at e4
    have hL3 := hML.sm q1
    have z8 : g3 189 = g' 189 := by rw [q1 189 (by omega) (by omega), p1 189 (by omega) (by omega)]
    have hcaS : ∀ r, r < 6 → stayO (M.1 r) < 100000 ∧ (r < n → (stS n M.1).testBit r = (M.1 r).isSome) ∧ (n ≤ r → M.1 r = none) := fun r hr => by
      refine ⟨?_, fun hr => ?_, fun hr' => ?_⟩
      · cases hc : M.1 r with
        | none => show 0 < 100000; omega
        | some c => have := (k1 r hr c hc).2.2.2.2; show c.2.2.2 < 100000; omega
      · unfold stS; rw [setN_bit, decide_eq_true hr, Bool.true_and]
      · cases hc : M.1 r with
        | none => rfl
        | some c => have := (k1 r hr c hc).1; omega
    have hM2 := h3.2.2
    have hM3 := h3.1
    generalize hF : ffJ n (stG n fa U K M.1) (stF M.1) = ff at *
    generalize hG : stG n fa U K M.1 = G at *
    generalize hS : stS n M.1 = s at *
    have tail : ∀ (g4 : GG) (cr : Bool), (∀ a, a ≠ 189 → g4 a = g3 a) → (∀ j, j ≠ 10 + 560 * c + 554 → g4 189 j = g3 189 j) → g4 189 (10 + 560 * c + 554) = nI (to 1 + if cr = true then 1 else 0) → ∃ g5, kb_X11_tick_74 [.ref 188, .int (nI c), .int (nI n), .int (nI G)] [] (hp g4 m o) = some (some (.int (nI (popN G))), hp g5 m o) ∧ MXd (10 + 560 * c) (caG G M.1, M.2, ctG n G s M.1 ct, toG cr (decide (s ≠ 0 ∧ G = 0)) to) g5 ∧ g5 189 0 = g 189 0 ∧ (∀ a, a ≠ 188 → a ≠ 189 → (a < 194 ∨ 207 < a) → g5 a = g a) ∧ (∀ i, i ≠ 20 → g5 188 i = g 188 i) ∧ FR8 (10 + 560 * c) g g5 := by
      intro g4 cr w1 w2 w3
      have far : ∀ j, j ≠ 10 + 560 * c + 554 → g4 189 j = g' 189 j := fun j hj => by rw [w2 j hj, z8]
      obtain ⟨g5, e5, v1, v2, v3, v4, v5, v6⟩ := m_tick77 (g := g4) (m := m) (o := o) (c := c) (ca := M.1) (ct := ct) (to := to) hc n6 hs G2 hGs ⟨by rw [w1 188 (by omega)]; exact hL3.1, fun r hr => by rw [w1 207 (by omega)]; exact hL3.2 r hr⟩ (fun r hr => ⟨(hM3 r hr).congr (fun t x y => far _ (by omega)), hcaS r hr⟩) (fun t ht r hr => ⟨by have := B3 t ht r hr; omega, by rw [far _ (by omega), h5 _ (fun q hq => by omega)]; exact hct t ht r hr⟩) (.int (nI n)) (fun t ht => by have := B4 t ht; omega) (by rw [far _ (by omega), h5 _ (fun q hq => by omega)]; have := hto 0 (by omega); rw [Nat.add_zero] at this; exact this) (by rw [far _ (by omega), h5 _ (fun q hq => by omega)]; have := hto 2 (by omega); rw [show 10 + 560 * c + 553 + 2 = 10 + 560 * c + 555 by omega] at this; exact this)
      refine ⟨g5, ?_, ⟨v2, fun r hr => ?_, v3, fun t ht => ?_⟩, ?_, fun a a1 a2 a3 => ?_, fun i hi => ?_, h2.tr ⟨fun i h0 hi => ?_, fun q t hq ht ht2 => ?_, ?_⟩⟩
      · simp (disch := first | assumption | omega) only [kb_X11_tick_74, KL, KB, KC, KI, KJ, KZ, bI_0, bI_n, nI00, nI10, ne_eq, Classical.not_not, not_true_eq_false, not_false_eq_true, if_true, if_false, ite_not, ite_self, Bool.false_eq_true, nIne1, e5]
      · exact MRo.at' (hM2 r hr) (k2 r hr).1 (fun t x y => by rw [v6 _ (fun q hq => by omega) (by omega) (by omega), far _ (by omega)])
      · have ht' : t = 0 ∨ t = 1 ∨ t = 2 := by omega
        rcases ht' with rfl | rfl | rfl
        · exact v4
        · have := v6 (10 + 560 * c + 553 + 1) (fun q hq => by omega) (by omega) (by omega)
          rw [this, show 10 + 560 * c + 553 + 1 = 10 + 560 * c + 554 by omega]
          exact w3
        · exact v5
      · rw [v6 0 (fun q hq => by omega) (by omega) (by omega), far 0 (by omega)]; exact h4
      · rw [v1 a a2, w1 a a2, q1 a (by omega) (by omega), p1 a a1 (by omega)]; exact h1 a a2
      · rw [v1 188 (by omega), w1 188 (by omega), q1 188 (by omega) (by omega), p2 i hi, z7]
      · rw [v6 i (fun q hq => by omega) (by omega) (by omega), far i (by omega)]
      · rw [v6 _ (fun q' hq' => by omega) (by omega) (by omega), far _ (by omega)]
      · rw [v6 _ (fun q' hq' => by omega) (by omega) (by omega), far _ (by omega)]
    have e554 : g3 189 (10 + 560 * c + 554) = nI (to 1) := by rw [z8, h5 _ (fun q hq => by omega)]; have := hto 1 (by omega); rw [show 10 + 560 * c + 553 + 1 = 10 + 560 * c + 554 by omega] at this; exact this
    by_cases hff : ff = -1
    · obtain ⟨g5, e5, w⟩ := tail g3 (decide (ff ≠ -1)) (fun _ _ => rfl) (fun _ _ => rfl) (by rw [e554, decide_eq_false (fun q => q hff)]; rfl)
      refine ⟨g5, ?_, w⟩
      rw [← e5]
      simp (disch := first | assumption | omega) only [KL, KB, KC, KI, KJ, KZ, bI_0, bI_n, nI00, nI10, ne_eq, Classical.not_not, not_true_eq_false, not_false_eq_true, if_true, if_false, ite_not, ite_self, Bool.false_eq_true, nIne1, kMask, mask, O_mo, nIle, hin, e2, e3, e4, hff, eq_self]
    · have ea := m_adds g3 m o c 554 (to 1) (by omega) e554
      obtain ⟨g5, e5, w⟩ := tail (upd2 g3 189 (10 + 560 * c + 554) (nI (to 1 + 1))) (decide (ff ≠ -1)) (fun a ha => uN ha) (fun j hj => uO (Or.inr hj)) (by rw [uS, decide_eq_true hff]; rfl)
      refine ⟨g5, ?_, w⟩
      rw [← e5]
      simp (disch := first | assumption | omega) only [KL, KB, KC, KI, KJ, KZ, bI_0, bI_n, nI00, nI10, ne_eq, Classical.not_not, not_true_eq_false, not_false_eq_true, if_true, if_false, ite_not, ite_self, Bool.false_eq_true, nIne1, kMask, mask, O_mo, nIle, hin, e2, e3, e4, hff, ea]
  · rintro s0 i hi ih ls h ⟨g', rfl, rfl, h1, h2, h3, h4, h5⟩
    have hin : (n ≤ i) = False := eq_false (by omega)
    obtain ⟨g2, e2, p1, p2, p3, p4, p5⟩ := m_movesUp (m := m) (o := o) (tk := to 0) hc n6 i hi (by rw [h5 _ (fun q hq => by omega)]; have := hto 0 (by omega); rw [Nat.add_zero] at this; exact this) (by omega) h3 ((hok i (by omega)).2 i (by omega)).2.2
    simp (disch := first | assumption | omega) only [KL, KB, KC, KI, KJ, KZ, bI_0, bI_n, nI00, nI10, ne_eq, Classical.not_not, not_true_eq_false, not_false_eq_true, if_true, if_false, ite_not, ite_self, Bool.false_eq_true, nIne1, kMask, mask, O_mo, nIle, hin, e2, nI_add]
    exact ih _ _ ⟨g2, rfl, rfl, fun a ha => by rw [p1 a ha]; exact h1 a ha, h2.tr p2, p3, p4.trans h4, fun j hj => by rw [p5 j hj]; exact h5 j hj⟩
theorem m_tick {n c b : Nat} {co : Nat → List Goods} {fa : FA} {U : Nat → ARule} {K : Nat → Nat} {A : AX} {g : GG} {m o : Nat} (hc : c < 6) (n3 : 3 ≤ n) (n6 : n ≤ 6) (hb : b < 90000) (hK : MK (10 + 560 * c) n co fa U K g) (hA : MXd (10 + 560 * c) A g) (hB : BXd n b A) (h33 : g 188 33 = -1) (h34 : g 188 34 = -1) (h35 : g 188 35 = nI 0) : ∃ g', f_X11_tick [.ref 188, .int (nI c)] (hp g m o) = some (some (.int (nI (tickP n co fa U K (g 189 0, A)))), hp g' m o) ∧ MXd (10 + 560 * c) (tickA n co fa U K (g 189 0, A)).2 g' ∧ g' 189 0 = (tickA n co fa U K (g 189 0, A)).1 ∧ (∀ a, a ≠ 188 → a ≠ 189 → (a < 194 ∨ 207 < a) → g' a = g a) ∧ (∀ i, i ≠ 20 → g' 188 i = g 188 i) ∧ FR8 (10 + 560 * c) g g' := by
  obtain ⟨ca, ro, ct, to⟩ := A
  obtain ⟨A1, A2, A3, A4⟩ := hA
  obtain ⟨B1, B2, B3, B4⟩ := hB
  simp only [] at A1 A2 A3 A4 B1 B2 B3 B4
  have e0 := m_own g m o c 552 (by omega)
  rw [hK.1] at e0
  have hco := comeN_ok (n := n) (ch := fa 4) (fun r hr => (hK.2.2.1 r (by omega)).2.2.1)
  have hok : ∀ k, k ≤ n → ∀ r, r < 6 → ((comeN co (fa 4) k (g 189 0, ro)).2 r).length ≤ 20 ∧ (n ≤ r → (comeN co (fa 4) k (g 189 0, ro)).2 r = []) ∧ ∀ z ∈ (comeN co (fa 4) k (g 189 0, ro)).2 r, okGo n r z := fun k hk => hco k (g 189 0, ro) hk B2
  have hresA : tickA n co fa U K (g 189 0, (ca, ro, ct, to)) = ((comeN co (fa 4) n (g 189 0, ro)).1, (caG (stG n fa U K (movN (to 0) n (ca, (comeN co (fa 4) n (g 189 0, ro)).2)).1) (movN (to 0) n (ca, (comeN co (fa 4) n (g 189 0, ro)).2)).1, (movN (to 0) n (ca, (comeN co (fa 4) n (g 189 0, ro)).2)).2, ctG n (stG n fa U K (movN (to 0) n (ca, (comeN co (fa 4) n (g 189 0, ro)).2)).1) (stS n (movN (to 0) n (ca, (comeN co (fa 4) n (g 189 0, ro)).2)).1) (movN (to 0) n (ca, (comeN co (fa 4) n (g 189 0, ro)).2)).1 ct, toG (decide (ffJ n (stG n fa U K (movN (to 0) n (ca, (comeN co (fa 4) n (g 189 0, ro)).2)).1) (stF (movN (to 0) n (ca, (comeN co (fa 4) n (g 189 0, ro)).2)).1) ≠ -1)) (decide (stS n (movN (to 0) n (ca, (comeN co (fa 4) n (g 189 0, ro)).2)).1 ≠ 0 ∧ stG n fa U K (movN (to 0) n (ca, (comeN co (fa 4) n (g 189 0, ro)).2)).1 = 0)) to)) := rfl
  have hresP : tickP n co fa U K (g 189 0, (ca, ro, ct, to)) = popN (stG n fa U K (movN (to 0) n (ca, (comeN co (fa 4) n (g 189 0, ro)).2)).1) := rfl
  rw [hresA, hresP]
  clear hresA hresP
  have hC0 : comeN co (fa 4) 0 (g 189 0, ro) = (g 189 0, ro) := rfl
  have hCs : ∀ i, comeN co (fa 4) (i + 1) (g 189 0, ro) = comeR co (fa 4) i (comeN co (fa 4) i (g 189 0, ro)) := fun i => rfl
  generalize hCN : (fun i => comeN co (fa 4) i (g 189 0, ro)) = CN at *
  have hCN' : ∀ i, comeN co (fa 4) i (g 189 0, ro) = CN i := fun i => by rw [← hCN]
  simp only [hCN'] at *
  clear hCN hCN'
  simp (disch := first | assumption | omega) only [f_X11_tick, kb_X11_tick_0, KL, KB, KC, KI, KJ, KZ, bI_0, bI_n, nI00, nI10, ne_eq, Classical.not_not, not_true_eq_false, not_false_eq_true, if_true, if_false, ite_not, ite_self, Bool.false_eq_true, nIne1, O_mo, e0]
  unfold kl_X11_tick_11
  refine kFor n (by unfold FU; omega) (fun i ls h => ∃ (g' : GG), ls = [.ref 188, .int (nI c), .int (nI n), .int (nI i)] ∧ h = hp g' m o ∧ (∀ a, a ≠ 189 → g' a = g a) ∧ FR8 (10 + 560 * c) g g' ∧ g' 189 0 = (CN i).1 ∧ MRo (10 + 560 * c) (CN i).2 g' ∧ (∀ i, i ≠ 0 → (∀ q, q < 6 → i < 10 + 560 * c + 92 * q + 25 ∨ 10 + 560 * c + 92 * q + 86 ≤ i) → g' 189 i = g 189 i)) (fun r => ∃ g', r = some (some (.int (nI (popN (stG n fa U K (movN (to 0) n (ca, (CN n).2)).1)))), hp g' m o) ∧ MXd (10 + 560 * c) (caG (stG n fa U K (movN (to 0) n (ca, (CN n).2)).1) (movN (to 0) n (ca, (CN n).2)).1, (movN (to 0) n (ca, (CN n).2)).2, ctG n (stG n fa U K (movN (to 0) n (ca, (CN n).2)).1) (stS n (movN (to 0) n (ca, (CN n).2)).1) (movN (to 0) n (ca, (CN n).2)).1 ct, toG (decide (ffJ n (stG n fa U K (movN (to 0) n (ca, (CN n).2)).1) (stF (movN (to 0) n (ca, (CN n).2)).1) ≠ -1)) (decide (stS n (movN (to 0) n (ca, (CN n).2)).1 ≠ 0 ∧ stG n fa U K (movN (to 0) n (ca, (CN n).2)).1 = 0)) to) g' ∧ g' 189 0 = (CN n).1 ∧ (∀ a, a ≠ 188 → a ≠ 189 → (a < 194 ∨ 207 < a) → g' a = g a) ∧ (∀ i, i ≠ 20 → g' 188 i = g 188 i) ∧ FR8 (10 + 560 * c) g g') ?_ ?_ 0 _ _ (by omega) ⟨g, rfl, rfl, fun _ _ => rfl, FR8.rfl', by rw [hC0], by rw [hC0]; exact A2, fun _ _ _ => rfl⟩
  · rintro s0 ls h ⟨g', rfl, rfl, h1, h2, h3, h4, h5⟩
    have hin : (n ≤ n) = True := eq_true (by omega)
    have z7 : g' 188 = g 188 := h1 188 (by omega)
    obtain ⟨g2, e2, p1, p2, p3, p4, p5⟩ := m_tick30 (g := g') (m := m) (o := o) (ca := ca) (ro := (CN n).2) (ct := ct) (to := to) hc n3 n6 hb (hK.congr (by omega) (by omega) h2) (fun r hr => (A1 r hr).congr (fun t a b => h5 _ (by omega) (fun q hq => by omega))) h4 (fun t ht r hr => by rw [h5 _ (by omega) (fun q hq => by omega)]; exact A3 t ht r hr) (fun t ht => by rw [h5 _ (by omega) (fun q hq => by omega)]; exact A4 t ht) B1 (hok n (by omega)) (fun t ht r hr => (B3 t ht r hr).1) B4 (by rw [z7]; exact h33) (by rw [z7]; exact h34) (by rw [z7]; exact h35) _ rfl
    simp (disch := first | assumption | omega) only [KL, KB, KC, KI, KJ, KZ, bI_0, bI_n, nI00, nI10, ne_eq, Classical.not_not, not_true_eq_false, not_false_eq_true, if_true, if_false, ite_not, ite_self, Bool.false_eq_true, nIne1, kMask, mask, O_mo, nIle, hin]
    exact ⟨g2, e2, p1, p2.trans h3, fun a a1 a2 a3 => by rw [p3 a a1 a2 a3]; exact h1 a a2, fun i hi => by rw [p4 i hi, z7], h2.tr p5⟩
  · rintro s0 i hi ih ls h ⟨g', rfl, rfl, h1, h2, h3, h4, h5⟩
    have hin : (n ≤ i) = False := eq_false (by omega)
    obtain ⟨g2, e2, p1, p2, p3, p4, p5⟩ := m_comesUp (m := m) (o := o) hc n6 (hK.congr (by omega) (by omega) h2) i hi h3 h4 (fun q hq => (hok i (by omega) q hq).1)
    rw [← hCs i] at p3 p4
    simp (disch := first | assumption | omega) only [KL, KB, KC, KI, KJ, KZ, bI_0, bI_n, nI00, nI10, ne_eq, Classical.not_not, not_true_eq_false, not_false_eq_true, if_true, if_false, ite_not, ite_self, Bool.false_eq_true, nIne1, kMask, mask, O_mo, nIle, hin, e2, nI_add]
    exact ih _ _ ⟨g2, rfl, rfl, fun a ha => by rw [p1 a ha]; exact h1 a ha, h2.tr p2, p3, p4, fun j h0 hj => by rw [p5 j h0 hj]; exact h5 j h0 hj⟩
