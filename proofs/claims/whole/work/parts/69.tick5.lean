-- ===== the model's tick: comers, rows =====
def FR8 (B : Nat) (g g' : GG) : Prop := (∀ i, i ≠ 0 → (i < B ∨ B + 560 ≤ i) → g' 189 i = g 189 i) ∧ (∀ r t, r < 6 → (t < 18 ∨ 88 < t) → t < 92 → g' 189 (B + 92 * r + t) = g 189 (B + 92 * r + t)) ∧ g' 189 (B + 552) = g 189 (B + 552)
theorem FR8.rfl' {B : Nat} {g : GG} : FR8 B g g := ⟨fun _ _ _ => rfl, fun _ _ _ _ _ => rfl, rfl⟩
theorem FR8.tr {B : Nat} {g g1 g2 : GG} (h : FR8 B g g1) (h2 : FR8 B g1 g2) : FR8 B g g2 := ⟨fun i a b => (h2.1 i a b).trans (h.1 i a b), fun r t a b c => (h2.2.1 r t a b c).trans (h.2.1 r t a b c), h2.2.2.trans h.2.2⟩
theorem FR8.of {B : Nat} {g g' : GG} (h : g' 189 = g 189) : FR8 B g g' := ⟨fun _ _ _ => by rw [h], fun _ _ _ _ _ => by rw [h], by rw [h]⟩
/-- what a tick doesn't change, model -/
def MK (B n : Nat) (co : Nat → List Goods) (fa : FA) (U : Nat → ARule) (K : Nat → Nat) (g : GG) : Prop :=
  g 189 (B + 552) = nI n ∧ (∀ w, w < 5 → ∀ r, r < 6 → fa w r ≤ mostN w ∧ g 189 (B + 92 * r + w) = nI (fa w r)) ∧ (∀ r, r < 6 → (co r).length ≤ 2 ∧ (n ≤ r → co r = []) ∧ (∀ z ∈ co r, okGo n r z) ∧ g 189 (B + 92 * r + 5) = nI (co r).length ∧ ∀ (i : Nat) (z : Goods), (co r)[i]? = some z → g 189 (B + 92 * r + 6 + 3 * i) = nI z.1 ∧ g 189 (B + 92 * r + 6 + 3 * i + 1) = nI z.2.1 ∧ g 189 (B + 92 * r + 6 + 3 * i + 2) = nI z.2.2) ∧ (∀ k, k < 4 → wfR (U k) ∧ ruleM g 189 k (U k)) ∧ ∀ v, v < 2 → K v < 4 ∧ g 189 (1 + v) = nI (K v)
theorem MK.congr {B n : Nat} {co : Nat → List Goods} {fa : FA} {U : Nat → ARule} {K : Nat → Nat} {g g' : GG} (h : MK B n co fa U K g) (hB : B + 560 ≤ 3380) (hB2 : 10 ≤ B) (h1 : FR8 B g g') : MK B n co fa U K g' := by
  obtain ⟨a1, a2, a3, a4, a5⟩ := h
  refine ⟨by rw [h1.2.2]; exact a1, fun w hw r hr => by rw [h1.2.1 r w hr (by omega) (by omega)]; exact a2 w hw r hr, fun r hr => ?_, fun k hk => ⟨(a4 k hk).1, (a4 k hk).2.congr (a4 k hk).1 hk (fun i b1 b2 => h1.1 i (by omega) (by omega))⟩, fun v hv => by rw [h1.1 _ (by omega) (by omega)]; exact a5 v hv⟩
  obtain ⟨b1, b2, b3, b4, b5⟩ := a3 r hr
  refine ⟨b1, b2, b3, by rw [h1.2.1 r 5 hr (by omega) (by omega)]; exact b4, fun i z hz => ?_⟩
  have hi := (List.getElem?_eq_some_iff.mp hz).1
  have e := b5 i z hz
  have e0 := h1.2.1 r (6 + 3 * i) hr (by omega) (by omega)
  have e1 := h1.2.1 r (6 + 3 * i + 1) hr (by omega) (by omega)
  have e2 := h1.2.1 r (6 + 3 * i + 2) hr (by omega) (by omega)
  rw [show B + 92 * r + (6 + 3 * i) = B + 92 * r + 6 + 3 * i by omega] at e0
  rw [show B + 92 * r + (6 + 3 * i + 1) = B + 92 * r + 6 + 3 * i + 1 by omega] at e1
  rw [show B + 92 * r + (6 + 3 * i + 2) = B + 92 * r + 6 + 3 * i + 2 by omega] at e2
  rw [e0, e1, e2]
  exact e
/-- rows, model -/
def MRo (B : Nat) (ro : Nat → List Goods) (g : GG) : Prop := ∀ r, r < 6 → g 189 (B + 92 * r + 25) = nI (ro r).length ∧ ∀ (i : Nat) (z : Goods), (ro r)[i]? = some z → g 189 (B + 92 * r + 26 + 3 * i) = nI z.1 ∧ g 189 (B + 92 * r + 26 + 3 * i + 1) = nI z.2.1 ∧ g 189 (B + 92 * r + 26 + 3 * i + 2) = nI z.2.2
theorem m_comes57 (g : GG) (m o c r k row : Nat) (hc : c < 6) (hr : r < 6) (hk : k < 2) (hrow : row < 20) (v : Value) : ∃ g', kl_X11_comesUp_57 [.ref 188, .int (nI c), .int (nI r), v, .int (nI k), .int (nI row), .int (nI 0)] [] (hp g m o) = some (none, hp g' m o) ∧ (∀ a, a ≠ 189 → g' a = g a) ∧ g' 189 (10 + 560 * c + 92 * r + 25) = nI (row + 1) ∧ (∀ f, f < 3 → g' 189 (10 + 560 * c + 92 * r + 26 + 3 * row + f) = g 189 (10 + 560 * c + 92 * r + 6 + 3 * k + f)) ∧ ∀ j, j ≠ 10 + 560 * c + 92 * r + 25 → (j < 10 + 560 * c + 92 * r + 26 + 3 * row ∨ 10 + 560 * c + 92 * r + 26 + 3 * row + 3 ≤ j) → g' 189 j = g 189 j := by
  unfold kl_X11_comesUp_57
  refine kFor 3 (by unfold FU; omega) (fun i ls h => ∃ (g' : GG) (v : Value), ls = [.ref 188, .int (nI c), .int (nI r), v, .int (nI k), .int (nI row), .int (nI i)] ∧ h = hp g' m o ∧ (∀ a, a ≠ 189 → g' a = g a) ∧ (∀ f, f < i → g' 189 (10 + 560 * c + 92 * r + 26 + 3 * row + f) = g 189 (10 + 560 * c + 92 * r + 6 + 3 * k + f)) ∧ ∀ j, (j < 10 + 560 * c + 92 * r + 26 + 3 * row ∨ 10 + 560 * c + 92 * r + 26 + 3 * row + i ≤ j) → g' 189 j = g 189 j) (fun r' => ∃ g', r' = some (none, hp g' m o) ∧ (∀ a, a ≠ 189 → g' a = g a) ∧ g' 189 (10 + 560 * c + 92 * r + 25) = nI (row + 1) ∧ (∀ f, f < 3 → g' 189 (10 + 560 * c + 92 * r + 26 + 3 * row + f) = g 189 (10 + 560 * c + 92 * r + 6 + 3 * k + f)) ∧ ∀ j, j ≠ 10 + 560 * c + 92 * r + 25 → (j < 10 + 560 * c + 92 * r + 26 + 3 * row ∨ 10 + 560 * c + 92 * r + 26 + 3 * row + 3 ≤ j) → g' 189 j = g 189 j) ?_ ?_ 0 _ _ (by omega) ⟨g, v, rfl, rfl, fun _ _ => rfl, fun f hf => by omega, fun _ _ => rfl⟩
  · rintro s0 ls h ⟨g', v, rfl, rfl, h1, h2, h3⟩
    have hin : (3 ≤ 3) = True := eq_true (by omega)
    simp (disch := first | assumption | omega) only [KL, KB, KC, KI, KJ, KZ, bI_0, bI_n, nI00, nI10, ne_eq, Classical.not_not, not_true_eq_false, not_false_eq_true, if_true, if_false, ite_not, ite_self, Bool.false_eq_true, nIne1, kMask, mask, nIle, hin, O_mo, nI_add, m_set0]
    refine ⟨_, rfl, fun a ha => by rw [uN ha]; exact h1 a ha, uS, fun f hf => by rw [uO (by omega)]; exact h2 f hf, fun j hj hj2 => by rw [uO (by omega)]; exact h3 j hj2⟩
  · rintro s0 i hi ih ls h ⟨g', v, rfl, rfl, h1, h2, h3⟩
    have hin : (3 ≤ i) = False := eq_false (by omega)
    have hg := m_get g' m o c r (6 + 3 * k + i) (by omega)
    rw [show 10 + 560 * c + 92 * r + (6 + 3 * k + i) = 10 + 560 * c + 92 * r + 6 + 3 * k + i by omega, h3 _ (by omega)] at hg
    have hs := fun v => m_set0 g' m o c r (26 + 3 * row + i) v (by omega)
    simp (disch := first | assumption | omega) only [KL, KB, KC, KI, KJ, KZ, bI_0, bI_n, nI00, nI10, ne_eq, Classical.not_not, not_true_eq_false, not_false_eq_true, if_true, if_false, ite_not, ite_self, Bool.false_eq_true, nIne1, kMask, mask, nIle, hin, O_mo, nI_mul, nI_add, hg, hs]
    rw [show 10 + 560 * c + 92 * r + (26 + 3 * row + i) = 10 + 560 * c + 92 * r + 26 + 3 * row + i by omega]
    refine ih _ _ ⟨_, _, rfl, rfl, fun a ha => by rw [uN ha]; exact h1 a ha, fun f hf => ?_, fun j hj => by rw [uO (by omega)]; exact h3 j (by omega)⟩
    by_cases q : f = i
    · subst q; exact uS
    · rw [uO (by omega)]; exact h2 f (by omega)
def comeX (co : Nat → List Goods) (ch : Nat → Nat) (r : Nat) (T : Int32 × (Nat → List Goods)) (t1 t2 : Int32) (D1 D2 : Nat) : Int32 × (Nat → List Goods) :=
  if co r = [] then T
  else if D1 < ch r then (t2, fun q => if q = r ∧ (T.2 r).length < 20 then T.2 r ++ [(co r).getD D2 (0, 0, 0)] else T.2 q)
  else (t1, T.2)
theorem m_comesX {n c : Nat} {co : Nat → List Goods} {fa : FA} {U : Nat → ARule} {K : Nat → Nat} {T : Int32 × (Nat → List Goods)} {g : GG} {m o : Nat} {t1 t2 : Int32} {D1 k : Nat} (hc : c < 6) (n6 : n ≤ 6) (hK : MK (10 + 560 * c) n co fa U K g) (r : Nat) (hr : r < n) (hT : g 189 0 = T.1) (hro : MRo (10 + 560 * c) T.2 g) (hl : ∀ q, q < 6 → (T.2 q).length ≤ 20) (ed : f_X11_draw [.ref 188, .int (nI 100)] (hp g m o) = some (some (.int (nI D1)), hp (upd2 g 189 0 t1) m o)) (d1 : D1 < 100) (ed2' : 0 < (co r).length → (co r).length ≤ 2 → f_X11_draw [.ref 188, .int (nI (co r).length)] (hp (upd2 g 189 0 t1) m o) = some (some (.int (nI k)), hp (upd2 (upd2 g 189 0 t1) 189 0 t2) m o)) (d2' : 0 < (co r).length → k < (co r).length) : ∃ g', f_X11_comesUp [.ref 188, .int (nI c), .int (nI r)] (hp g m o) = some (none, hp g' m o) ∧ (∀ a, a ≠ 189 → g' a = g a) ∧ FR8 (10 + 560 * c) g g' ∧ g' 189 0 = (comeX co (fa 4) r T t1 t2 D1 k).1 ∧ MRo (10 + 560 * c) (comeX co (fa 4) r T t1 t2 D1 k).2 g' ∧ ∀ i, i ≠ 0 → (∀ q, q < 6 → i < 10 + 560 * c + 92 * q + 25 ∨ 10 + 560 * c + 92 * q + 86 ≤ i) → g' 189 i = g 189 i := by
  obtain ⟨c2, -, -, c4, c3⟩ := hK.2.2.1 r (by omega)
  obtain ⟨k1, k2⟩ := hK.2.1 4 (by omega) r (by omega)
  have k1' : fa 4 r ≤ 100 := k1
  have hlr := hl r (by omega)
  have eg := fun (g : GG) (f : Nat) (hf : f < 92) => m_get g m o c r f (by omega)
  have e5 := eg g 5 (by omega)
  rw [c4] at e5
  by_cases hcr : co r = []
  · have hz : (nI (co r).length = 0) = True := by rw [hcr]; exact eq_true rfl
    have hR : comeX co (fa 4) r T t1 t2 D1 k = T := if_pos hcr
    rw [hR]
    refine ⟨g, ?_, fun _ _ => rfl, FR8.rfl', hT, hro, fun _ _ _ => rfl⟩
    simp (disch := first | assumption | omega) only [f_X11_comesUp, kb_X11_comesUp_28, kb_X11_comesUp_0, KL, KB, KC, KI, KJ, KZ, bI_0, bI_n, nI00, nI10, ne_eq, Classical.not_not, not_true_eq_false, not_false_eq_true, if_true, if_false, ite_not, ite_self, Bool.false_eq_true, nIne1, O_mo, e5, hz]
  · have hpos : 0 < (co r).length := by
      cases hh : co r with
      | nil => exact absurd hh hcr
      | cons a t => exact Nat.succ_pos _
    have hz : (nI (co r).length = 0) = False := by rw [nIk0 (by omega)]; exact eq_false (by omega)
    have ed2 := ed2' hpos c2
    have d2 := d2' hpos
    by_cases hd : D1 < fa 4 r
    · have hR : comeX co (fa 4) r T t1 t2 D1 k = (t2, fun q => if q = r ∧ (T.2 r).length < 20 then T.2 r ++ [(co r).getD k (0, 0, 0)] else T.2 q) := by
        unfold comeX
        rw [if_neg hcr, if_pos hd]
      rw [hR]
      clear hR
      have hd' : (D1 < fa 4 r) = True := eq_true hd
      have e4 := eg (upd2 g 189 0 t1) 4 (by omega)
      rw [uO (by omega), k2] at e4
      have e25 := eg (upd2 (upd2 g 189 0 t1) 189 0 t2) 25 (by omega)
      rw [uO (by omega), uO (by omega), (hro r (by omega)).1] at e25
      have hzk : (co r)[k]? = some ((co r).getD k (0, 0, 0)) := by rw [List.getD_eq_getElem?_getD, List.getElem?_eq_getElem d2]; rfl
      obtain ⟨z0, z1, z2⟩ := c3 _ _ hzk
      by_cases hl20 : (T.2 r).length < 20
      · have hne : ((T.2 r).length = 20) = False := eq_false (by omega)
        obtain ⟨g', e, p1, p2, p3, p4⟩ := m_comes57 (upd2 (upd2 g 189 0 t1) 189 0 t2) m o c r k (T.2 r).length hc (by omega) (by omega) hl20 (.int (nI (co r).length))
        have p4' : ∀ i, i ≠ 0 → (i < 10 + 560 * c + 92 * r + 25 ∨ 10 + 560 * c + 92 * r + 86 ≤ i) → g' 189 i = g 189 i := fun i h0 hi => by rw [p4 i (by omega) (by omega), uO (by omega), uO (by omega)]
        refine ⟨g', ?_, fun a ha => by rw [p1 a ha, uN ha, uN ha], ⟨fun i h0 hi => p4' i h0 (by omega), fun q t hq ht ht2 => p4' _ (by omega) (by
          rcases Nat.lt_trichotomy q r with h | h | h
          · omega
          · subst h; omega
          · omega), p4' _ (by omega) (by omega)⟩, ?_, fun q hq => ?_, fun i h0 hi => p4' i h0 (hi r (by omega))⟩
        · simp (disch := first | assumption | omega) only [f_X11_comesUp, kb_X11_comesUp_28, kb_X11_comesUp_0, KL, KB, KC, KI, KJ, KZ, bI_0, bI_n, nI00, nI10, ne_eq, Classical.not_not, not_true_eq_false, not_false_eq_true, if_true, if_false, ite_not, ite_self, Bool.false_eq_true, nIne1, O_mo, e5, hz, ed, e4, nIlt, hd', ed2, e25, nIeq, hne, e]
        · rw [p4 0 (by omega) (by omega), uS]
        · simp only [hl20, and_true]
          by_cases hqr : q = r
          · subst hqr
            rw [if_pos rfl]
            refine ⟨by rw [p2, List.length_append]; rfl, fun i z hz => ?_⟩
            by_cases hi : i < (T.2 q).length
            · rw [List.getElem?_append_left hi] at hz
              obtain ⟨w0, w1, w2⟩ := (hro q hq).2 i z hz
              refine ⟨?_, ?_, ?_⟩
              · rw [p4 _ (by omega) (by omega), uO (by omega), uO (by omega)]; exact w0
              · rw [p4 _ (by omega) (by omega), uO (by omega), uO (by omega)]; exact w1
              · rw [p4 _ (by omega) (by omega), uO (by omega), uO (by omega)]; exact w2
            · rw [List.getElem?_append_right (by omega)] at hz
              have h0 : i - (T.2 q).length = 0 := by
                apply Nat.eq_zero_of_not_pos
                intro w
                rw [List.getElem?_eq_none (by rw [List.length_singleton]; omega)] at hz
                cases hz
              rw [h0] at hz
              cases hz
              have hi' : i = (T.2 q).length := by omega
              subst hi'
              refine ⟨?_, ?_, ?_⟩
              · have := p3 0 (by omega)
                rw [Nat.add_zero, Nat.add_zero, uO (by omega), uO (by omega)] at this
                rw [this]; exact z0
              · rw [p3 1 (by omega), uO (by omega), uO (by omega)]; exact z1
              · rw [p3 2 (by omega), uO (by omega), uO (by omega)]; exact z2
          · rw [if_neg hqr]
            obtain ⟨w0, w1⟩ := hro q hq
            have far : ∀ t, 25 ≤ t → t < 86 → g' 189 (10 + 560 * c + 92 * q + t) = g 189 (10 + 560 * c + 92 * q + t) := fun t a b => p4' _ (by omega) (by omega)
            refine ⟨by rw [far 25 (by omega) (by omega)]; exact w0, fun i z hz => ?_⟩
            have w := w1 i z hz
            by_cases hi : i < 20
            · have f0 := far (26 + 3 * i) (by omega) (by omega)
              have f1 := far (26 + 3 * i + 1) (by omega) (by omega)
              have f2 := far (26 + 3 * i + 2) (by omega) (by omega)
              rw [show 10 + 560 * c + 92 * q + (26 + 3 * i) = 10 + 560 * c + 92 * q + 26 + 3 * i by omega] at f0
              rw [show 10 + 560 * c + 92 * q + (26 + 3 * i + 1) = 10 + 560 * c + 92 * q + 26 + 3 * i + 1 by omega] at f1
              rw [show 10 + 560 * c + 92 * q + (26 + 3 * i + 2) = 10 + 560 * c + 92 * q + 26 + 3 * i + 2 by omega] at f2
              rw [f0, f1, f2]
              exact w
            · have := (List.getElem?_eq_some_iff.mp hz).1
              have := hl q hq
              omega
      · have heq : ((T.2 r).length = 20) = True := eq_true (by omega)
        refine ⟨upd2 (upd2 g 189 0 t1) 189 0 t2, ?_, fun a ha => by rw [uN ha, uN ha], ⟨fun i h0 hi => by rw [uO (Or.inr h0), uO (Or.inr h0)], fun q t hq ht ht2 => by rw [uO (by omega), uO (by omega)], by rw [uO (by omega), uO (by omega)]⟩, uS, fun q hq => ?_, fun i h0 hi => by rw [uO (Or.inr h0), uO (Or.inr h0)]⟩
        · simp (disch := first | assumption | omega) only [f_X11_comesUp, kb_X11_comesUp_28, kb_X11_comesUp_0, KL, KB, KC, KI, KJ, KZ, bI_0, bI_n, nI00, nI10, ne_eq, Classical.not_not, not_true_eq_false, not_false_eq_true, if_true, if_false, ite_not, ite_self, Bool.false_eq_true, nIne1, O_mo, e5, hz, ed, e4, nIlt, hd', ed2, e25, nIeq, heq]
        · simp only [hl20, and_false, if_false]
          refine ⟨by rw [uO (by omega), uO (by omega)]; exact (hro q hq).1, fun i z hz => ?_⟩
          rw [uO (by omega), uO (by omega), uO (by omega), uO (by omega), uO (by omega), uO (by omega)]
          exact (hro q hq).2 i z hz
    · have hR : comeX co (fa 4) r T t1 t2 D1 k = (t1, T.2) := by unfold comeX; rw [if_neg hcr, if_neg hd]
      rw [hR]
      clear hR
      have e4 := eg (upd2 g 189 0 t1) 4 (by omega)
      rw [uO (by omega), k2] at e4
      have hd' : (D1 < fa 4 r) = False := eq_false hd
      refine ⟨upd2 g 189 0 t1, ?_, fun a ha => by rw [uN ha], ⟨fun i h0 hi => by rw [uO (Or.inr h0)], fun q t hq ht ht2 => by rw [uO (by omega)], by rw [uO (by omega)]⟩, uS, fun q hq => ?_, fun i h0 hi => by rw [uO (Or.inr h0)]⟩
      · simp (disch := first | assumption | omega) only [f_X11_comesUp, kb_X11_comesUp_28, kb_X11_comesUp_0, KL, KB, KC, KI, KJ, KZ, bI_0, bI_n, nI00, nI10, ne_eq, Classical.not_not, not_true_eq_false, not_false_eq_true, if_true, if_false, ite_not, ite_self, Bool.false_eq_true, nIne1, O_mo, e5, hz, ed, e4, nIlt, hd']
      · refine ⟨by rw [uO (by omega)]; exact (hro q hq).1, fun i z hz => ?_⟩
        rw [uO (by omega), uO (by omega), uO (by omega)]
        exact (hro q hq).2 i z hz
theorem m_comesUp {n c : Nat} {co : Nat → List Goods} {fa : FA} {U : Nat → ARule} {K : Nat → Nat} {T : Int32 × (Nat → List Goods)} {g : GG} {m o : Nat} (hc : c < 6) (n6 : n ≤ 6) (hK : MK (10 + 560 * c) n co fa U K g) (r : Nat) (hr : r < n) (hT : g 189 0 = T.1) (hro : MRo (10 + 560 * c) T.2 g) (hl : ∀ q, q < 6 → (T.2 q).length ≤ 20) : ∃ g', f_X11_comesUp [.ref 188, .int (nI c), .int (nI r)] (hp g m o) = some (none, hp g' m o) ∧ (∀ a, a ≠ 189 → g' a = g a) ∧ FR8 (10 + 560 * c) g g' ∧ g' 189 0 = (comeR co (fa 4) r T).1 ∧ MRo (10 + 560 * c) (comeR co (fa 4) r T).2 g' ∧ ∀ i, i ≠ 0 → (∀ q, q < 6 → i < 10 + 560 * c + 92 * q + 25 ∨ 10 + 560 * c + 92 * q + 86 ≤ i) → g' 189 i = g 189 i := by
  have ed := m_draw g m o 100 (by decide) (by decide)
  rw [hT] at ed
  have key := m_comesX (t1 := dr1 T.1) (t2 := dr1 (dr1 T.1)) (D1 := drV (dr1 T.1) 100) (k := drV (dr1 (dr1 T.1)) (co r).length) (m := m) (o := o) hc n6 hK r hr hT hro hl ed (drV_lt _ (by decide)) (fun h1 h2 => by
    have ed2 := m_draw (upd2 g 189 0 (dr1 T.1)) m o (co r).length h1 (Nat.lt_of_le_of_lt h2 (by decide))
    rw [uS] at ed2
    exact ed2) (fun h => drV_lt _ h)
  exact key
