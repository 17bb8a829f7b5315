-- ===== starve: the model's couple =====
theorem m_pair {n : Nat} {co : Nat → List Goods} {fa : FA} {rl : Nat → ARule} {kr : Nat → Nat} {g : GG} {m o r q x y : Nat} (n3 : 3 ≤ n) (n6 : n ≤ 6) (hr : r < n) (hq : q < n) (hrq : r ≠ q) (hx : x / 2 = r) (hy : y / 2 = q) (tx : thB co x = true) (ty : thB co y = true) (okx : okGo n r (cG co x)) (oky : okGo n q (cG co y)) (en : g 188 20 = nI n) (h5 : ∀ r, r < n → g 196 r = nI (fa 0 r) ∧ g 197 r = nI (fa 1 r) ∧ g 198 r = nI (fa 2 r)) (h35 : g 188 35 = nI 0) (h33 : g 188 33 = -1) (h6 : ∀ r, r < n → kr r < 4 ∧ wfR (rl r) ∧ ruleM g 189 (kr r) (rl r) ∧ ((g 188 34 = -1 ∧ ∃ v, v < 2 ∧ g 199 r = nI v ∧ g 189 (1 + v) = nI (kr r)) ∨ g 188 34 = nI (kr r))) (cr : g 200 r = nI (cG co x).1 ∧ g 201 r = nI (cG co x).2.1 ∧ g 202 r = nI (cG co x).2.2 ∧ g 203 r = nI 0 ∧ g 204 r = nI 0) (cq : g 200 q = nI (cG co y).1 ∧ g 201 q = nI (cG co y).2.1 ∧ g 202 q = nI (cG co y).2.2 ∧ g 203 q = nI 1 ∧ g 204 q = nI 0) : ∃ g2 g3, f_X11_waitsFor [.ref 188, .int (nI r), .int (nI q)] (hp g m o) = some (some (.int (bW (ftB co x y && VR n co fa rl x y false))), hp g2 m o) ∧ f_X11_waitsFor [.ref 188, .int (nI q), .int (nI r)] (hp g2 m o) = some (some (.int (bW (ftB co y x && VR n co fa rl y x true))), hp g3 m o) ∧ SM g g2 ∧ SM g2 g3 := by
  obtain ⟨ct, er, eq⟩ : ∃ ct : Nat → ACart, ct r = (cG co x, 0, 0, 0) ∧ ct q = (cG co y, 1, 0, 0) := ⟨fun i => if i = r then (cG co x, 0, 0, 0) else (cG co y, 1, 0, 0), if_pos rfl, if_neg (Ne.symm hrq)⟩
  have hMS : MSn n (setN (fun i => decide (i = r ∨ i = q)) 6) ct (fun r => nI (fa 0 r)) (fun r => nI (fa 1 r)) (fun r => nI (fa 2 r)) kr rl 0 g := by
    refine ⟨en, fun i hi hs => ?_, h5, h35, h33, h6⟩
    rw [setN_bit, Bool.and_eq_true] at hs
    have h := of_decide_eq_true hs.2
    by_cases e : i = r
    · subst e
      rw [er]
      exact ⟨okx, by show 0 ≤ 99; omega, by show 0 ≤ 2; omega, by show 0 < 1000000; omega, cr.1, cr.2.1, cr.2.2.1, cr.2.2.2.1, cr.2.2.2.2, fun q => absurd q (by omega)⟩
    · have e2 : i = q := h.resolve_left e
      subst e2
      rw [eq]
      exact ⟨oky, by show 1 ≤ 99; omega, by show 0 ≤ 2; omega, by show 0 < 1000000; omega, cq.1, cq.2.1, cq.2.2.1, cq.2.2.2.1, cq.2.2.2.2, fun q => absurd q (by omega)⟩
  have hMW := hMS.mw (m := m) (o := o) n3 n6 (by omega)
  have sr : (setN (fun i => decide (i = r ∨ i = q)) 6).testBit r = true := by rw [setN_bit, decide_eq_true (by omega), decide_eq_true (Or.inl rfl)]; rfl
  have sq : (setN (fun i => decide (i = r ∨ i = q)) 6).testBit q = true := by rw [setN_bit, decide_eq_true (by omega), decide_eq_true (Or.inr rfl)]; rfl
  obtain ⟨g2, e2, w2⟩ := hMW g (fun _ _ _ => rfl) r q hr hq hrq sr sq
  obtain ⟨g3, e3, w3⟩ := hMW g2 w2 q r hq hr (Ne.symm hrq) sq sr
  have k1 : wV n ct (fun r => nI (fa 0 r)) (fun r => nI (fa 1 r)) (fun r => nI (fa 2 r)) rl 0 r q = (ftB co x y && VR n co fa rl x y false) := by
    unfold wV waitV ftB VR
    rw [hx, hy, tx, ty, er, eq, decide_eq_true (Ne.symm hrq)]
    simp only [if_true, Bool.true_and]
    rfl
  have k2 : wV n ct (fun r => nI (fa 0 r)) (fun r => nI (fa 1 r)) (fun r => nI (fa 2 r)) rl 0 q r = (ftB co y x && VR n co fa rl y x true) := by
    unfold wV waitV ftB VR
    rw [hx, hy, tx, ty, er, eq, decide_eq_true hrq]
    simp only [if_true, Bool.true_and]
    rfl
  rw [k1] at e2
  rw [k2] at e3
  exact ⟨g2, g3, e2, e3, w2, w3⟩
