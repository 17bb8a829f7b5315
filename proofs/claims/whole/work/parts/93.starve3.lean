-- ===== starve: the model goes through the couples =====
def BST (g0 g : GG) : Prop := ∀ a, a ≠ 194 → a ≠ 195 → a ≠ 200 → a ≠ 201 → a ≠ 202 → a ≠ 203 → a ≠ 204 → a ≠ 207 → g a = g0 a
theorem svP_th {co : Nat → List Goods} {V : Nat → Nat → Bool → Bool} {x y : Nat} (h : svP co V x y = true) : thB co x = true ∧ thB co y = true ∧ y / 2 ≠ x / 2 := by
  unfold svP at h
  rw [Bool.and_eq_true, Bool.and_eq_true] at h
  have := ftB_th h.1.1
  exact ⟨this.1, this.2.1, this.2.2.1⟩
/-- one couple -/
theorem m_st66 {c n : Nat} {co : Nat → List Goods} {fa : FA} {rl : Nat → ARule} {kr : Nat → Nat} {g0 g : GG} {m o r q d s : Nat} (hc : c < 6) (n3 : 3 ≤ n) (n6 : n ≤ 6) (hM : MO c n co g0) (h5 : ∀ r, r < n → g0 196 r = nI (fa 0 r) ∧ g0 197 r = nI (fa 1 r) ∧ g0 198 r = nI (fa 2 r)) (h35 : g0 188 35 = nI 0) (h33 : g0 188 33 = -1) (h6 : ∀ r, r < n → kr r < 4 ∧ wfR (rl r) ∧ ruleM g0 189 (kr r) (rl r) ∧ ((g0 188 34 = -1 ∧ ∃ v, v < 2 ∧ g0 199 r = nI v ∧ g0 189 (1 + v) = nI (kr r)) ∨ g0 188 34 = nI (kr r))) (hB : BST g0 g) (hr : r < n) (hq : q < n) (hrq : r ≠ q) (hd : d < (co r).length * (co q).length) (s18 s29 s41 : KK) : ∃ g', BST g0 g' ∧ kb_X11_starve_66 s18 s29 s41 [.ref 188, .int (nI c), .int (nI s), .int (nI r), .int (nI q), .int (nI d)] [] (hp g m o) = s41 [.ref 188, .int (nI c), .int (nI (if svP co (VR n co fa rl) (2 * r + d / (co q).length) (2 * q + d % (co q).length) = true then s ||| 1 <<< r else s)), .int (nI r), .int (nI q), .int (nI (d + 1))] [] (hp g' m o) := by
  obtain ⟨l1, o1, e1, -⟩ := hM.2 r hr
  obtain ⟨l2, o2, e2, -⟩ := hM.2 q hq
  have hL : 0 < (co q).length := by
    apply Nat.pos_of_ne_zero
    intro h0
    rw [h0] at hd
    omega
  have ha : d / (co q).length < (co r).length := (Nat.div_lt_iff_lt_mul hL).mpr hd
  have hb : d % (co q).length < (co q).length := Nat.mod_lt _ hL
  generalize hA : d / (co q).length = A at *
  generalize hQ : d % (co q).length = Q at *
  have hd4 : d < 4 := by
    have : (co r).length * (co q).length ≤ 2 * 2 := Nat.mul_le_mul l1 l2
    omega
  have z : ∀ a, a = 188 ∨ a = 189 ∨ a = 206 ∨ a = 196 ∨ a = 197 ∨ a = 198 ∨ a = 199 → g a = g0 a := fun a ha => hB a (by omega) (by omega) (by omega) (by omega) (by omega) (by omega) (by omega) (by omega)
  have hMg : MO c n co g := hM.congr (by rw [z 188 (by omega)]) (z 206 (by omega)) (z 189 (by omega))
  have eq2 : g 206 q = nI (co q).length := by rw [z 206 (by omega)]; exact e2
  obtain ⟨g1, f1, p1, p2, p3, p4, p5⟩ := m_comes (m := m) (o := o) (k := 1 + A) hc n6 hr hMg (by omega)
  have hM1 : MO c n co g1 := hMg.congr (by rw [p1 188 (by omega) (by omega) (by omega) (by omega) (by omega)]) (p1 206 (by omega) (by omega) (by omega) (by omega) (by omega)) (p1 189 (by omega) (by omega) (by omega) (by omega) (by omega))
  have eq3 : g1 206 q = nI (co q).length := by rw [p1 206 (by omega) (by omega) (by omega) (by omega) (by omega)]; exact eq2
  obtain ⟨g2, f2, q1, q2, q3, q4, q5⟩ := m_comes (m := m) (o := o) (k := 1 + Q) hc n6 hq hM1 (by omega)
  have tx : thB co (2 * r + A) = true := decide_eq_true (by rw [show (2 * r + A) / 2 = r by omega, show (2 * r + A) % 2 = A by omega]; exact ha)
  have ty : thB co (2 * q + Q) = true := decide_eq_true (by rw [show (2 * q + Q) / 2 = q by omega, show (2 * q + Q) % 2 = Q by omega]; exact hb)
  have gx : (co r)[A]? = some (cG co (2 * r + A)) := by
    unfold cG
    rw [show (2 * r + A) / 2 = r by omega, show (2 * r + A) % 2 = A by omega, List.getD_eq_getElem?_getD, List.getElem?_eq_getElem ha]
    rfl
  have gy : (co q)[Q]? = some (cG co (2 * q + Q)) := by
    unfold cG
    rw [show (2 * q + Q) / 2 = q by omega, show (2 * q + Q) % 2 = Q by omega, List.getD_eq_getElem?_getD, List.getElem?_eq_getElem hb]
    rfl
  obtain ⟨x1, x2, x3⟩ := p5 (by omega) _ (by rw [show 1 + A - 1 = A by omega]; exact gx)
  obtain ⟨y1, y2, y3⟩ := q5 (by omega) _ (by rw [show 1 + Q - 1 = Q by omega]; exact gy)
  have zz : ∀ a, a = 188 ∨ a = 189 ∨ a = 196 ∨ a = 197 ∨ a = 198 ∨ a = 199 → upd2 (upd2 g2 203 r (nI 0)) 203 q (nI 1) a = g0 a := fun a ha => by rw [uN (by omega), uN (by omega), q1 a (by omega) (by omega) (by omega) (by omega) (by omega), p1 a (by omega) (by omega) (by omega) (by omega) (by omega), z a (by omega)]
  obtain ⟨g3, g4, e3, e4, w3, w4⟩ := m_pair (g := upd2 (upd2 g2 203 r (nI 0)) 203 q (nI 1)) (m := m) (o := o) (kr := kr) (fa := fa) (rl := rl) (x := 2 * r + A) (y := 2 * q + Q) n3 n6 hr hq hrq (by omega) (by omega) tx ty (o1 _ (List.mem_of_getElem? gx)) (o2 _ (List.mem_of_getElem? gy)) (by rw [zz 188 (by omega)]; exact hM.1) (fun i hi => by rw [zz 196 (by omega), zz 197 (by omega), zz 198 (by omega)]; exact h5 i hi) (by rw [zz 188 (by omega)]; exact h35) (by rw [zz 188 (by omega)]; exact h33) (fun i hi => by
      obtain ⟨a1, a2, a3, a4⟩ := h6 i hi
      refine ⟨a1, a2, a3.congr a2 a1 (fun t _ _ => by rw [zz 189 (by omega)]), ?_⟩
      rw [zz 188 (by omega), zz 199 (by omega), zz 189 (by omega)]
      exact a4) ⟨by rw [uN (by omega), uN (by omega), q2 _ _ hrq]; exact x1, by rw [uN (by omega), uN (by omega), q2 _ _ hrq]; exact x2, by rw [uN (by omega), uN (by omega), q2 _ _ hrq]; exact x3, by rw [uO (Or.inr hrq), uS], by rw [uN (by omega), uN (by omega), q2 _ _ hrq]; exact p4⟩ ⟨by rw [uN (by omega), uN (by omega)]; exact y1, by rw [uN (by omega), uN (by omega)]; exact y2, by rw [uN (by omega), uN (by omega)]; exact y3, uS, by rw [uN (by omega), uN (by omega)]; exact q4⟩
  have hfr : ∀ g5, SM (upd2 (upd2 g2 203 r (nI 0)) 203 q (nI 1)) g5 → BST g0 g5 := fun g5 h a a1 a2 a3 a4 a5 a6 a7 a8 => by
    rw [h a a1 a2, uN a6, uN a6, q1 a a3 a4 a5 a7 a8, p1 a a3 a4 a5 a7 a8]
    exact hB a a1 a2 a3 a4 a5 a6 a7 a8
  have z00 : (nI 0 = 0) = True := eq_true rfl
  have z10 : (nI 1 = 0) = False := eq_false (by decide)
  have z00' : (nI 0 ≠ 0) = False := eq_false (by decide)
  have z10' : (nI 1 ≠ 0) = True := eq_true (by decide)
  have r6 : r < 6 := by omega
  have hrem : nI d - nI A * nI (co q).length = nI Q := by have h := nI_rem2 d (co q).length; rwa [hA, hQ] at h
  have hzL : (nI (co q).length = 0) = False := by rw [nIk0 (by omega)]; exact eq_false (by omega)
  have q6 : q < 6 := by omega
  generalize 2 * r + A = X at *
  generalize 2 * q + Q = Y at *
  cases k1 : (ftB co X Y && VR n co fa rl X Y false) with
  | false =>
    have hP : svP co (VR n co fa rl) X Y = false := by unfold svP; rw [k1]; rfl
    rw [k1, bW_f] at e3
    refine ⟨g3, hfr g3 w3, ?_⟩
    rw [hP]
    simp (disch := first | assumption | omega) only [kb_X11_starve_66, kb_X11_starve_144, KL, KB, KC, KI, KJ, KZ, bI_0, bI_n, nI00, nI10, ne_eq, Classical.not_not, not_true_eq_false, not_false_eq_true, if_true, if_false, ite_not, ite_self, Bool.false_eq_true, nIne1, O_mo, AR, eq2, eq3, nI_div, nI_rem, nI_rem2, hA, hQ, hzL, hrem, nI_add, f1, f2, e3, z00]
  | true =>
    rw [k1, bW_t] at e3
    cases k2 : (ftB co Y X && VR n co fa rl Y X true) with
    | true =>
      have hP : svP co (VR n co fa rl) X Y = false := by unfold svP; rw [k1, k2]; rfl
      rw [k2, bW_t] at e4
      refine ⟨g4, hfr g4 (w3.tr w4), ?_⟩
      rw [hP]
      simp (disch := first | assumption | omega) only [kb_X11_starve_66, kb_X11_starve_144, KL, KB, KC, KI, KJ, KZ, bI_0, bI_n, nI00, nI10, ne_eq, Classical.not_not, not_true_eq_false, not_false_eq_true, if_true, if_false, ite_not, ite_self, Bool.false_eq_true, nIne1, O_mo, AR, eq2, eq3, nI_div, nI_rem, nI_rem2, hA, hQ, hzL, hrem, nI_add, f1, f2, e3, e4, z10, z10']
    | false =>
      have hP : svP co (VR n co fa rl) X Y = true := by unfold svP; rw [k1, k2]; rfl
      rw [k2, bW_f] at e4
      refine ⟨g4, hfr g4 (w3.tr w4), ?_⟩
      rw [hP]
      simp (disch := first | assumption | omega) only [kb_X11_starve_66, kb_X11_starve_144, KL, KB, KC, KI, KJ, KZ, bI_0, bI_n, nI00, nI10, ne_eq, Classical.not_not, not_true_eq_false, not_false_eq_true, if_true, if_false, ite_not, ite_self, Bool.false_eq_true, nIne1, O_mo, AR, eq2, eq3, nI_div, nI_rem, nI_rem2, hA, hQ, hzL, hrem, nI_add, f1, f2, e3, e4, z10, z00', nI_shl, nI_or]
