-- ===== the model's tick: rows come up; who goes =====
theorem MRo.at' {B : Nat} {ro : Nat → List Goods} {g g' : GG} {q : Nat} (h : g 189 (B + 92 * q + 25) = nI (ro q).length ∧ ∀ (i : Nat) (z : Goods), (ro q)[i]? = some z → g 189 (B + 92 * q + 26 + 3 * i) = nI z.1 ∧ g 189 (B + 92 * q + 26 + 3 * i + 1) = nI z.2.1 ∧ g 189 (B + 92 * q + 26 + 3 * i + 2) = nI z.2.2) (hl : (ro q).length ≤ 20) (far : ∀ t, 25 ≤ t → t < 86 → g' 189 (B + 92 * q + t) = g 189 (B + 92 * q + t)) : g' 189 (B + 92 * q + 25) = nI (ro q).length ∧ ∀ (i : Nat) (z : Goods), (ro q)[i]? = some z → g' 189 (B + 92 * q + 26 + 3 * i) = nI z.1 ∧ g' 189 (B + 92 * q + 26 + 3 * i + 1) = nI z.2.1 ∧ g' 189 (B + 92 * q + 26 + 3 * i + 2) = nI z.2.2 := by
  refine ⟨by rw [far 25 (by omega) (by omega)]; exact h.1, fun i z hz => ?_⟩
  have hi := (List.getElem?_eq_some_iff.mp hz).1
  have w := h.2 i z hz
  have f0 := far (26 + 3 * i) (by omega) (by omega)
  have f1 := far (26 + 3 * i + 1) (by omega) (by omega)
  have f2 := far (26 + 3 * i + 2) (by omega) (by omega)
  rw [show B + 92 * q + (26 + 3 * i) = B + 92 * q + 26 + 3 * i by omega] at f0
  rw [show B + 92 * q + (26 + 3 * i + 1) = B + 92 * q + 26 + 3 * i + 1 by omega] at f1
  rw [show B + 92 * q + (26 + 3 * i + 2) = B + 92 * q + 26 + 3 * i + 2 by omega] at f2
  rw [f0, f1, f2]
  exact w
theorem m_moves71 (g : GG) (m o c r row : Nat) (hc : c < 6) (hr : r < 6) (hrow : row < 20) : ∃ g', kl_X11_movesUp_71 [.ref 188, .int (nI c), .int (nI r), .int (nI (row + 1)), .int (nI 0)] [] (hp g m o) = some (none, hp g' m o) ∧ (∀ a, a ≠ 189 → g' a = g a) ∧ g' 189 (10 + 560 * c + 92 * r + 25) = nI row ∧ (∀ f, f < 3 * row → g' 189 (10 + 560 * c + 92 * r + 26 + f) = g 189 (10 + 560 * c + 92 * r + 29 + f)) ∧ ∀ j, j ≠ 10 + 560 * c + 92 * r + 25 → (j < 10 + 560 * c + 92 * r + 26 ∨ 10 + 560 * c + 92 * r + 26 + 3 * row ≤ j) → g' 189 j = g 189 j := by
  unfold kl_X11_movesUp_71
  refine kFor (3 * row) (by unfold FU; omega) (fun i ls h => ∃ (g' : GG), ls = [.ref 188, .int (nI c), .int (nI r), .int (nI (row + 1)), .int (nI i)] ∧ h = hp g' m o ∧ (∀ a, a ≠ 189 → g' a = g a) ∧ (∀ f, f < i → g' 189 (10 + 560 * c + 92 * r + 26 + f) = g 189 (10 + 560 * c + 92 * r + 29 + f)) ∧ ∀ j, (j < 10 + 560 * c + 92 * r + 26 ∨ 10 + 560 * c + 92 * r + 26 + i ≤ j) → g' 189 j = g 189 j) (fun r' => ∃ g', r' = some (none, hp g' m o) ∧ (∀ a, a ≠ 189 → g' a = g a) ∧ g' 189 (10 + 560 * c + 92 * r + 25) = nI row ∧ (∀ f, f < 3 * row → g' 189 (10 + 560 * c + 92 * r + 26 + f) = g 189 (10 + 560 * c + 92 * r + 29 + f)) ∧ ∀ j, j ≠ 10 + 560 * c + 92 * r + 25 → (j < 10 + 560 * c + 92 * r + 26 ∨ 10 + 560 * c + 92 * r + 26 + 3 * row ≤ j) → g' 189 j = g 189 j) ?_ ?_ 0 _ _ (by omega) ⟨g, rfl, rfl, fun _ _ => rfl, fun f hf => by omega, fun _ _ => rfl⟩
  · rintro s0 ls h ⟨g', rfl, rfl, h1, h2, h3⟩
    have hin : (3 * row ≤ 3 * row) = True := eq_true (by omega)
    simp (disch := first | assumption | omega) only [KL, KB, KC, KI, KJ, KZ, bI_0, bI_n, nI00, nI10, ne_eq, Classical.not_not, not_true_eq_false, not_false_eq_true, if_true, if_false, ite_not, ite_self, Bool.false_eq_true, nIne1, kMask, mask, nI_sub, Nat.add_sub_cancel, nI_mul, nIle, hin, O_mo, m_set0]
    refine ⟨_, rfl, fun a ha => by rw [uN ha]; exact h1 a ha, uS, fun f hf => by rw [uO (by omega)]; exact h2 f hf, fun j hj hj2 => by rw [uO (by omega)]; exact h3 j hj2⟩
  · rintro s0 i hi ih ls h ⟨g', rfl, rfl, h1, h2, h3⟩
    have hin : (3 * row ≤ i) = False := eq_false (by omega)
    have hg := m_get g' m o c r (29 + i) (by omega)
    rw [show 10 + 560 * c + 92 * r + (29 + i) = 10 + 560 * c + 92 * r + 29 + i by omega, h3 _ (by omega)] at hg
    have hs := fun v => m_set0 g' m o c r (26 + i) v (by omega)
    simp (disch := first | assumption | omega) only [KL, KB, KC, KI, KJ, KZ, bI_0, bI_n, nI00, nI10, ne_eq, Classical.not_not, not_true_eq_false, not_false_eq_true, if_true, if_false, ite_not, ite_self, Bool.false_eq_true, nIne1, kMask, mask, nI_sub, Nat.add_sub_cancel, nI_mul, nIle, hin, O_mo, nI_add, hg, hs]
    rw [show 10 + 560 * c + 92 * r + (26 + i) = 10 + 560 * c + 92 * r + 26 + i by omega]
    refine ih _ _ ⟨_, rfl, rfl, fun a ha => by rw [uN ha]; exact h1 a ha, fun f hf => ?_, fun j hj => by rw [uO (by omega)]; exact h3 j (by omega)⟩
    by_cases q : f = i
    · subst q; exact uS
    · rw [uO (by omega)]; exact h2 f (by omega)
/-- the part of the picture that rows coming up change, model -/
def MVm (B n : Nat) (S : (Nat → Option ACart) × (Nat → List Goods)) (g : GG) : Prop := (∀ r, r < 6 → cartM g B r (S.1 r)) ∧ (∀ r, r < 6 → (S.2 r).length ≤ 20) ∧ MRo B S.2 g
theorem cartM.congr {g g' : GG} {B r : Nat} {c : Option ACart} (h : cartM g B r c) (h1 : ∀ t, 18 ≤ t → t ≤ 24 → g' 189 (B + 92 * r + t) = g 189 (B + 92 * r + t)) : cartM g' B r c := by
  cases c with
  | none => exact (h1 18 (by omega) (by omega)).trans h
  | some c =>
    obtain ⟨a0, a1, a2, a3, a4, a5, a6⟩ := h
    exact ⟨(h1 18 (by omega) (by omega)).trans a0, (h1 19 (by omega) (by omega)).trans a1, (h1 20 (by omega) (by omega)).trans a2, (h1 21 (by omega) (by omega)).trans a3, (h1 22 (by omega) (by omega)).trans a4, (h1 23 (by omega) (by omega)).trans a5, (h1 24 (by omega) (by omega)).trans a6⟩
theorem m_movesUp {n c tk : Nat} {T : (Nat → Option ACart) × (Nat → List Goods)} {g : GG} {m o : Nat} (hc : c < 6) (n6 : n ≤ 6) (r : Nat) (hr : r < n) (et : g 189 (10 + 560 * c + 553) = nI tk) (htk : tk < 1000000) (hT : MVm (10 + 560 * c) n T g) (hgo : ∀ z ∈ T.2 r, okGo n r z) : ∃ g', f_X11_movesUp [.ref 188, .int (nI c), .int (nI r)] (hp g m o) = some (none, hp g' m o) ∧ (∀ a, a ≠ 189 → g' a = g a) ∧ FR8 (10 + 560 * c) g g' ∧ MVm (10 + 560 * c) n (movR tk r T) g' ∧ g' 189 0 = g 189 0 ∧ (∀ i, (∀ q, q < 6 → i < 10 + 560 * c + 92 * q + 18 ∨ 10 + 560 * c + 92 * q + 86 ≤ i) → g' 189 i = g 189 i) := by
  obtain ⟨h1, h2, h3⟩ := hT
  have r6 : r < 6 := by omega
  have c1 := h1 r r6
  obtain ⟨e25, e26⟩ := h3 r r6
  have l20 := h2 r r6
  have eg := fun (f : Nat) (hf : f < 92) => m_get g m o c r f (by omega)
  have g25 := eg 25 (by omega)
  rw [e25] at g25
  have g18 := eg 18 (by omega)
  cases hT1 : T.1 r with
  | some a =>
    rw [hT1] at c1
    rw [c1.1] at g18
    refine ⟨g, ?_, fun _ _ => rfl, FR8.rfl', by rw [movR_some hT1]; exact ⟨h1, h2, h3⟩, rfl, fun _ _ => rfl⟩
    simp (disch := first | assumption | omega) only [f_X11_movesUp, kb_X11_movesUp_25, kb_X11_movesUp_0, KL, KB, KC, KI, KJ, KZ, bI_0, bI_n, nI00, nI10, ne_eq, Classical.not_not, not_true_eq_false, not_false_eq_true, if_true, if_false, ite_not, ite_self, Bool.false_eq_true, nIne1, O_mo, g25, g18, eq_self]
  | none =>
    rw [hT1] at c1
    have c1' : g 189 (10 + 560 * c + 92 * r + 18) = nI 0 := c1
    rw [c1'] at g18
    have z01 : (nI 0 = nI 1) = False := eq_false (by decide)
    cases hT2 : T.2 r with
    | nil =>
      rw [hT2] at g25
      have g25' : f_X11_get [.ref 188, .int (nI c), .int (nI r), .int (nI 25)] (hp g m o) = some (some (.int (nI 0)), hp g m o) := g25
      refine ⟨g, ?_, fun _ _ => rfl, FR8.rfl', by rw [movR_nil hT2]; exact ⟨h1, h2, h3⟩, rfl, fun _ _ => rfl⟩
      simp (disch := first | assumption | omega) only [f_X11_movesUp, kb_X11_movesUp_25, kb_X11_movesUp_0, KL, KB, KC, KI, KJ, KZ, bI_0, bI_n, nI00, nI10, ne_eq, Classical.not_not, not_true_eq_false, not_false_eq_true, if_true, if_false, ite_not, ite_self, Bool.false_eq_true, nIne1, O_mo, g25', g18, z01]
    | cons z l =>
      rw [hT2] at g25 e26 l20 e25
      rw [List.length_cons] at g25 l20 e25
      have hne : (nI (l.length + 1) = 0) = False := by rw [nIk0 (by omega)]; exact eq_false (by omega)
      obtain ⟨w0, w1, w2⟩ := e26 0 z rfl
      rw [Nat.mul_zero, Nat.add_zero] at w0 w1 w2
      have g26 := eg 26 (by omega)
      have g27 := eg 27 (by omega)
      have g28 := eg 28 (by omega)
      rw [w0] at g26
      rw [show 10 + 560 * c + 92 * r + 27 = 10 + 560 * c + 92 * r + 26 + 1 by omega, w1] at g27
      rw [show 10 + 560 * c + 92 * r + 28 = 10 + 560 * c + 92 * r + 26 + 2 by omega, w2] at g28
      have gt := m_own g m o c 553 (by omega)
      rw [et] at gt
      have h100 : (nI 100 = 0) = False := eq_false (by decide)
      have est := m_stands g m o c r z (nI (tk % 100)) (nI 0) hc r6
      obtain ⟨g', e, p1, p2, p3, p4⟩ := m_moves71 (stdM g (10 + 560 * c + 92 * r) z (nI (tk % 100)) (nI 0)) m o c r l.length hc r6 (by omega)
      have far : ∀ i, (i < 10 + 560 * c + 92 * r + 18 ∨ 10 + 560 * c + 92 * r + 86 ≤ i) → g' 189 i = g 189 i := fun i hi => by rw [p4 i (by omega) (by omega), stdM_at (by omega)]
      have far2 : ∀ q t, q < 6 → q ≠ r → t < 92 → g' 189 (10 + 560 * c + 92 * q + t) = g 189 (10 + 560 * c + 92 * q + t) := fun q t hq hne ht => far _ (by omega)
      refine ⟨g', ?_, fun a ha => by rw [p1 a ha, stdM_ne ha], ⟨fun i h0 hi => far i (by omega), fun q t hq ht ht2 => ?_, far _ (by omega)⟩, ?_, far _ (by omega), fun i hi => far i (hi r r6)⟩
      · have kc : ∀ (k : KK) (ls : List Value) (h : HP) (v0 v1 v2 v3 v4 v5 v6 v7 v8 : Value), kCall 3 f_X11_own k ls [v0, v1, v2, v3, v4, v5, v6, v7, v8] h = cont (f_X11_own [v2, v1, v0] h) k ls [v3, v4, v5, v6, v7, v8] := fun k ls h v0 v1 v2 v3 v4 v5 v6 v7 v8 => by
          unfold kCall
          rw [if_neg (by simp)]
          rfl
        simp (disch := first | assumption | omega) only [f_X11_movesUp, kb_X11_movesUp_25, kb_X11_movesUp_0, KL, KB, KC, KI, KJ, KZ, bI_0, bI_n, nI00, nI10, ne_eq, Classical.not_not, not_true_eq_false, not_false_eq_true, if_true, if_false, ite_not, ite_self, Bool.false_eq_true, nIne1, O_mo, g25, g18, z01, hne, g26, g27, g28, kc, gt, h100, nI_div, nI_rem2, est, e]
      · by_cases q1 : q = r
        · subst q1; exact far _ (by omega)
        · exact far2 q t hq q1 ht2
      · rw [movR_go hT1 hT2]
        refine ⟨fun q hq => ?_, fun q hq => ?_, fun q hq => ?_⟩
        · simp only []
          by_cases q1 : q = r
          · subst q1
            rw [if_pos rfl]
            have s : ∀ t, 18 ≤ t → t ≤ 24 → g' 189 (10 + 560 * c + 92 * q + t) = stdM g (10 + 560 * c + 92 * q) z (nI (tk % 100)) (nI 0) 189 (10 + 560 * c + 92 * q + t) := fun t a b => p4 _ (by omega) (by omega)
            refine ⟨?_, ?_, ?_, ?_, ?_, ?_, ?_⟩
            · rw [s 18 (by omega) (by omega)]; unfold stdM; simp (disch := omega) only [upd2_other, upd2_same]
            · rw [s 19 (by omega) (by omega)]; unfold stdM; simp (disch := omega) only [upd2_other, upd2_same]
            · rw [s 20 (by omega) (by omega)]; unfold stdM; simp (disch := omega) only [upd2_other, upd2_same]
            · rw [s 21 (by omega) (by omega)]; unfold stdM; simp (disch := omega) only [upd2_other, upd2_same]
            · rw [s 22 (by omega) (by omega)]; unfold stdM; simp (disch := omega) only [upd2_other, upd2_same]
            · rw [s 23 (by omega) (by omega)]; unfold stdM; simp (disch := omega) only [upd2_other, upd2_same]
            · rw [s 24 (by omega) (by omega)]; unfold stdM; simp (disch := omega) only [upd2_other, upd2_same]
          · rw [if_neg q1]
            exact (h1 q hq).congr (fun t a b => far2 q t hq q1 (by omega))
        · simp only []
          by_cases q1 : q = r
          · rw [if_pos q1]; omega
          · rw [if_neg q1]; exact h2 q hq
        · simp only []
          by_cases q1 : q = r
          · subst q1
            rw [if_pos rfl]
            refine ⟨p2, fun i y hy => ?_⟩
            have hi := (List.getElem?_eq_some_iff.mp hy).1
            obtain ⟨y0, y1, y2⟩ := e26 (i + 1) y (by rw [List.getElem?_cons_succ]; exact hy)
            have f0 := p3 (3 * i) (by omega)
            have f1 := p3 (3 * i + 1) (by omega)
            have f2 := p3 (3 * i + 2) (by omega)
            rw [stdM_at (by omega), show 10 + 560 * c + 92 * q + 29 + 3 * i = 10 + 560 * c + 92 * q + 26 + 3 * (i + 1) by omega, y0] at f0
            rw [stdM_at (by omega), show 10 + 560 * c + 92 * q + 29 + (3 * i + 1) = 10 + 560 * c + 92 * q + 26 + 3 * (i + 1) + 1 by omega, y1, show 10 + 560 * c + 92 * q + 26 + (3 * i + 1) = 10 + 560 * c + 92 * q + 26 + 3 * i + 1 by omega] at f1
            rw [stdM_at (by omega), show 10 + 560 * c + 92 * q + 29 + (3 * i + 2) = 10 + 560 * c + 92 * q + 26 + 3 * (i + 1) + 2 by omega, y2, show 10 + 560 * c + 92 * q + 26 + (3 * i + 2) = 10 + 560 * c + 92 * q + 26 + 3 * i + 2 by omega] at f2
            exact ⟨f0, f1, f2⟩
          · rw [if_neg q1]
            exact MRo.at' (ro := T.2) (h3 q hq) (h2 q hq) (fun t a b => far2 q t hq q1 (by omega))
theorem m_adds (g : GG) (m o c f v : Nat) (h : 10 + 560 * c + f < 6870) (e : g 189 (10 + 560 * c + f) = nI v) : f_X11_adds [.ref 188, .int (nI c), .int (nI f)] (hp g m o) = some (none, hp (upd2 g 189 (10 + 560 * c + f) (nI (v + 1))) m o) := by
  have h' : 10 + 560 * c + f < 6870 := h
  simp (disch := first | assumption | omega) only [f_X11_adds, kb_X11_adds_0, KL, KB, KC, KI, KJ, KZ, bI_0, bI_n, nI00, nI10, ne_eq, Classical.not_not, not_true_eq_false, not_false_eq_true, if_true, if_false, ite_not, ite_self, Bool.false_eq_true, nIne1, O_mo, AR, nI_mul, nI_add, e]
/-- the model's laid-out roads as a picture for who waits -/
theorem MK.msn {n c b : Nat} {co : Nat → List Goods} {fa : FA} {U : Nat → ARule} {K : Nat → Nat} {ca : Nat → Option ACart} {g : GG} {m o : Nat} (hc : c < 6) (h : MK (10 + 560 * c) n co fa U K g) (n6 : n ≤ 6) (hb : b < 1000000) (hca : ∀ r, r < 6 → cartM g (10 + 560 * c) r (ca r)) (hB : ∀ r, r < 6 → ∀ c, ca r = some c → r < n ∧ okGo n r c.1 ∧ c.2.1 ≤ 99 ∧ c.2.2.1 ≤ 2 ∧ c.2.2.2 ≤ b) (h33 : g 188 33 = -1) (h34 : g 188 34 = -1) (h35 : g 188 35 = nI 0) : ∃ g2, f_X11_laysOut [.ref 188, .int (nI c)] (hp g m o) = some (none, hp g2 m o) ∧ (∀ a, a ≠ 188 → (a < 196 ∨ 207 < a) → g2 a = g a) ∧ (∀ i, i ≠ 20 → g2 188 i = g 188 i) ∧ ML n (stS n ca) g2 ∧ MSn n (stS n ca) (stC ca) (fun r => nI (fa 0 r)) (fun r => nI (fa 1 r)) (fun r => nI (fa 2 r)) (fun r => K (fa 3 r)) (fun r => U (K (fa 3 r))) 0 g2 := by
  obtain ⟨a1, a2, a3, a4, a5⟩ := h
  have hbit : ∀ r, r < n → (stS n ca).testBit r = (ca r).isSome := fun r hr => by unfold stS; rw [setN_bit, decide_eq_true hr, Bool.true_and]
  obtain ⟨g2, e2, p1, p2, p3, p4, p5⟩ := m_laysOut g m o c n hc a1 n6
  have hbb : ∀ r, r < n → g 189 (10 + 560 * c + 92 * r + 18) = bW ((ca r).isSome) := fun r hr => by
    have hc' := hca r (by omega)
    cases e : ca r with
    | none => rw [e] at hc'; exact hc'
    | some a => rw [e] at hc'; exact hc'.1
  have z8 : g2 189 = g 189 := p1 189 (by omega) (by omega)
  refine ⟨g2, e2, p1, p2, ⟨p3, fun r hr => ?_⟩, p3, fun r hr hs => ?_, fun r hr => ⟨?_, ?_, ?_⟩, by rw [p2 35 (by omega)]; exact h35, by rw [p2 33 (by omega)]; exact h33, fun r hr => ?_⟩
  · rw [p5 r hr, hbit r hr, hbb r hr]
    cases (ca r).isSome with
    | true => exact if_pos rfl
    | false => exact if_neg (by decide)
  · rw [hbit r hr] at hs
    obtain ⟨a, e⟩ := Option.isSome_iff_exists.mp hs
    have hc' := hca r (by omega)
    obtain ⟨b1, b2, b3, b4, b5⟩ := hB r (by omega) a e
    rw [e] at hc'
    obtain ⟨c0, c1, c2, c3, c4, c5, c6⟩ := hc'
    unfold stC
    rw [e]
    exact ⟨b2, b3, b4, by show a.2.2.2 < 1000000; omega, by rw [p4 200 (by omega) (by omega) r hr]; exact c1, by rw [p4 201 (by omega) (by omega) r hr]; exact c2, by rw [p4 202 (by omega) (by omega) r hr]; exact c3, by rw [p4 203 (by omega) (by omega) r hr]; exact c4, by rw [p4 204 (by omega) (by omega) r hr]; exact c5, fun _ => by rw [p4 205 (by omega) (by omega) r hr]; exact c6⟩
  · rw [p4 196 (by omega) (by omega) r hr]; exact (a2 0 (by omega) r (by omega)).2
  · rw [p4 197 (by omega) (by omega) r hr]; exact (a2 1 (by omega) r (by omega)).2
  · rw [p4 198 (by omega) (by omega) r hr]; exact (a2 2 (by omega) r (by omega)).2
  · have h3 := a2 3 (by omega) r (by omega)
    have hm : mostN 3 = 1 := rfl
    rw [hm] at h3
    obtain ⟨k1, k2⟩ := a5 (fa 3 r) (by omega)
    refine ⟨k1, (a4 _ k1).1, (a4 _ k1).2.congr (a4 _ k1).1 k1 (fun i _ _ => by rw [z8]), Or.inl ⟨by rw [p2 34 (by omega)]; exact h34, fa 3 r, by omega, ?_, by rw [z8]; exact k2⟩⟩
    rw [p4 199 (by omega) (by omega) r hr]
    exact h3.2
