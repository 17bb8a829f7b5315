-- ===== the model's circle =====
theorem m_leastW {n s : Nat} {W : Nat → Nat → Bool} {g : GG} {m o : Nat} (hL : ML n s g) (n6 : n ≤ 6) (hW : MW n s W g m o) (x : Nat) (hx : x < n) (hxs : s.testBit x = true) (g' : GG) (hg : SM g g') : ∃ g2, f_X11_leastWaited [.ref 188, .int (nI x)] (hp g' m o) = some (some (.int (firstJ (awP s W x) n 0)), hp g2 m o) ∧ SM g g2 := by
  simp (disch := first | assumption | omega) only [f_X11_leastWaited, kb_X11_leastWaited_35, kb_X11_leastWaited_0, KL, KB, KC, KI, KJ, KZ, bI_0, bI_n, nI00, nI10, ne_eq, Classical.not_not, not_true_eq_false, not_false_eq_true, if_true, if_false, ite_not, ite_self, Bool.false_eq_true, nIne1]
  unfold kl_X11_leastWaited_2
  refine kFor n (by unfold FU; omega) (fun i ls h => ∃ g3, ls = [.ref 188, .int (nI x), .int (nI i)] ∧ h = hp g3 m o ∧ SM g g3 ∧ firstJ (awP s W x) n 0 = firstJ (awP s W x) (n - i) i) (fun r => ∃ g2, r = some (some (.int (firstJ (awP s W x) n 0)), hp g2 m o) ∧ SM g g2) ?_ ?_ 0 _ _ (by omega) ⟨g', rfl, rfl, hg, rfl⟩
  · rintro s0 ls h ⟨g3, rfl, rfl, h1, h2⟩
    have e := (hL.sm h1).1
    have hin : (n ≤ n) = True := eq_true (by omega)
    simp (disch := first | assumption | omega) only [KL, KB, KC, KI, KJ, KZ, bI_0, bI_n, nI00, nI10, ne_eq, Classical.not_not, not_true_eq_false, not_false_eq_true, if_true, if_false, ite_not, ite_self, Bool.false_eq_true, nIne1, kMask, mask, O_mo, e, nIle, hin]
    refine ⟨g3, ?_, h1⟩
    rw [h2, Nat.sub_self]; rfl
  · rintro s0 i hi ih ls h ⟨g3, rfl, rfl, h1, h2⟩
    have e := (hL.sm h1).1
    have ei := (hL.sm h1).2 i hi
    have hin : (n ≤ i) = False := eq_false (by omega)
    rw [show n - i = (n - (i + 1)) + 1 by omega] at h2
    by_cases q : i = x
    · have hp0 : awP s W x i = false := by unfold awP; rw [decide_eq_false (fun e => e q), Bool.false_and, Bool.false_and]
      have hq : (i = x) = True := eq_true q
      simp (disch := first | assumption | omega) only [f_X11_leastWaited, kb_X11_leastWaited_35, kb_X11_leastWaited_0, KL, KB, KC, KI, KJ, KZ, bI_0, bI_n, nI00, nI10, ne_eq, Classical.not_not, not_true_eq_false, not_false_eq_true, if_true, if_false, ite_not, ite_self, Bool.false_eq_true, nIne1, kMask, mask, O_mo, e, nIle, hin, nIeq, hq, nI_add]
      exact ih _ _ ⟨g3, rfl, rfl, h1, h2.trans (firstJ_f hp0)⟩
    · have hq : (i = x) = False := eq_false q
      by_cases t : s.testBit i = true
      · obtain ⟨g4, e4, p4⟩ := hW g3 h1 x i hx hi (Ne.symm q) hxs t
        have hp0 : awP s W x i = W x i := by unfold awP; rw [decide_eq_true q, t, Bool.true_and, Bool.true_and]
        rw [t, bW_t] at ei
        cases w : W x i with
        | true =>
          rw [w] at e4
          simp (disch := first | assumption | omega) only [f_X11_leastWaited, kb_X11_leastWaited_35, kb_X11_leastWaited_0, KL, KB, KC, KI, KJ, KZ, bI_0, bI_n, nI00, nI10, ne_eq, Classical.not_not, not_true_eq_false, not_false_eq_true, if_true, if_false, ite_not, ite_self, Bool.false_eq_true, nIne1, kMask, mask, O_mo, AR, e, ei, nIle, hin, nIeq, hq, e4, bW_t]
          exact ⟨g4, by rw [h2.trans (firstJ_t (by rw [hp0]; exact w))], h1.tr p4⟩
        | false =>
          rw [w] at e4
          simp (disch := first | assumption | omega) only [f_X11_leastWaited, kb_X11_leastWaited_35, kb_X11_leastWaited_0, KL, KB, KC, KI, KJ, KZ, bI_0, bI_n, nI00, nI10, ne_eq, Classical.not_not, not_true_eq_false, not_false_eq_true, if_true, if_false, ite_not, ite_self, Bool.false_eq_true, nIne1, kMask, mask, O_mo, AR, e, ei, nIle, hin, nIeq, hq, e4, bW_f, nI_add]
          exact ih _ _ ⟨g4, rfl, rfl, h1.tr p4, h2.trans (firstJ_f (by rw [hp0]; exact w))⟩
      · have hp0 : awP s W x i = false := by unfold awP; rw [Bool.eq_false_iff.mpr t, Bool.and_false, Bool.false_and]
        rw [Bool.eq_false_iff.mpr t, bW_f] at ei
        simp (disch := first | assumption | omega) only [f_X11_leastWaited, kb_X11_leastWaited_35, kb_X11_leastWaited_0, KL, KB, KC, KI, KJ, KZ, bI_0, bI_n, nI00, nI10, ne_eq, Classical.not_not, not_true_eq_false, not_false_eq_true, if_true, if_false, ite_not, ite_self, Bool.false_eq_true, nIne1, kMask, mask, O_mo, AR, e, ei, nIle, hin, nIeq, hq, nI_add]
        exact ih _ _ ⟨g3, rfl, rfl, h1, h2.trans (firstJ_f hp0)⟩
/-- the answer from where the walk closes -/
def cirV (w : Int32) (R : Option Nat × List Nat) : Int32 := match R.1 with
  | none => if w = 0 then nI 0 else -1
  | some b => if w = 0 then nI (R.2.length - b) else if w.toInt.toNat - 10 < R.2.length - b then nI (R.2.getD (b + (w.toInt.toNat - 10)) 0) else -1
/-- phase two: the walk is done -/
theorem m_cir171 (g : GG) (m o k : Nat) (hk : k = 0 ∨ 10 ≤ k ∧ k ≤ 15) (p : List Nat) (hl : p.length ≤ 6) (ob : Option Nat) (hb : ∀ b, ob = some b → b < p.length) (h217 : ∀ (t y : Nat), p[t]? = some y → g 208 t = nI y) (v1 v3 : Value) (u : List Value) : kb_X11_circle_171 ([.ref 188, v1, .int (nI k), v3, .int (nI p.length), .int (jI ob)] ++ u) [] (hp g m o) = some (some (.int (cirV (nI k) (ob, p))), hp g m o) := by
  have hkz : (nI k = 0) = (k = 0) := nIk0 (by omega)
  have hkt : (nI k).toInt.toNat = k := by rw [nI_toInt (by omega)]; rfl
  cases ob with
  | none =>
    have hj : jI none = -1 := rfl
    rcases hk with rfl | hk
    · cases u with
      | nil =>
        simp (disch := first | assumption | omega) only [kb_X11_circle_222, kb_X11_circle_186, kb_X11_circle_171, KL, KB, KC, KI, KJ, KZ, bI_0, bI_n, nI00, nI10, ne_eq, Classical.not_not, not_true_eq_false, not_false_eq_true, if_true, if_false, ite_not, ite_self, Bool.false_eq_true, nIne1, List.cons_append, List.nil_append, hj, eq_self]
        rfl
      | cons u0 u =>
        simp (disch := first | assumption | omega) only [kb_X11_circle_222, kb_X11_circle_186, kb_X11_circle_171, KL, KB, KC, KI, KJ, KZ, bI_0, bI_n, nI00, nI10, ne_eq, Classical.not_not, not_true_eq_false, not_false_eq_true, if_true, if_false, ite_not, ite_self, Bool.false_eq_true, nIne1, List.cons_append, List.nil_append, hj, eq_self]
        rfl
    · have hk0 : (k = 0) = False := eq_false (by omega)
      have hle : (0 ≤ k - 10) = True := eq_true (by omega)
      have hv : cirV (nI k) (none, p) = -1 := by unfold cirV; simp only [hkz, hk0, if_false]
      rw [hv]
      cases u with
      | nil => simp (disch := first | assumption | omega) only [kb_X11_circle_222, kb_X11_circle_186, kb_X11_circle_171, KL, KB, KC, KI, KJ, KZ, bI_0, bI_n, nI00, nI10, ne_eq, Classical.not_not, not_true_eq_false, not_false_eq_true, if_true, if_false, ite_not, ite_self, Bool.false_eq_true, nIne1, List.cons_append, List.nil_append, hj, eq_self, hkz, hk0, nI_sub, nIle, hle]
      | cons u0 u => simp (disch := first | assumption | omega) only [kb_X11_circle_222, kb_X11_circle_186, kb_X11_circle_171, KL, KB, KC, KI, KJ, KZ, bI_0, bI_n, nI00, nI10, ne_eq, Classical.not_not, not_true_eq_false, not_false_eq_true, if_true, if_false, ite_not, ite_self, Bool.false_eq_true, nIne1, List.cons_append, List.nil_append, hj, eq_self, hkz, hk0, nI_sub, nIle, hle]
  | some b =>
    have hb' := hb b rfl
    have hj : jI (some b) = nI b := rfl
    rcases hk with rfl | hk
    · have hv : cirV (nI 0) (some b, p) = nI (p.length - b) := by unfold cirV; simp only [nI00, if_true]
      rw [hv]
      cases u with
      | nil => simp (disch := first | assumption | omega) only [kb_X11_circle_222, kb_X11_circle_186, kb_X11_circle_171, KL, KB, KC, KI, KJ, KZ, bI_0, bI_n, nI00, nI10, ne_eq, Classical.not_not, not_true_eq_false, not_false_eq_true, if_true, if_false, ite_not, ite_self, Bool.false_eq_true, nIne1, List.cons_append, List.nil_append, hj, nIne1, nI_sub]
      | cons u0 u => simp (disch := first | assumption | omega) only [kb_X11_circle_222, kb_X11_circle_186, kb_X11_circle_171, KL, KB, KC, KI, KJ, KZ, bI_0, bI_n, nI00, nI10, ne_eq, Classical.not_not, not_true_eq_false, not_false_eq_true, if_true, if_false, ite_not, ite_self, Bool.false_eq_true, nIne1, List.cons_append, List.nil_append, hj, nIne1, nI_sub]
    · have hk0 : (k = 0) = False := eq_false (by omega)
      by_cases q : k - 10 < p.length - b
      · have hle : (p.length - b ≤ k - 10) = False := eq_false (by omega)
        have hix : b + k - 10 < p.length := by omega
        have hin : b + k - 10 < 7 := by omega
        have hz : p[b + k - 10]? = some (p[b + k - 10]) := List.getElem?_eq_getElem hix
        have ez := h217 _ _ hz
        have hv : cirV (nI k) (some b, p) = nI (p[b + k - 10]) := by
          unfold cirV
          simp only [hkz, hk0, if_false, hkt, q, if_true]
          rw [show b + (k - 10) = b + k - 10 by omega, List.getD_eq_getElem?_getD, hz]
          rfl
        rw [hv]
        cases u with
        | nil => simp (disch := first | assumption | omega) only [kb_X11_circle_222, kb_X11_circle_186, kb_X11_circle_171, KL, KB, KC, KI, KJ, KZ, bI_0, bI_n, nI00, nI10, ne_eq, Classical.not_not, not_true_eq_false, not_false_eq_true, if_true, if_false, ite_not, ite_self, Bool.false_eq_true, nIne1, List.cons_append, List.nil_append, hj, nIne1, hkz, hk0, nI_sub, nIle, hle, O_mo, AR, nI_add, ez]
        | cons u0 u => simp (disch := first | assumption | omega) only [kb_X11_circle_222, kb_X11_circle_186, kb_X11_circle_171, KL, KB, KC, KI, KJ, KZ, bI_0, bI_n, nI00, nI10, ne_eq, Classical.not_not, not_true_eq_false, not_false_eq_true, if_true, if_false, ite_not, ite_self, Bool.false_eq_true, nIne1, List.cons_append, List.nil_append, hj, nIne1, hkz, hk0, nI_sub, nIle, hle, O_mo, AR, nI_add, ez]
      · have hle : (p.length - b ≤ k - 10) = True := eq_true (by omega)
        have hv : cirV (nI k) (some b, p) = -1 := by
          unfold cirV
          simp only [hkz, hk0, if_false, hkt, q]
        rw [hv]
        cases u with
        | nil => simp (disch := first | assumption | omega) only [kb_X11_circle_222, kb_X11_circle_186, kb_X11_circle_171, KL, KB, KC, KI, KJ, KZ, bI_0, bI_n, nI00, nI10, ne_eq, Classical.not_not, not_true_eq_false, not_false_eq_true, if_true, if_false, ite_not, ite_self, Bool.false_eq_true, nIne1, List.cons_append, List.nil_append, hj, nIne1, hkz, hk0, nI_sub, nIle, hle]
        | cons u0 u => simp (disch := first | assumption | omega) only [kb_X11_circle_222, kb_X11_circle_186, kb_X11_circle_171, KL, KB, KC, KI, KJ, KZ, bI_0, bI_n, nI00, nI10, ne_eq, Classical.not_not, not_true_eq_false, not_false_eq_true, if_true, if_false, ite_not, ite_self, Bool.false_eq_true, nIne1, List.cons_append, List.nil_append, hj, nIne1, hkz, hk0, nI_sub, nIle, hle]
theorem m_cir90 (s68 : KK) (g : GG) (m o : Nat) (p : List Nat) (y : Nat) (hp' : p.Nodup) (hl : p.length ≤ 6) (hy6 : y < 6) (hall : ∀ z ∈ p, z < 6) (h217 : ∀ (t z : Nat), p[t]? = some z → g 208 t = nI z) (w : Value) (Q : RS → Prop) (hQ : ∀ u, Q (kb_X11_circle_128 s68 ([.ref 188, .long 0, w, .int (nI y), .int (nI p.length), .int (jI (if y ∈ p then some (p.idxOf y) else none))] ++ u) [] (hp g m o))) (u : List Value) : Q (kl_X11_circle_90 s68 ([.ref 188, .long 0, w, .int (nI y), .int (nI p.length), .int (-1), .int (nI 0)] ++ u) [] (hp g m o)) := by
  unfold kl_X11_circle_90
  refine kFor p.length (by unfold FU; omega) (fun i ls h => ∃ u, ls = [.ref 188, .long 0, w, .int (nI y), .int (nI p.length), .int (jI (if p.idxOf y < i then some (p.idxOf y) else none)), .int (nI i)] ++ u ∧ h = hp g m o ∧ (p.idxOf y < i → y ∈ p)) Q ?_ ?_ 0 _ _ (by omega) ⟨u, rfl, rfl, fun h => by omega⟩
  · rintro s0 ls h ⟨u, rfl, rfl, h1⟩
    have hin : (p.length ≤ p.length) = True := eq_true (by omega)
    have hc : (if p.idxOf y < p.length then some (p.idxOf y) else none) = (if y ∈ p then some (p.idxOf y) else none) := by
      by_cases q : y ∈ p
      · rw [if_pos q, if_pos (List.idxOf_lt_length_of_mem q)]
      · rw [if_neg q, if_neg (fun e => q (h1 e))]
    have := hQ [.int (nI p.length)]
    rw [hc]
    simp (disch := first | assumption | omega) only [List.cons_append, List.nil_append] at this
    simp (disch := first | assumption | omega) only [KL, KB, KC, KI, KJ, KZ, bI_0, bI_n, nI00, nI10, ne_eq, Classical.not_not, not_true_eq_false, not_false_eq_true, if_true, if_false, ite_not, ite_self, Bool.false_eq_true, nIne1, List.cons_append, List.nil_append, kMask, mask, nIle, hin]
    exact this
  · rintro s0 i hi ih ls h ⟨u, rfl, rfl, h1⟩
    have hin : (p.length ≤ i) = False := eq_false (by omega)
    obtain ⟨z, hz⟩ : ∃ z, p[i]? = some z := ⟨p[i], List.getElem?_eq_getElem hi⟩
    have ez := h217 i z hz
    have hz6 := hall z (List.mem_of_getElem? hz)
    have i7 : i < 7 := by omega
    by_cases q : p.idxOf y < i
    · -- found already: the loop ends
      have hm := h1 q
      rw [if_pos q]
      have := hQ [.int (nI i)]
      rw [if_pos hm] at this
      have hne : (jI (some (p.idxOf y)) = -1) = False := nIne1 (by omega)
      simp (disch := first | assumption | omega) only [List.cons_append, List.nil_append] at this
      simp (disch := first | assumption | omega) only [KL, KB, KC, KI, KJ, KZ, bI_0, bI_n, nI00, nI10, ne_eq, Classical.not_not, not_true_eq_false, not_false_eq_true, if_true, if_false, ite_not, ite_self, Bool.false_eq_true, nIne1, List.cons_append, List.nil_append, kMask, mask, nIle, hin, hne]
      exact this
    · rw [if_neg q]
      have hj : jI none = -1 := rfl
      by_cases e : z = y
      · subst e
        have hidx := idx_unique hp' hz
        have hq : (z = z) = True := eq_true rfl
        simp (disch := first | assumption | omega) only [kb_X11_circle_120, KL, KB, KC, KI, KJ, KZ, bI_0, bI_n, nI00, nI10, ne_eq, Classical.not_not, not_true_eq_false, not_false_eq_true, if_true, if_false, ite_not, ite_self, Bool.false_eq_true, nIne1, List.cons_append, List.nil_append, kMask, mask, nIle, hin, hj, eq_self, O_mo, AR, ez, nIeq, nI_add]
        refine ih _ _ ⟨[], ?_, rfl, fun _ => List.mem_of_getElem? hz⟩
        rw [if_pos (by omega), hidx]
        rfl
      · have hq : (z = y) = False := eq_false e
        have hne : ¬ p.idxOf y < i + 1 := by
          intro c
          have hc : p.idxOf y = i := by omega
          have hlt : p.idxOf y < p.length := by omega
          have := List.getElem_idxOf hlt
          rw [List.getElem?_eq_getElem hi] at hz
          simp only [hc] at this
          rw [this] at hz
          cases hz
          exact e rfl
        simp (disch := first | assumption | omega) only [kb_X11_circle_120, KL, KB, KC, KI, KJ, KZ, bI_0, bI_n, nI00, nI10, ne_eq, Classical.not_not, not_true_eq_false, not_false_eq_true, if_true, if_false, ite_not, ite_self, Bool.false_eq_true, nIne1, List.cons_append, List.nil_append, kMask, mask, nIle, hin, hj, eq_self, O_mo, AR, ez, nIeq, hq, nI_add]
        refine ih _ _ ⟨[], ?_, rfl, fun c => absurd c hne⟩
        rw [if_neg hne]
        rfl
theorem m_cir68 {n s k : Nat} {ct : Nat → ACart} {sz sl sg : FN} {kx : Nat → Nat} {rx : Nat → ARule} {g : GG} {m o : Nat} (h : MSn n s ct sz sl sg kx rx 0 g) (hL : ML n s g) (n3 : 3 ≤ n) (n6 : n ≤ 6) (hk : k = 0 ∨ 10 ≤ k ∧ k ≤ 15) (x0 : Option Nat) (hx0 : ∀ y, x0 = some y → y < n ∧ s.testBit y = true) (xv : Int32) (hxv : (∀ y, x0 = some y → xv = nI y) ∧ (x0 = none → xv = nI n)) (v : Value) : ∃ g', kl_X11_circle_68 [.ref 188, v, .int (nI k), .int xv, .int (nI 0), .int (-1)] [] (hp g m o) = some (some (.int (cirV (nI k) (circ (nxO n s (wV n ct sz sl sg rx 0)) 7 [] x0))), hp g' m o) ∧ ∀ a, a ≠ 194 → a ≠ 195 → a ≠ 208 → g' a = g a := by
  generalize hW : wV n ct sz sl sg rx 0 = W
  unfold kl_X11_circle_68
  refine kFix_rule (fun k' ls st h' => st = [] ∧ ∃ (g' : GG) (p : List Nat) (v : Value) (u : List Value), h' = hp g' m o ∧ (∀ a, a ≠ 194 → a ≠ 195 → a ≠ 208 → g' a = g a) ∧ p.Nodup ∧ (∀ y ∈ p, y < n) ∧ (∀ (t y : Nat), p[t]? = some y → g' 208 t = nI y) ∧ ((∃ (x : Option Nat) (xv : Int32), ls = [.ref 188, v, .int (nI k), .int xv, .int (nI p.length), .int (-1)] ++ u ∧ k' + p.length = 7 ∧ (∀ y, x = some y → y < n ∧ s.testBit y = true) ∧ (∀ y, x = some y → xv = nI y) ∧ (x = none → xv = -1 ∨ xv = nI n) ∧ circ (nxO n s W) 7 [] x0 = circ (nxO n s W) k' p x) ∨ (∃ y b, ls = [.ref 188, v, .int (nI k), .int (nI y), .int (nI p.length), .int (nI b)] ++ u ∧ y < n ∧ b < p.length ∧ circ (nxO n s W) 7 [] x0 = (some b, p)))) (fun r => ∃ g', r = some (some (.int (cirV (nI k) (circ (nxO n s W) 7 [] x0))), hp g' m o) ∧ ∀ a, a ≠ 194 → a ≠ 195 → a ≠ 208 → g' a = g a) ?_ FU 7 (by decide) _ _ _ ⟨rfl, g, [], v, [], rfl, fun _ _ _ _ => rfl, List.nodup_nil, fun y hy => (by cases hy), fun t y h => (by cases h), Or.inl ⟨x0, xv, rfl, rfl, hx0, hxv.1, fun h => Or.inr (hxv.2 h), rfl⟩⟩
  rintro s0 k' ih ls st h' ⟨rfl, g', p, v, u, rfl, h1, h2, h3, h4, hph⟩
  have hl : p.length ≤ 6 := Nat.le_trans (nodup_len h2 h3) n6
  have en : g' 188 20 = nI n := by rw [h1 188 (by omega) (by omega) (by omega)]; exact hL.1
  rcases hph with ⟨x, xv, rfl, hk', hx, hxs, hxn, hR⟩ | ⟨y, b, rfl, hy, hb, hR⟩
  · cases x with
    | none =>
      have h171 := m_cir171 g' m o k hk p hl none (fun b hb => by cases hb) h4 (.long 0) (.int xv) []
      have hj : jI none = -1 := rfl
      rw [hj] at h171
      obtain ⟨k'', rfl⟩ : ∃ k'', k' = k'' + 1 := ⟨k' - 1, by omega⟩
      have hR' : circ (nxO n s W) 7 [] x0 = (none, p) := hR
      refine ⟨g', ?_, h1⟩
      rw [hR', ← h171]
      rcases hxn rfl with rfl | rfl
      · have hle : (nI n ≤ -1) = False := eq_false (fun q => by
          rw [Int32.le_iff_toInt_le, nI_toInt (by omega)] at q
          have : (-1 : Int32).toInt = -1 := rfl
          omega)
        simp (disch := first | assumption | omega) only [KL, KB, KC, KI, KJ, KZ, bI_0, bI_n, nI00, nI10, ne_eq, Classical.not_not, not_true_eq_false, not_false_eq_true, if_true, if_false, ite_not, ite_self, Bool.false_eq_true, nIne1, List.cons_append, List.nil_append, kMask, mask, O_mo, en, hle, eq_self]
      · have hle : (n ≤ n) = True := eq_true (by omega)
        simp (disch := first | assumption | omega) only [KL, KB, KC, KI, KJ, KZ, bI_0, bI_n, nI00, nI10, ne_eq, Classical.not_not, not_true_eq_false, not_false_eq_true, if_true, if_false, ite_not, ite_self, Bool.false_eq_true, nIne1, List.cons_append, List.nil_append, kMask, mask, O_mo, en, nIle, hle]
    | some y =>
      obtain ⟨y1, y2⟩ := hx y rfl
      rw [hxs y rfl]
      obtain ⟨k'', rfl⟩ : ∃ k'', k' = k'' + 1 := ⟨k' - 1, by omega⟩
      have hR' : circ (nxO n s W) 7 [] x0 = if y ∈ p then (some (p.idxOf y), p) else circ (nxO n s W) k'' (p ++ [y]) (nxO n s W y) := hR
      have hle : (n ≤ y) = False := eq_false (by omega)
      have hgo : (fun r : RS => ∃ g', r = some (some (.int (cirV (nI k) (circ (nxO n s W) 7 [] x0))), hp g' m o) ∧ ∀ a, a ≠ 194 → a ≠ 195 → a ≠ 208 → g' a = g a) (kl_X11_circle_90 s0 ([.ref 188, .long 0, .int (nI k), .int (nI y), .int (nI p.length), .int (-1), .int (nI 0)] ++ []) [] (hp g' m o)) := by
        refine m_cir90 s0 g' m o p y h2 hl (by omega) (fun z hz => by have := h3 z hz; omega) h4 (.int (nI k)) (fun r : RS => ∃ g', r = some (some (.int (cirV (nI k) (circ (nxO n s W) 7 [] x0))), hp g' m o) ∧ ∀ a, a ≠ 194 → a ≠ 195 → a ≠ 208 → g' a = g a) (fun u => ?_) []
        have l7 : p.length < 7 := by omega
        by_cases hm : y ∈ p
        · rw [if_pos hm]
          rw [if_pos hm] at hR'
          have hj : jI (some (p.idxOf y)) = nI (p.idxOf y) := rfl
          have hlt := List.idxOf_lt_length_of_mem hm
          simp (disch := first | assumption | omega) only [kb_X11_circle_167, kb_X11_circle_149, kb_X11_circle_128, KL, KB, KC, KI, KJ, KZ, bI_0, bI_n, nI00, nI10, ne_eq, Classical.not_not, not_true_eq_false, not_false_eq_true, if_true, if_false, ite_not, ite_self, Bool.false_eq_true, nIne1, List.cons_append, List.nil_append, O_mo, AR, hj, nIne1, nI_add, Nat.add_zero]
          refine ih 0 (by omega) _ _ _ ⟨rfl, upd2 g' 208 p.length (nI y), p, .long 0, u, rfl, fun a a1 a2 a3 => by rw [uN a3]; exact h1 a a1 a2 a3, h2, h3, fun t z hz => ?_, Or.inr ⟨y, p.idxOf y, rfl, y1, hlt, hR'⟩⟩
          have := (List.getElem?_eq_some_iff.mp hz).1
          rw [uO (by omega)]
          exact h4 t z hz
        · rw [if_neg hm]
          rw [if_neg hm] at hR'
          have hj : jI none = -1 := rfl
          have hM2 : MSn n s ct sz sl sg kx rx 0 (upd2 g' 208 p.length (nI y)) := by
            obtain ⟨a1, a2, a3, a4, a5, a6⟩ := h
            have z : ∀ a, a ≠ 194 → a ≠ 195 → a ≠ 208 → upd2 g' 208 p.length (nI y) a = g a := fun a b1 b2 b3 => by rw [uN b3]; exact h1 a b1 b2 b3
            refine ⟨by rw [z 188 (by omega) (by omega) (by omega)]; exact a1, fun r hr hs => ?_, fun r hr => by rw [z 196 (by omega) (by omega) (by omega), z 197 (by omega) (by omega) (by omega), z 198 (by omega) (by omega) (by omega)]; exact a3 r hr, by rw [z 188 (by omega) (by omega) (by omega)]; exact a4, by rw [z 188 (by omega) (by omega) (by omega)]; exact a5, fun r hr => ?_⟩
            · have := a2 r hr hs
              unfold cM at this ⊢
              rw [z 200 (by omega) (by omega) (by omega), z 201 (by omega) (by omega) (by omega), z 202 (by omega) (by omega) (by omega), z 203 (by omega) (by omega) (by omega), z 204 (by omega) (by omega) (by omega), z 205 (by omega) (by omega) (by omega)]
              exact this
            · obtain ⟨b1, b2, b3, b4⟩ := a6 r hr
              refine ⟨b1, b2, b3.congr b2 b1 (fun i _ _ => by rw [z 189 (by omega) (by omega) (by omega)]), ?_⟩
              rw [z 188 (by omega) (by omega) (by omega), z 189 (by omega) (by omega) (by omega), z 199 (by omega) (by omega) (by omega)]
              exact b4
          have hL2 : ML n s (upd2 g' 208 p.length (nI y)) := ⟨by rw [uN (by omega)]; exact en, fun r hr => by rw [uN (by omega), h1 207 (by omega) (by omega) (by omega)]; exact hL.2 r hr⟩
          have hMW := hM2.mw (m := m) (o := o) n3 n6 (by omega)
          rw [hW] at hMW
          obtain ⟨g3, e3, p3⟩ := m_leastW hL2 n6 hMW y y1 y2 _ SM.rfl'
          rw [firstJ_opt] at e3
          simp (disch := first | assumption | omega) only [kb_X11_circle_167, kb_X11_circle_149, kb_X11_circle_128, KL, KB, KC, KI, KJ, KZ, bI_0, bI_n, nI00, nI10, ne_eq, Classical.not_not, not_true_eq_false, not_false_eq_true, if_true, if_false, ite_not, ite_self, Bool.false_eq_true, nIne1, List.cons_append, List.nil_append, O_mo, AR, hj, eq_self, nI_add, e3]
          refine ih k'' (by omega) _ _ _ ⟨rfl, g3, p ++ [y], .long 0, u, rfl, fun a a1 a2 a3 => by rw [p3 a a1 a2, uN a3]; exact h1 a a1 a2 a3, nodup_snoc h2 hm, fun z hz => ?_, fun t z hz => ?_, Or.inl ⟨nxO n s W y, jI (nxO n s W y), by rw [List.length_append]; rfl, by rw [List.length_append, List.length_singleton]; omega, fun z hz => nxO_some hz, fun z hz => by rw [hz]; rfl, fun hz => Or.inl (by rw [hz]; rfl), hR'⟩⟩
          · rcases List.mem_append.mp hz with hz | hz
            · exact h3 z hz
            · rw [List.mem_singleton] at hz; omega
          · rw [p3 208 (by omega) (by omega)]
            by_cases ht : t < p.length
            · rw [List.getElem?_append_left ht] at hz
              rw [uO (by omega)]
              exact h4 t z hz
            · rw [List.getElem?_append_right (by omega)] at hz
              have : t - p.length = 0 := by
                apply Nat.eq_zero_of_not_pos
                intro q
                rw [List.getElem?_eq_none (by rw [List.length_singleton]; omega)] at hz
                cases hz
              rw [this] at hz
              cases hz
              rw [show t = p.length by omega, uS]
      simp only [List.append_nil] at hgo
      simp (disch := first | assumption | omega) only [KL, KB, KC, KI, KJ, KZ, bI_0, bI_n, nI00, nI10, ne_eq, Classical.not_not, not_true_eq_false, not_false_eq_true, if_true, if_false, ite_not, ite_self, Bool.false_eq_true, nIne1, List.cons_append, List.nil_append, kMask, mask, O_mo, en, nIle, hle, nIne1, eq_self]
      exact hgo
  · have h171 := m_cir171 g' m o k hk p hl (some b) (fun c hc => by cases hc; exact hb) h4 (.long 0) (.int (nI y)) []
    have hj : jI (some b) = nI b := rfl
    rw [hj] at h171
    have hle : (n ≤ y) = False := eq_false (by omega)
    refine ⟨g', ?_, h1⟩
    rw [hR, ← h171]
    simp (disch := first | assumption | omega) only [KL, KB, KC, KI, KJ, KZ, bI_0, bI_n, nI00, nI10, ne_eq, Classical.not_not, not_true_eq_false, not_false_eq_true, if_true, if_false, ite_not, ite_self, Bool.false_eq_true, nIne1, List.cons_append, List.nil_append, kMask, mask, O_mo, en, nIle, hle, nIne1]
theorem m_cir31 {n s k : Nat} {ct : Nat → ACart} {sz sl sg : FN} {kx : Nat → Nat} {rx : Nat → ARule} {g : GG} {m o : Nat} (h : MSn n s ct sz sl sg kx rx 0 g) (hL : ML n s g) (n3 : 3 ≤ n) (n6 : n ≤ 6) (hs : s < 2 ^ n) (hk : k = 0 ∨ 10 ≤ k ∧ k ≤ 15) (v : Value) : ∃ g', kl_X11_circle_31 [.ref 188, v, .int (nI k), .int (nI 0)] [] (hp g m o) = some (some (.int (cirV (nI k) (circ (nxO n s (wV n ct sz sl sg rx 0)) 7 [] (optJ (fun r => (s ^^^ (s &&& goS n s (wV n ct sz sl sg rx 0))).testBit r) 6 0)))), hp g' m o) ∧ ∀ a, a ≠ 194 → a ≠ 195 → a ≠ 208 → g' a = g a := by
  have hMW := h.mw (m := m) (o := o) n3 n6 (by omega)
  have hx : optJ (fun r => (s ^^^ (s &&& goS n s (wV n ct sz sl sg rx 0))).testBit r) 6 0 = optJ (fun r => s.testBit r && !mayP n s (wV n ct sz sl sg rx 0) r) n 0 := by
    rw [optJ_ext n6 (fun i hi => bit_ge (subN_lt hs) i hi)]
    have hc : ∀ k i, i + k ≤ n → optJ (fun r => (s ^^^ (s &&& goS n s (wV n ct sz sl sg rx 0))).testBit r) k i = optJ (fun r => s.testBit r && !mayP n s (wV n ct sz sl sg rx 0) r) k i := by
      intro k
      induction k with
      | zero => intro i _; rfl
      | succ k ih =>
        intro i hi
        show (if (s ^^^ (s &&& goS n s (wV n ct sz sl sg rx 0))).testBit i = true then some i else optJ (fun r => (s ^^^ (s &&& goS n s (wV n ct sz sl sg rx 0))).testBit r) k (i + 1)) = (if (s.testBit i && !mayP n s (wV n ct sz sl sg rx 0) i) = true then some i else optJ (fun r => s.testBit r && !mayP n s (wV n ct sz sl sg rx 0) r) k (i + 1))
        rw [ih (i + 1) (by omega), subN_bit]
        have : (goS n s (wV n ct sz sl sg rx 0)).testBit i = mayP n s (wV n ct sz sl sg rx 0) i := by
          unfold goS
          rw [setN_bit, decide_eq_true (by omega : i < n), Bool.true_and]
        rw [this]
    exact hc n 0 (by omega)
  rw [hx]
  have fin : ∀ (g' : GG) (x0 : Option Nat) (xv : Int32) (u : List Value), SM g g' → (∀ y, x0 = some y → y < n ∧ s.testBit y = true) → (∀ y, x0 = some y → xv = nI y) → (x0 = none → xv = nI n) → ∃ g2, kb_X11_circle_62 ([.ref 188, .long 0, .int (nI k), .int xv]) [] (hp g' m o) = some (some (.int (cirV (nI k) (circ (nxO n s (wV n ct sz sl sg rx 0)) 7 [] x0))), hp g2 m o) ∧ ∀ a, a ≠ 194 → a ≠ 195 → a ≠ 208 → g2 a = g a := by
    intro g' x0 xv u hg a1 a2 a3
    obtain ⟨g2, e2, p2⟩ := m_cir68 (m := m) (o := o) (k := k) (h.sm (fun a x y _ => hg a x y)) (hL.sm hg) n3 n6 hk x0 a1 xv ⟨a2, a3⟩ (.long 0)
    refine ⟨g2, ?_, fun a x y z => by rw [p2 a x y z]; exact hg a x y⟩
    rw [← e2]
    simp (disch := first | assumption | omega) only [kb_X11_circle_62, KL, KB, KC, KI, KJ, KZ, bI_0, bI_n, nI00, nI10, ne_eq, Classical.not_not, not_true_eq_false, not_false_eq_true, if_true, if_false, ite_not, ite_self, Bool.false_eq_true, nIne1]
  generalize hW : wV n ct sz sl sg rx 0 = W at *
  unfold kl_X11_circle_31
  refine kFor n (by unfold FU; omega) (fun i ls h' => ∃ (g' : GG) (v : Value), ls = [.ref 188, v, .int (nI k), .int (nI i)] ∧ h' = hp g' m o ∧ SM g g' ∧ optJ (fun r => s.testBit r && !mayP n s W r) n 0 = optJ (fun r => s.testBit r && !mayP n s W r) (n - i) i) (fun r => ∃ g', r = some (some (.int (cirV (nI k) (circ (nxO n s W) 7 [] (optJ (fun r => s.testBit r && !mayP n s W r) n 0)))), hp g' m o) ∧ ∀ a, a ≠ 194 → a ≠ 195 → a ≠ 208 → g' a = g a) ?_ ?_ 0 _ _ (by omega) ⟨g, v, rfl, rfl, SM.rfl', rfl⟩
  · rintro s0 ls h' ⟨g', v, rfl, rfl, h1, h2⟩
    have e := (hL.sm h1).1
    have hin : (n ≤ n) = True := eq_true (by omega)
    rw [Nat.sub_self] at h2
    have h2' : optJ (fun r => s.testBit r && !mayP n s W r) n 0 = none := h2
    rw [h2']
    simp (disch := first | assumption | omega) only [KL, KB, KC, KI, KJ, KZ, bI_0, bI_n, nI00, nI10, ne_eq, Classical.not_not, not_true_eq_false, not_false_eq_true, if_true, if_false, ite_not, ite_self, Bool.false_eq_true, nIne1, kMask, mask, O_mo, e, nIle, hin]
    exact fin g' none (nI n) [] h1 (fun y hy => by cases hy) (fun y hy => by cases hy) (fun _ => rfl)
  · rintro s0 i hi ih ls h' ⟨g', v, rfl, rfl, h1, h2⟩
    have e := (hL.sm h1).1
    have ei := (hL.sm h1).2 i hi
    have hin : (n ≤ i) = False := eq_false (by omega)
    rw [show n - i = (n - (i + 1)) + 1 by omega] at h2
    have h2' : optJ (fun r => s.testBit r && !mayP n s W r) n 0 = if (s.testBit i && !mayP n s W i) = true then some i else optJ (fun r => s.testBit r && !mayP n s W r) (n - (i + 1)) (i + 1) := h2
    cases hb : s.testBit i with
    | false =>
      rw [hb, bW_f] at ei
      rw [hb, Bool.false_and, if_neg (by decide)] at h2'
      simp (disch := first | assumption | omega) only [kb_X11_circle_56, KL, KB, KC, KI, KJ, KZ, bI_0, bI_n, nI00, nI10, ne_eq, Classical.not_not, not_true_eq_false, not_false_eq_true, if_true, if_false, ite_not, ite_self, Bool.false_eq_true, nIne1, kMask, mask, O_mo, AR, e, ei, nIle, hin, nI_add]
      exact ih _ _ ⟨g', _, rfl, rfl, h1, h2'⟩
    | true =>
      rw [hb, bW_t] at ei
      obtain ⟨g4, e4, p4⟩ := m_mayGo hL n6 hMW i hi g' h1
      cases hm : mayP n s W i with
      | true =>
        rw [hm] at e4
        rw [hb, hm, if_neg (by decide)] at h2'
        simp (disch := first | assumption | omega) only [kb_X11_circle_56, KL, KB, KC, KI, KJ, KZ, bI_0, bI_n, nI00, nI10, ne_eq, Classical.not_not, not_true_eq_false, not_false_eq_true, if_true, if_false, ite_not, ite_self, Bool.false_eq_true, nIne1, kMask, mask, O_mo, AR, e, ei, nIle, hin, e4, bW_t, nI_add]
        exact ih _ _ ⟨g4, _, rfl, rfl, p4, h2'⟩
      | false =>
        rw [hm] at e4
        rw [hb, hm, if_pos (by decide)] at h2'
        rw [h2']
        simp (disch := first | assumption | omega) only [kb_X11_circle_56, KL, KB, KC, KI, KJ, KZ, bI_0, bI_n, nI00, nI10, ne_eq, Classical.not_not, not_true_eq_false, not_false_eq_true, if_true, if_false, ite_not, ite_self, Bool.false_eq_true, nIne1, kMask, mask, O_mo, AR, e, ei, nIle, hin, e4, bW_f]
        exact fin g4 (some i) (nI i) [] p4 (fun y hy => by cases hy; exact ⟨hi, hb⟩) (fun y hy => by cases hy; rfl) (fun hy => by cases hy)
theorem ag_circle (a0 a1 : Int32) : Ag RT f_X10_circle f_X11_circle [.int a0, .int a1] := by
  intro j g m o hj hR
  rcases in_cases a0 5 (by decide) with ⟨c, hc, rfl⟩ | h0
  · have hc6 : c < 6 := by omega
    have hX := isX_live c hc6
    have hyc : (nI 0 ≤ nI c ∧ nI c ≤ nI 5) = True := eq_true (in_yes hc (by omega))
    obtain ⟨n, hx⟩ := hR.at hc6
    obtain ⟨n3, n6, en, em, -⟩ := id hx
    obtain ⟨s, ct, sz, sl, sg, kx, rx, hs, hm, hC, hlay⟩ := hR.snap hj hc6 hx
    obtain ⟨g1, e1, p1, p2⟩ := c_circle (m := m) (o := o) hC hX (by omega) (by omega) n3 n6 hs
    obtain ⟨g2, e2, q1, q2, hML, hMS⟩ := hlay g1 (p1 189 (by omega))
    have z97 : ∀ i, i ≠ 20 → g2 188 i = g 188 i := fun i hi => (q2 i hi).trans (by rw [p1 188 (by omega)])
    have hM := hMS 0 (by omega) g2 (fun _ _ => rfl) hML.1 (by rw [z97 33 (by omega)]; exact hR.2.2.2.2.2.2.1) (by rw [z97 34 (by omega)]; exact hR.2.2.2.2.2.2.2.1) (by rw [z97 35 (by omega)]; exact hR.2.2.2.2.2.2.2.2)
    generalize hRR : circ (nxO n s (wV n ct sz sl sg rx 0)) 7 [] (optJ (fun r => (s ^^^ (s &&& goS n s (wV n ct sz sl sg rx 0))).testBit r) 6 0) = R at *
    have hkC : RT (j + 1) g1 m o := hR.keep (KEEP.of (fun a x y z w => p1 a (by omega)) (fun i _ => by rw [p1 188 (by omega)]))
    -- the class's answer once the walk is done
    have hcls : ∀ k : Nat, k < 2147483648 → (k = 0 ∨ 10 ≤ k) → f_X10_circle [.ref 0, .int (nI c), .int (nI k)] (hp g m o) = some (some (.int (if k ≤ 15 then cirV (nI k) R else -1)), hp g1 m o) := by
      intro k hk hk2
      have hkz : (nI k = 0) = (k = 0) := nIk0 hk
      have hkt : (nI k).toInt.toNat = k := by rw [nI_toInt (by omega)]; rfl
      have hb20 : kb_X10_circle_0 [.ref 0, .int (nI c), .int (nI k)] [] (hp g m o) = kb_X10_circle_22 [.ref 0, .int (nI c), .int (nI k), .ref (17 + 10 * c)] [] (hp g m o) := by
        rcases hk2 with rfl | hk2
        · simp (disch := first | assumption | omega) only [kb_X10_circle_0, KL, KB, KC, KI, KJ, KZ, bI_0, bI_n, nI00, nI10, ne_eq, Classical.not_not, not_true_eq_false, not_false_eq_true, if_true, if_false, ite_not, ite_self, Bool.false_eq_true, nIne1, O_fp, c_at g m o c hc6]
        · have h10 : (10 ≤ k) = True := eq_true hk2
          simp (disch := first | assumption | omega) only [kb_X10_circle_0, KL, KB, KC, KI, KJ, KZ, bI_0, bI_n, nI00, nI10, ne_eq, Classical.not_not, not_true_eq_false, not_false_eq_true, if_true, if_false, ite_not, ite_self, Bool.false_eq_true, nIne1, O_fp, c_at g m o c hc6, nIle, h10]
      show kb_X10_circle_0 _ [] _ = _
      rw [hb20]
      rcases hk2 with rfl | hk2
      · rw [if_pos (by omega)]
        obtain ⟨ob, p⟩ := R
        cases ob with
        | none =>
          have h4 : g1 80 4 = nI 0 := p2
          simp (disch := first | assumption | omega) only [kb_X10_circle_73, kb_X10_circle_22, KL, KB, KC, KI, KJ, KZ, bI_0, bI_n, nI00, nI10, ne_eq, Classical.not_not, not_true_eq_false, not_false_eq_true, if_true, if_false, ite_not, ite_self, Bool.false_eq_true, nIne1, O_fp, O_st, e1, h4]
          rfl
        | some b =>
          have h4 : g1 80 4 = nI (p.length - b) := p2.2.1
          simp (disch := first | assumption | omega) only [kb_X10_circle_73, kb_X10_circle_22, KL, KB, KC, KI, KJ, KZ, bI_0, bI_n, nI00, nI10, ne_eq, Classical.not_not, not_true_eq_false, not_false_eq_true, if_true, if_false, ite_not, ite_self, Bool.false_eq_true, nIne1, O_fp, O_st, e1, h4]
          unfold cirV
          simp only [nI00, if_true]
      · have hk0 : (k = 0) = False := eq_false (by omega)
        obtain ⟨ob, p⟩ := R
        cases ob with
        | none =>
          have h4 : g1 80 4 = nI 0 := p2
          have hle : (0 ≤ k - 10) = True := eq_true (by omega)
          simp (disch := first | assumption | omega) only [kb_X10_circle_73, kb_X10_circle_22, KL, KB, KC, KI, KJ, KZ, bI_0, bI_n, nI00, nI10, ne_eq, Classical.not_not, not_true_eq_false, not_false_eq_true, if_true, if_false, ite_not, ite_self, Bool.false_eq_true, nIne1, O_fp, O_st, e1, h4, hkz, hk0, nI_sub, nIle, hle]
          have hv : cirV (nI k) (none, p) = -1 := by unfold cirV; simp only [hkz, hk0, if_false]
          rw [hv, ite_self]
        | some b =>
          obtain ⟨h3, h4, hb, hl, h85⟩ := p2
          simp only [] at hb hl h4 h85
          by_cases q : k - 10 < p.length - b
          · have hle : (p.length - b ≤ k - 10) = False := eq_false (by omega)
            have hix : b + (k - 10) < p.length := by omega
            have hz : p[b + (k - 10)]? = some (p[b + (k - 10)]) := List.getElem?_eq_getElem hix
            obtain ⟨ez, -⟩ := h85 _ _ hz
            have h6 : (6 ≤ b + (k - 10)) = False := eq_false (by omega)
            have hin : b + (k - 10) < 6 := by omega
            have hlt0 : (nI (k - 10) < 0) = False := nIlt0 (by omega)
            have hv : cirV (nI k) (some b, p) = nI (p[b + (k - 10)]) := by
              unfold cirV
              simp only [hkz, hk0, if_false, hkt, q, if_true]
              rw [List.getD_eq_getElem?_getD, hz]
              rfl
            rw [if_pos (by omega), hv]
            simp (disch := first | assumption | omega) only [kb_X10_circle_73, kb_X10_circle_22, f_X8_circleRoad, kb_X8_circleRoad_27, kb_X8_circleRoad_26, kb_X8_circleRoad_0, KL, KB, KC, KI, KJ, KZ, bI_0, bI_n, nI00, nI10, ne_eq, Classical.not_not, not_true_eq_false, not_false_eq_true, if_true, if_false, ite_not, ite_self, Bool.false_eq_true, nIne1, O_fp, O_st, AR, e1, h3, h4, hkz, hk0, nI_sub, nIle, hle, hlt0, nI_add, h6, ez]
          · have hle : (p.length - b ≤ k - 10) = True := eq_true (by omega)
            have hv : cirV (nI k) (some b, p) = -1 := by
              unfold cirV
              simp only [hkz, hk0, if_false, hkt, q]
            rw [hv, ite_self]
            simp (disch := first | assumption | omega) only [kb_X10_circle_73, kb_X10_circle_22, KL, KB, KC, KI, KJ, KZ, bI_0, bI_n, nI00, nI10, ne_eq, Classical.not_not, not_true_eq_false, not_false_eq_true, if_true, if_false, ite_not, ite_self, Bool.false_eq_true, nIne1, O_fp, O_st, e1, h4, hkz, hk0, nI_sub, nIle, hle]
    rcases in_cases a1 2147483647 (by decide) with ⟨k, hk, rfl⟩ | h1
    · by_cases hk2 : k = 0 ∨ 10 ≤ k
      · by_cases hk15 : k ≤ 15
        · obtain ⟨g3, e3, p3⟩ := m_cir31 (m := m) (o := o) (k := k) hM hML n3 n6 hs (by omega) (.int (nI c))
          rw [hRR] at e3
          refine ⟨cirV (nI k) R, g1, m, o, g3, by rw [hcls k (by omega) hk2, if_pos hk15], ?_, hR.keep (KEEP.of (fun a x y z w => ?_) (fun i hi => ?_))⟩
          · rcases hk2 with rfl | hk2
            · simp (disch := first | assumption | omega) only [kb_X11_circle_22, kb_X11_circle_24, kb_X11_circle_0, f_X11_circle, KL, KB, KC, KI, KJ, KZ, bI_0, bI_n, nI00, nI10, ne_eq, Classical.not_not, not_true_eq_false, not_false_eq_true, if_true, if_false, ite_not, ite_self, Bool.false_eq_true, nIne1, O_mo, m_isCrossing, m_isIn, hyc, e2, e3]
            · have hk0 : (k = 0) = False := eq_false (by omega)
              have hkz : (nI k = 0) = (k = 0) := nIk0 (by omega)
              have hyk : (nI 10 ≤ nI k ∧ nI k ≤ nI 15) = True := by rw [nIle (by omega) (by omega), nIle (by omega) (by omega)]; exact eq_true ⟨hk2, hk15⟩
              simp (disch := first | assumption | omega) only [kb_X11_circle_22, kb_X11_circle_24, kb_X11_circle_0, f_X11_circle, KL, KB, KC, KI, KJ, KZ, bI_0, bI_n, nI00, nI10, ne_eq, Classical.not_not, not_true_eq_false, not_false_eq_true, if_true, if_false, ite_not, ite_self, Bool.false_eq_true, nIne1, O_mo, m_isCrossing, m_isIn, hyc, hkz, hk0, hyk, e2, e3]
          · rw [p3 a (by omega) (by omega) (by omega), q1 a (by omega) (by omega), p1 a (by omega)]
          · rw [p3 188 (by omega) (by omega) (by omega)]; exact z97 i (by omega)
        · refine ⟨-1, g1, m, o, g1, by rw [hcls k (by omega) hk2, if_neg hk15], ?_, hkC⟩
          have hk0 : (k = 0) = False := eq_false (by omega)
          have hkz : (nI k = 0) = (k = 0) := nIk0 (by omega)
          have hyk : (nI 10 ≤ nI k ∧ nI k ≤ nI 15) = False := by rw [nIle (by omega) (by omega), nIle (by omega) (by omega)]; exact eq_false (by omega)
          simp (disch := first | assumption | omega) only [kb_X11_circle_22, kb_X11_circle_24, kb_X11_circle_0, f_X11_circle, KL, KB, KC, KI, KJ, KZ, bI_0, bI_n, nI00, nI10, ne_eq, Classical.not_not, not_true_eq_false, not_false_eq_true, if_true, if_false, ite_not, ite_self, Bool.false_eq_true, nIne1, O_mo, m_isCrossing, m_isIn, hyc, hkz, hk0, hyk]
      · have hk0 : (k = 0) = False := eq_false (by omega)
        have hkz : (nI k = 0) = (k = 0) := nIk0 (by omega)
        have hyk : (nI 10 ≤ nI k ∧ nI k ≤ nI 15) = False := by rw [nIle (by omega) (by omega), nIle (by omega) (by omega)]; exact eq_false (by omega)
        have h10 : (10 ≤ k) = False := eq_false (by omega)
        refine ⟨-1, g, m, o, g, ?_, ?_, RT_mono _ _ _ _ hR⟩
        · simp (disch := first | assumption | omega) only [kb_X10_circle_20, kb_X10_circle_0, f_X10_circle, KL, KB, KC, KI, KJ, KZ, bI_0, bI_n, nI00, nI10, ne_eq, Classical.not_not, not_true_eq_false, not_false_eq_true, if_true, if_false, ite_not, ite_self, Bool.false_eq_true, nIne1, O_fp, c_at g m o c hc6, hkz, hk0, nIle, h10]
        · simp (disch := first | assumption | omega) only [kb_X11_circle_22, kb_X11_circle_24, kb_X11_circle_0, f_X11_circle, KL, KB, KC, KI, KJ, KZ, bI_0, bI_n, nI00, nI10, ne_eq, Classical.not_not, not_true_eq_false, not_false_eq_true, if_true, if_false, ite_not, ite_self, Bool.false_eq_true, nIne1, O_mo, m_isCrossing, m_isIn, hyc, hkz, hk0, hyk]
    · have hneg : ¬ nI 0 ≤ a1 := fun q => h1 ⟨q, by
        rw [Int32.le_iff_toInt_le, nI_toInt (by omega)]
        have := Int32.toInt_le a1
        have h2 : Int32.maxValue.toInt = 2147483647 := rfl
        omega⟩
      have hz : (a1 = 0) = False := eq_false (fun q => hneg (by rw [q]; decide))
      have h10 : (nI 10 ≤ a1) = False := eq_false (fun q => hneg (Int32.le_trans (show nI 0 ≤ nI 10 by decide) q))
      have hyk : (nI 10 ≤ a1 ∧ a1 ≤ nI 15) = False := by rw [h10, false_and]
      refine ⟨-1, g, m, o, g, ?_, ?_, RT_mono _ _ _ _ hR⟩
      · simp (disch := first | assumption | omega) only [kb_X10_circle_20, kb_X10_circle_0, f_X10_circle, KL, KB, KC, KI, KJ, KZ, bI_0, bI_n, nI00, nI10, ne_eq, Classical.not_not, not_true_eq_false, not_false_eq_true, if_true, if_false, ite_not, ite_self, Bool.false_eq_true, nIne1, O_fp, c_at g m o c hc6, hz, h10]
      · simp (disch := first | assumption | omega) only [kb_X11_circle_22, kb_X11_circle_24, kb_X11_circle_0, f_X11_circle, KL, KB, KC, KI, KJ, KZ, bI_0, bI_n, nI00, nI10, ne_eq, Classical.not_not, not_true_eq_false, not_false_eq_true, if_true, if_false, ite_not, ite_self, Bool.false_eq_true, nIne1, O_mo, m_isCrossing, m_isIn, hyc, hz, hyk]
  · refine ⟨-1, g, m, o, g, ?_, ?_, RT_mono _ _ _ _ hR⟩
    · simp (disch := first | assumption | omega) only [kb_X10_circle_20, kb_X10_circle_0, f_X10_circle, KL, KB, KC, KI, KJ, KZ, bI_0, bI_n, nI00, nI10, ne_eq, Classical.not_not, not_true_eq_false, not_false_eq_true, if_true, if_false, ite_not, ite_self, Bool.false_eq_true, nIne1, O_fp, c_atN g m o a0 h0]
    · simp (disch := first | assumption | omega) only [kb_X11_circle_22, kb_X11_circle_24, kb_X11_circle_0, f_X11_circle, KL, KB, KC, KI, KJ, KZ, bI_0, bI_n, nI00, nI10, ne_eq, Classical.not_not, not_true_eq_false, not_false_eq_true, if_true, if_false, ite_not, ite_self, Bool.false_eq_true, nIne1, O_mo, m_isCrossing, h0]
