-- ===== the class's reader follows the automaton: its steps =====
def CRB (g : GG) (s : CS) : Prop := g 158 10 = nI s.mode ∧ g 158 8 = bW s.cp ∧ g 158 9 = bW s.lw ∧ PKR g s.pe ∧ DRF g s.rl s.cur
def SFR (g g' : GG) : Prop := (∀ a, a < 158 ∨ a = 159 ∨ 163 < a → g' a = g a) ∧ ∀ i, i < 6 ∨ 10 < i → g' 158 i = g 158 i
theorem SFR.rfl' {g : GG} : SFR g g := ⟨fun _ _ => rfl, fun _ _ => rfl⟩
theorem SFR.put {g g' : GG} {a i : Nat} {v : Int32} (h : SFR g g') (hi : (a = 158 ∧ 6 ≤ i ∧ i ≤ 10) ∨ (160 ≤ a ∧ a ≤ 163)) : SFR g (upd2 g' a i v) := ⟨fun b hb => by rw [uN (by omega)]; exact h.1 b hb, fun j hj => by rw [uO (by omega)]; exact h.2 j hj⟩
theorem SFR.rel {g g' g'' : GG} (h : SFR g g') (r : RFR g' g'') : SFR g g'' := ⟨fun a ha => by rw [r.1 a (by omega) (by omega) (by omega) (by omega)]; exact h.1 a ha, fun i hi => by rw [r.2 i (by omega) (by omega)]; exact h.2 i hi⟩
theorem PKR.congr {g g' : GG} {l : List Nat} (h : PKR g l) (h6 : g' 158 6 = g 158 6) (h7 : g' 158 7 = g 158 7) (h172 : g' 163 = g 163) : PKR g' l := ⟨by rw [h6]; exact h.1, h.2.1.congr h172, by rw [h7]; exact h.2.2⟩
theorem CRB.mode' {g : GG} {s : CS} (h : CRB g s) (x : Nat) : CRB (upd2 g 158 10 (nI x)) (mkS (s.pos) (x) (s.pe) (s.cp) (s.lw) (s.cur) (s.rl)) := ⟨uS, by rw [uO (by omega)]; exact h.2.1, by rw [uO (by omega)]; exact h.2.2.1, h.2.2.2.1.congr (uO (by omega)) (uO (by omega)) (uN (by omega)), h.2.2.2.2.congr (fun a x y => uN (by omega))⟩
theorem CRB.cp' {g : GG} {s : CS} (h : CRB g s) (x : Bool) : CRB (upd2 g 158 8 (bW x)) (mkS (s.pos) (s.mode) (s.pe) (x) (s.lw) (s.cur) (s.rl)) := ⟨by rw [uO (by omega)]; exact h.1, uS, by rw [uO (by omega)]; exact h.2.2.1, h.2.2.2.1.congr (uO (by omega)) (uO (by omega)) (uN (by omega)), h.2.2.2.2.congr (fun a x y => uN (by omega))⟩
theorem CRB.lw' {g : GG} {s : CS} (h : CRB g s) (x : Bool) : CRB (upd2 g 158 9 (bW x)) (mkS (s.pos) (s.mode) (s.pe) (s.cp) (x) (s.cur) (s.rl)) := ⟨by rw [uO (by omega)]; exact h.1, by rw [uO (by omega)]; exact h.2.1, uS, h.2.2.2.1.congr (uO (by omega)) (uO (by omega)) (uN (by omega)), h.2.2.2.2.congr (fun a x y => uN (by omega))⟩
theorem CRB.add {g : GG} {s : CS} (h : CRB g s) (z : Nat × Nat) : CRB (upd2 (upd2 g 162 (allS s.rl ++ s.cur).length (opC z)) 160 1 (nI ((allS s.rl ++ s.cur).length + 1))) (mkS (s.pos) (s.mode) (s.pe) (s.cp) (s.lw) (s.cur ++ [z]) (s.rl)) := ⟨by rw [uN (by omega), uN (by omega)]; exact h.1, by rw [uN (by omega), uN (by omega)]; exact h.2.1, by rw [uN (by omega), uN (by omega)]; exact h.2.2.1, h.2.2.2.1.congr (by rw [uN (by omega), uN (by omega)]) (by rw [uN (by omega), uN (by omega)]) (by rw [uN (by omega), uN (by omega)]), h.2.2.2.2.add z⟩
theorem CRB.hold {g : GG} {s : CS} (h : CRB g s) {k : Nat} (hk : k ≠ 21 ∧ k ≠ 27) : CRB (upd2 (upd2 g 163 s.pe.length (nI k)) 158 6 (nI (s.pe.length + 1))) (mkS (s.pos) (s.mode) (k :: s.pe) (s.cp) (s.lw) (s.cur) (s.rl)) := by
  refine ⟨by rw [uO (by omega), uN (by omega)]; exact h.1, by rw [uO (by omega), uN (by omega)]; exact h.2.1, by rw [uO (by omega), uN (by omega)]; exact h.2.2.1, ⟨uS, (h.2.2.2.1.2.1.put k).congr (uN (by omega)), ?_⟩, h.2.2.2.2.congr (fun a x y => by rw [uN (by omega), uN (by omega)])⟩
  rw [uO (by omega), uN (by omega), h.2.2.2.1.2.2]
  show nI (opn s.pe) = nI ((if k = 21 ∨ k = 27 then 1 else 0) + opn s.pe)
  rw [if_neg (by omega), Nat.zero_add]
theorem CRB.opn' {g : GG} {s : CS} (h : CRB g s) {k : Nat} (hk : k = 21 ∨ k = 27) : CRB (upd2 (upd2 (upd2 g 158 7 (nI (opn s.pe + 1))) 163 s.pe.length (nI k)) 158 6 (nI (s.pe.length + 1))) (mkS (s.pos) (s.mode) (k :: s.pe) (s.cp) (s.lw) (s.cur) (s.rl)) := by
  have hp' : PK (upd2 g 158 7 (nI (opn s.pe + 1))) s.pe := h.2.2.2.1.2.1.congr (uN (by omega))
  refine ⟨by rw [uO (by omega), uN (by omega), uO (by omega)]; exact h.1, by rw [uO (by omega), uN (by omega), uO (by omega)]; exact h.2.1, by rw [uO (by omega), uN (by omega), uO (by omega)]; exact h.2.2.1, ⟨uS, (hp'.put k).congr (uN (by omega)), ?_⟩, h.2.2.2.2.congr (fun a x y => by rw [uN (by omega), uN (by omega), uN (by omega)])⟩
  rw [uO (by omega), uN (by omega), uS]
  show nI (opn s.pe + 1) = nI ((if k = 21 ∨ k = 27 then 1 else 0) + opn s.pe)
  rw [if_pos hk, Nat.add_comm]
theorem CRB.rel' {g g' : GG} {s : CS} {m : Nat} (h : CRB g s) (r : RFR g g') (h1 : PKR g' (rlA m s.pe s.cur).1) (h2 : DRF g' s.rl (rlA m s.pe s.cur).2) : CRB g' (s.rel m) := ⟨by rw [r.2 10 (by omega) (by omega)]; exact h.1, by rw [r.2 8 (by omega) (by omega)]; exact h.2.1, by rw [r.2 9 (by omega) (by omega)]; exact h.2.2.1, h1, h2⟩
theorem lnB_app (rl : ARule) (z : Bool × List (Nat × Nat)) : (∀ i, i ≤ rl.length → lnB (rl ++ [z]) i = lnB rl i) ∧ lnB (rl ++ [z]) (rl.length + 1) = (allS rl ++ z.2).length := by
  refine ⟨fun i hi => by unfold lnB; rw [List.take_append_of_le_length hi], ?_⟩
  unfold lnB allS
  rw [List.take_of_length_le (by rw [List.length_append, List.length_cons, List.length_nil]; exact Nat.le_refl _), List.map_append, List.sum_append, List.length_append, List.length_flatMap]
  simp
theorem DRF.close {g : GG} {rl : ARule} {cur : List (Nat × Nat)} (h : DRF g rl cur) (b : Bool) : DRF (upd2 (upd2 (upd2 g 160 2 (nI (wtN (rl ++ [(b, cur)])))) 160 0 (nI (rl.length + 1))) 161 (rl.length + 1) (nI (allS rl ++ cur).length)) (rl ++ [(b, cur)]) [] := by
  obtain ⟨a, b', c, d, e⟩ := h
  have en : (rl ++ [(b, cur)]).length = rl.length + 1 := by rw [List.length_append, List.length_cons, List.length_nil]
  have es : allS (rl ++ [(b, cur)]) ++ [] = allS rl ++ cur := by rw [List.append_nil, allS_app, allS_one]
  obtain ⟨l1, l2⟩ := lnB_app rl (b, cur)
  refine ⟨by rw [en, uN (by omega)]; exact uS, by rw [es, uN (by omega), uO (by omega), uO (by omega)]; exact b', by rw [uN (by omega), uO (by omega)]; exact uS, fun i hi => ?_, fun t z hz => ?_⟩
  · rw [en] at hi
    by_cases w : i ≤ rl.length
    · rw [uO (by omega), uN (by omega), uN (by omega), l1 i w]; exact d i w
    · have : i = rl.length + 1 := by omega
      rw [this, l2]; exact uS
  · rw [es] at hz
    rw [uN (by omega), uN (by omega), uN (by omega)]; exact e t z hz
theorem c_closeLine {g : GG} {m o : Nat} {rl : ARule} {cur : List (Nat × Nat)} (h : DRF g rl cur) (b : Bool) (hl : rl.length < 16) : f_X7_closeLine [.ref 160, .int (bW b)] (hp g m o) = some (none, hp (upd2 (upd2 (upd2 g 160 2 (nI (wtN (rl ++ [(b, cur)])))) 160 0 (nI (rl.length + 1))) 161 (rl.length + 1) (nI (allS rl ++ cur).length)) m o) := by
  obtain ⟨a, b', c, -⟩ := h
  have hin : (16 ≤ rl.length) = False := eq_false (by omega)
  have hw := wtN_or rl b cur
  generalize hW : wtN (rl ++ [(b, cur)]) = W at hw ⊢
  have e0 : upd2 g 160 2 (nI W) 160 0 = nI rl.length := by rw [uO (by omega)]; exact a
  have e1 : upd2 (upd2 g 160 2 (nI W)) 160 0 (nI (rl.length + 1)) 160 1 = nI (allS rl ++ cur).length := by rw [uO (by omega), uO (by omega)]; exact b'
  have e2 : upd2 (upd2 g 160 2 (nI W)) 160 0 (nI (rl.length + 1)) 160 0 = nI (rl.length + 1) := uS
  cases b with
  | true =>
    rw [if_pos rfl] at hw
    have e3 : nI (wtN rl) ||| nI 1 <<< (nI rl.length &&& 31) = nI W := by rw [nI_shl _ _ (by omega), nI_or, hw]
    simp (disch := first | assumption | omega) only [f_X7_closeLine, kb_X7_closeLine_55, kb_X7_closeLine_28, kb_X7_closeLine_0, KL, KB, KC, KI, KJ, KZ, bI_0, bI_n, nI00, nI10, ne_eq, Classical.not_not, not_true_eq_false, not_false_eq_true, if_true, if_false, ite_not, ite_self, Bool.false_eq_true, nIne1, O_dr, bW_t, a, c, e0, e1, e2, e3, nIle, hin, nI_add]
  | false =>
    rw [if_neg (by decide), Nat.or_zero] at hw
    have e3 : nI (wtN rl) ||| nI 0 = nI W := by rw [nI_or, Nat.or_zero, hw]
    simp (disch := first | assumption | omega) only [f_X7_closeLine, kb_X7_closeLine_55, kb_X7_closeLine_28, kb_X7_closeLine_0, KL, KB, KC, KI, KJ, KZ, bI_0, bI_n, nI00, nI10, ne_eq, Classical.not_not, not_true_eq_false, not_false_eq_true, if_true, if_false, ite_not, ite_self, Bool.false_eq_true, nIne1, O_dr, bW_f, a, c, e0, e1, e2, e3, nIle, hin, nI_add]
theorem c_hold {g : GG} {m o n k : Nat} (h6 : g 158 6 = nI n) (hn : n < 64) : f_X5_hold [.ref 158, .int (nI k)] (hp g m o) = some (none, hp (upd2 (upd2 g 163 n (nI k)) 158 6 (nI (n + 1))) m o) := by
  have hin : (64 ≤ n) = False := eq_false (by omega)
  have e1 : upd2 g 163 n (nI k) 158 6 = nI n := by rw [uN (by omega)]; exact h6
  simp (disch := first | assumption | omega) only [f_X5_hold, kb_X5_hold_29, kb_X5_hold_0, KL, KB, KC, KI, KJ, KZ, bI_0, bI_n, nI00, nI10, ne_eq, Classical.not_not, not_true_eq_false, not_false_eq_true, if_true, if_false, ite_not, ite_self, Bool.false_eq_true, nIne1, O_rd, AR, h6, e1, nIle, hin, nI_add]
/-- what a step asks of its state -/
def SOK (s : CS) : Prop := OKS s ∧ s.pe.length ≤ 60 ∧ szS s < 400 ∧ (s.mode ≠ 0 → s.rl.length < 16)
def STP (f : FF) (g : GG) (m o : Nat) (r : Nat × CS) : Prop := ∃ g', f [.ref 158] (hp g m o) = some (some (.int (nI r.1)), hp g' m o) ∧ CRB g' r.2 ∧ SFR g g'
theorem c_finishLine {g : GG} {m o : Nat} {s : CS} (h : CRB g s) (hs : SOK s) (hl : s.rl.length < 16) : STP f_X5_finishLine g m o (finL s) := by
  obtain ⟨hok, h60, hsz, -⟩ := hs
  unfold szS at hsz
  obtain ⟨g1, e1, p1, d1, r1⟩ := c_release (m := m) (o := o) (mm := 1) (by omega) (by omega) hok.1 (by omega) (by omega) h.2.2.2.1 h.2.2.2.2
  have h1 : CRB g1 (s.rel 1) := h.rel' r1 p1 d1
  have f1 : SFR g g1 := SFR.rfl'.rel r1
  have q6 := p1.1
  obtain ⟨i1, i2, i3⟩ := rlA_inv 1 s.pe s.cur
  by_cases c : (s.rel 1).pe = []
  · have e : finL s = (0, (mkS ((s.rel 1).pos) (0) ((s.rel 1).pe) ((s.rel 1).cp) ((s.rel 1).lw) ([]) (s.rl ++ [(s.lw, (s.rel 1).cur)]))) := if_pos c
    rw [e]
    have c0 : g1 158 6 = nI 0 := by rw [q6]; show nI (s.rel 1).pe.length = _; rw [c]; rfl
    have z0 : (nI 0 ≤ (0 : Int32)) = True := eq_true (by decide)
    have q9 : g1 158 9 = bW s.lw := h1.2.2.1
    have ec := c_closeLine (m := m) (o := o) d1 s.lw hl
    refine ⟨upd2 (upd2 (upd2 (upd2 g1 160 2 (nI (wtN (s.rl ++ [(s.lw, (rlA 1 s.pe s.cur).2)])))) 160 0 (nI (s.rl.length + 1))) 161 (s.rl.length + 1) (nI (allS s.rl ++ (rlA 1 s.pe s.cur).2).length)) 158 10 (nI 0), ?_, ⟨uS, ?_, ?_, ?_, ?_⟩, ((((f1.put (by omega)).put (by omega)).put (by omega)).put (by omega))⟩
    · simp (disch := first | assumption | omega) only [f_X5_finishLine, kb_X5_finishLine_0, KL, KB, KC, KI, KJ, KZ, bI_0, bI_n, nI00, nI10, ne_eq, Classical.not_not, not_true_eq_false, not_false_eq_true, if_true, if_false, ite_not, ite_self, Bool.false_eq_true, nIne1, O_rd, O_dr, e1, c0, z0, q9, ec]
    · rw [uO (by omega), uN (by omega), uN (by omega), uN (by omega)]; exact h1.2.1
    · rw [uO (by omega), uN (by omega), uN (by omega), uN (by omega)]; exact h1.2.2.1
    · exact h1.2.2.2.1.congr (by rw [uO (by omega), uN (by omega), uN (by omega), uN (by omega)]) (by rw [uO (by omega), uN (by omega), uN (by omega), uN (by omega)]) (by rw [uN (by omega), uN (by omega), uN (by omega), uN (by omega)])
    · exact (d1.close s.lw).congr (fun a x y => uN (by omega))
  · have e : finL s = (1, s.rel 1) := if_neg c
    rw [e]
    have hlen : 0 < (rlA 1 s.pe s.cur).1.length := List.length_pos_iff.mpr c
    have z0 : (nI (rlA 1 s.pe s.cur).1.length ≤ (0 : Int32)) = False := by rw [nIle0 (by omega)]; exact eq_false (by omega)
    refine ⟨g1, ?_, h1, f1⟩
    simp (disch := first | assumption | omega) only [f_X5_finishLine, kb_X5_finishLine_0, KL, KB, KC, KI, KJ, KZ, bI_0, bI_n, nI00, nI10, ne_eq, Classical.not_not, not_true_eq_false, not_false_eq_true, if_true, if_false, ite_not, ite_self, Bool.false_eq_true, nIne1, O_rd, O_dr, e1, q6, z0]
