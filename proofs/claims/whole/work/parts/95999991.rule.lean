-- ===== rule =====
theorem nI_all (x : Int32) : ∃ d : Nat, x = nI d := ⟨x.toBitVec.toNat, bv_eq (by show x.toBitVec = BitVec.ofNat 32 x.toBitVec.toNat; rw [BitVec.ofNat_toNat, BitVec.setWidth_eq])⟩
/-- what the model has put of a rule: n lines, S cells of steps -/
def PUT (g g' : GG) (k n S : Nat) : Prop := (∀ a, a ≠ 189 → g' a = g a) ∧ (∀ i, i < n → g' 189 (3390 + 16 * k + i) = g 191 (3 * i) ∧ g' 189 (3454 + 16 * k + i) = g 191 (3 * i + 1) ∧ g' 189 (3518 + 16 * k + i) = g 191 (3 * i + 2)) ∧ (∀ i, i < S → g' 189 (3590 + 820 * k + i) = g 192 i) ∧ ∀ i, (i < 3390 + 16 * k ∨ (3406 + 16 * k ≤ i ∧ i < 3454 + 16 * k) ∨ (3470 + 16 * k ≤ i ∧ i < 3518 + 16 * k) ∨ (3534 + 16 * k ≤ i ∧ i < 3590 + 820 * k) ∨ 4410 + 820 * k ≤ i) → g' 189 i = g 189 i
theorem PUT.row {g g1 : GG} {k i : Nat} (h : PUT g g1 k i 0) (hk : k < 4) (hi : i < 16) : PUT g (upd2 (upd2 (upd2 g1 189 (3390 + 16 * k + i) (g 191 (3 * i))) 189 (3454 + 16 * k + i) (g 191 (3 * i + 1))) 189 (3518 + 16 * k + i) (g 191 (3 * i + 2))) k (i + 1) 0 := by
  obtain ⟨h1, h2, h3, h4⟩ := h
  refine ⟨fun a ha => by rw [uN ha, uN ha, uN ha]; exact h1 a ha, fun i' hi' => ?_, fun i' hi' => absurd hi' (Nat.not_lt_zero _), fun j hj => by rw [uO (by omega), uO (by omega), uO (by omega)]; exact h4 j hj⟩
  by_cases e : i' = i
  · rw [e]
    refine ⟨?_, ?_, uS⟩
    · rw [uO (by omega), uO (by omega)]; exact uS
    · rw [uO (by omega)]; exact uS
  · obtain ⟨a, b, c⟩ := h2 i' (by omega)
    refine ⟨?_, ?_, ?_⟩
    · rw [uO (by omega), uO (by omega), uO (by omega)]; exact a
    · rw [uO (by omega), uO (by omega), uO (by omega)]; exact b
    · rw [uO (by omega), uO (by omega), uO (by omega)]; exact c
theorem PUT.stp {g g1 : GG} {k n i : Nat} (h : PUT g g1 k n i) (hk : k < 4) (hn : n ≤ 16) (hi : i < 820) : PUT g (upd2 g1 189 (3590 + 820 * k + i) (g 192 i)) k n (i + 1) := by
  obtain ⟨h1, h2, h3, h4⟩ := h
  refine ⟨fun a ha => by rw [uN ha]; exact h1 a ha, fun i' hi' => ?_, fun i' hi' => ?_, fun j hj => by rw [uO (by omega)]; exact h4 j hj⟩
  · obtain ⟨a, b, c⟩ := h2 i' hi'
    refine ⟨?_, ?_, ?_⟩
    · rw [uO (by omega)]; exact a
    · rw [uO (by omega)]; exact b
    · rw [uO (by omega)]; exact c
  · by_cases e : i' = i
    · rw [e]; exact uS
    · rw [uO (by omega)]; exact h3 i' (by omega)
theorem m_put229 {g g1 : GG} {m o k n S : Nat} {x : Value} (hk : k < 4) (hn : n ≤ 16) (hS : S ≤ 400) (h8 : g 188 8 = nI n) (h9 : g 188 9 = nI S) (hp1 : PUT g g1 k n 0) : ∃ g', kl_X11_rule_229 [.ref 188, .int (nI k), x, .int (nI 0)] [] (hp g1 m o) = some (some (.int (nI n)), hp g' m o) ∧ PUT g g' k n (2 * S) := by
  unfold kl_X11_rule_229
  refine kFor (2 * S) (by unfold FU; omega) (fun i ls h => ∃ (x : Value) (g2 : GG), ls = [.ref 188, .int (nI k), x, .int (nI i)] ∧ h = hp g2 m o ∧ PUT g g2 k n i) (fun r => ∃ g', r = some (some (.int (nI n)), hp g' m o) ∧ PUT g g' k n (2 * S)) ?_ ?_ 0 _ _ (by omega) ⟨x, g1, rfl, rfl, hp1⟩
  · rintro s0 ls h ⟨x, g2, rfl, rfl, hp2⟩
    have q8 : g2 188 8 = nI n := by rw [hp2.1 188 (by omega)]; exact h8
    have q9 : g2 188 9 = nI S := by rw [hp2.1 188 (by omega)]; exact h9
    have hin : (2 * S ≤ 2 * S) = True := eq_true (Nat.le_refl _)
    refine ⟨g2, ?_, hp2⟩
    simp (disch := first | assumption | omega) only [KL, KB, KC, KI, KJ, KZ, bI_0, bI_n, nI00, nI10, ne_eq, Classical.not_not, not_true_eq_false, not_false_eq_true, if_true, if_false, ite_not, ite_self, Bool.false_eq_true, nIne1, kMask, mask, mask_n, O_mo, q8, q9, nI_mul, nIle, hin]
  · rintro s0 i hi ih ls h ⟨x, g2, rfl, rfl, hp2⟩
    have q9 : g2 188 9 = nI S := by rw [hp2.1 188 (by omega)]; exact h9
    have e1 : g2 192 = g 192 := hp2.1 192 (by omega)
    have hin : (2 * S ≤ i) = False := eq_false (by omega)
    have hgo := ih _ _ ⟨.long 0, _, rfl, rfl, hp2.stp hk hn (by omega)⟩
    simp (disch := first | assumption | omega) only [KL, KB, KC, KI, KJ, KZ, bI_0, bI_n, nI00, nI10, ne_eq, Classical.not_not, not_true_eq_false, not_false_eq_true, if_true, if_false, ite_not, ite_self, Bool.false_eq_true, nIne1, kMask, mask, mask_n, O_mo, AR, q9, nI_mul, nI_add, nIle, hin, e1]
    exact hgo
theorem m_put140 {g : GG} {m o k n S : Nat} {x : Value} (hk : k < 4) (hn : n ≤ 16) (hS : S ≤ 400) (h8 : g 188 8 = nI n) (h9 : g 188 9 = nI S) : ∃ g', kl_X11_rule_140 [.ref 188, .int (nI k), x, .int (nI 0)] [] (hp g m o) = some (some (.int (nI n)), hp g' m o) ∧ PUT g g' k n (2 * S) := by
  unfold kl_X11_rule_140
  refine kFor n (by unfold FU; omega) (fun i ls h => ∃ (x : Value) (g2 : GG), ls = [.ref 188, .int (nI k), x, .int (nI i)] ∧ h = hp g2 m o ∧ PUT g g2 k i 0) (fun r => ∃ g', r = some (some (.int (nI n)), hp g' m o) ∧ PUT g g' k n (2 * S)) ?_ ?_ 0 _ _ (by omega) ⟨x, g, rfl, rfl, fun _ _ => rfl, fun i hi => absurd hi (Nat.not_lt_zero _), fun i hi => absurd hi (Nat.not_lt_zero _), fun _ _ => rfl⟩
  · rintro s0 ls h ⟨x, g2, rfl, rfl, hp2⟩
    have q8 : g2 188 8 = nI n := by rw [hp2.1 188 (by omega)]; exact h8
    have hin : (n ≤ n) = True := eq_true (Nat.le_refl _)
    simp (disch := first | assumption | omega) only [KL, KB, KC, KI, KJ, KZ, bI_0, bI_n, nI00, nI10, ne_eq, Classical.not_not, not_true_eq_false, not_false_eq_true, if_true, if_false, ite_not, ite_self, Bool.false_eq_true, nIne1, kMask, mask, mask_n, O_mo, q8, nIle, hin]
    exact m_put229 hk hn hS h8 h9 hp2
  · rintro s0 i hi ih ls h ⟨x, g2, rfl, rfl, hp2⟩
    have q8 : g2 188 8 = nI n := by rw [hp2.1 188 (by omega)]; exact h8
    have e0 : g2 191 = g 191 := hp2.1 191 (by omega)
    have hin : (n ≤ i) = False := eq_false (by omega)
    have hgo := ih _ _ ⟨.long 0, _, rfl, rfl, hp2.row hk (by omega)⟩
    simp (disch := first | assumption | omega) only [kb_X11_rule_148, KL, KB, KC, KI, KJ, KZ, bI_0, bI_n, nI00, nI10, ne_eq, Classical.not_not, not_true_eq_false, not_false_eq_true, if_true, if_false, ite_not, ite_self, Bool.false_eq_true, nIne1, kMask, mask, mask_n, O_mo, AR, q8, nI_mul, nI_add, nIle, hin, uN, e0]
    exact hgo
def FMR (g g' : GG) : Prop := (∀ a, a ≠ 188 → a ≠ 189 → a ≠ 191 → a ≠ 192 → g' a = g a) ∧ ∀ i, i < 8 ∨ 19 < i → g' 188 i = g 188 i
def BRU (t : Nat → Nat) (L : Nat) (s : CS) (g : GG) (m o : Nat) (r : RS) : Prop := ∃ (g' : GG) (kd pl : Nat), r = some (some (.int (-1)), hp g' m o) ∧ FMR g g' ∧ g' 188 10 = nI 0 ∧ g' 188 17 = nI kd ∧ g' 188 19 = nI pl ∧ 1 ≤ kd ∧ kd ≤ 3 ∧ FLT t L s kd pl ∧ g' 189 = g 189
def GRU (t : Nat → Nat) (L k : Nat) (s : CS) (g : GG) (m o : Nat) (r : RS) : Prop := ∃ (g' : GG) (rl : ARule), r = some (some (.int (nI rl.length)), hp g' m o) ∧ FMR g g' ∧ g' 188 10 = nI 0 ∧ g' 188 17 = nI 0 ∧ g' 188 19 = -1 ∧ DON t L s rl ∧ wfR rl ∧ ruleM g' 189 k rl ∧ ∀ i, (i < 3380 + k ∨ (3380 + k < i ∧ i < 3390 + 16 * k) ∨ (3406 + 16 * k ≤ i ∧ i < 3454 + 16 * k) ∨ (3470 + 16 * k ≤ i ∧ i < 3518 + 16 * k) ∨ (3534 + 16 * k ≤ i ∧ i < 3590 + 820 * k) ∨ 4410 + 820 * k ≤ i) → g' 189 i = g 189 i
theorem m_rule {t : Nat → Nat} {L : Nat} {g : GG} {m o k : Nat} {c w : Bool} (hT : TPM g t L) (hk : k < 4) : BRU t L (cs0 c w) g m o (f_X11_rule [.ref 188, .int (nI k)] (hp g m o)) ∨ GRU t L k (cs0 c w) g m o (f_X11_rule [.ref 188, .int (nI k)] (hp g m o)) := by
  have hL := hT.1
  have hy : (nI 0 ≤ nI k ∧ nI k ≤ nI 3) = True := eq_true (in_yes (by omega) (by decide))
  have z0 : (nI 0 = 0) = True := eq_true rfl
  have z1 : (nI 1 = 0) = False := eq_false (by decide)
  generalize hg0 : upd2 (upd2 (upd2 (upd2 g 188 15 (nI 0)) 188 11 (nI 0)) 188 8 (nI 0)) 188 9 (nI 0) = g0
  have F0 : ∀ a, a ≠ 188 → g0 a = g a := fun a ha => by rw [← hg0, uN ha, uN ha, uN ha, uN ha]
  have F1 : ∀ i, i < 8 ∨ i = 10 ∨ 15 < i → g0 188 i = g 188 i := fun i hi => by rw [← hg0, uO (by omega), uO (by omega), uO (by omega), uO (by omega)]
  have y9 : g0 188 9 = nI 0 := by rw [← hg0]; exact uS
  have y8 : g0 188 8 = nI 0 := by rw [← hg0, uO (by omega)]; exact uS
  have y11 : g0 188 11 = nI 0 := by rw [← hg0, uO (by omega), uO (by omega)]; exact uS
  have y15 : g0 188 15 = nI 0 := by rw [← hg0, uO (by omega), uO (by omega), uO (by omega)]; exact uS
  have hT0 : TPM g0 t L := ⟨hL, by rw [F1 10 (by omega)]; exact hT.2.1, fun i hi => by rw [F0 193 (by omega)]; exact hT.2.2 i hi⟩
  obtain ⟨g1, e1, f1, w1⟩ := m_next0 (m := m) (o := o) hT0 y11 (Nat.zero_le L)
  obtain ⟨d, hd⟩ := nI_all (g1 188 18)
  have hM : MST g1 t L (cs0 c w).pos d (cs0 c w).rl [] := ⟨hT0.scm f1, Nat.zero_le _, w1, hd, by rw [f1.2 8 (by omega) (by omega) (by omega) (by omega)]; exact y8, by rw [f1.2 9 (by omega) (by omega) (by omega) (by omega)]; exact y9, fun i z hz => (nil_get hz).elim, fun j z hz => (nil_get hz).elim⟩
  have hI : IV L (cs0 c w) := ⟨⟨fun k hk => (List.not_mem_nil hk).elim, Nat.zero_le _, Nat.zero_le _⟩, fun q => absurd rfl q, Nat.zero_le _, Nat.zero_le _, fun q => absurd rfl q⟩
  have y15' : g1 188 15 = nI 0 := by rw [f1.2 15 (by omega) (by omega) (by omega) (by omega)]; exact y15
  have F2 : ∀ a, a ≠ 188 → g1 a = g a := fun a ha => by rw [f1.1 a ha, F0 a ha]
  have F3 : ∀ i, i < 8 ∨ i = 10 ∨ 15 < i → g1 188 i = g 188 i := fun i hi => by rw [f1.2 i (by omega) (by omega) (by omega) (by omega), F1 i hi]
  rcases m_lines (m := m) (o := o) (kk := k) hI hM rfl rfl rfl rfl with ⟨g2, kd, pl, e2, f2, x1, x2, x3, x4, x5⟩ | ⟨g2, rl, e2, f2, x1, x2, x3⟩
  · left
    have v15 : upd2 g2 188 10 (nI 0) 188 15 = nI kd := by rw [uO (by omega)]; exact x1
    have v16 : upd2 (upd2 g2 188 10 (nI 0)) 188 17 (nI kd) 188 16 = nI pl := by rw [uO (by omega), uO (by omega)]; exact x2
    refine ⟨upd2 (upd2 (upd2 g2 188 10 (nI 0)) 188 17 (nI kd)) 188 19 (nI pl), kd, pl, ?_, ⟨fun a p q r s => ?_, fun i hi => ?_⟩, ?_, ?_, uS, x3, x4, x5, ?_⟩
    · simp (disch := first | assumption | omega) only [f_X11_rule, kb_X11_rule_148, kb_X11_rule_115, kb_X11_rule_89, kb_X11_rule_82, kb_X11_rule_0, KL, KB, KC, KI, KJ, KZ, bI_0, bI_n, nI00, nI10, ne_eq, Classical.not_not, not_true_eq_false, not_false_eq_true, if_true, if_false, ite_not, ite_self, Bool.false_eq_true, nIne1, O_mo, m_isIn, hy, hg0, e1, e2, v15, v16, z0]
    · rw [uN p, uN p, uN p, f2.1 a p r s]; exact F2 a p
    · rw [uO (by omega), uO (by omega), uO (by omega), f2.2 i (by omega)]; exact F3 i (by omega)
    · rw [uO (by omega), uO (by omega)]; exact uS
    · rw [uO (by omega)]; exact uS
    · rw [uN (by omega), uN (by omega), uN (by omega), f2.1 189 (by omega) (by omega) (by omega)]; exact F2 189 (by omega)
  · right
    obtain ⟨r1, r2, r3, r4⟩ := x2
    simp only [List.append_nil] at r2 r4
    have q15 : g2 188 15 = nI 0 := by rw [f2.2 15 (by omega)]; exact y15'
    have v15 : upd2 g2 188 10 (nI 0) 188 15 = nI 0 := by rw [uO (by omega)]; exact q15
    have v8 : upd2 (upd2 (upd2 g2 188 10 (nI 0)) 188 17 (nI 0)) 188 19 (-1) 188 8 = nI rl.length := by rw [uO (by omega), uO (by omega), uO (by omega)]; exact r1
    generalize hg4 : upd2 (upd2 (upd2 (upd2 g2 188 10 (nI 0)) 188 17 (nI 0)) 188 19 (-1)) 189 (3380 + k) (nI rl.length) = g4
    have G0 : ∀ a, a ≠ 188 → a ≠ 189 → g4 a = g2 a := fun a p q => by rw [← hg4, uN q, uN p, uN p, uN p]
    have G1 : ∀ i, i ≠ 10 → i ≠ 17 → i ≠ 19 → g4 188 i = g2 188 i := fun i p q r => by rw [← hg4, uN (by omega), uO (by omega), uO (by omega), uO (by omega)]
    have G2 : ∀ i, i ≠ 3380 + k → g4 189 i = g2 189 i := fun i p => by rw [← hg4, uO (by omega), uN (by omega), uN (by omega), uN (by omega)]
    have w8 : g4 188 8 = nI rl.length := by rw [G1 8 (by omega) (by omega) (by omega)]; exact r1
    have w9 : g4 188 9 = nI (allS rl).length := by rw [G1 9 (by omega) (by omega) (by omega)]; exact r2
    have w10 : g4 188 10 = nI 0 := by rw [← hg4, uN (by omega), uO (by omega), uO (by omega)]; exact uS
    have w17 : g4 188 17 = nI 0 := by rw [← hg4, uN (by omega), uO (by omega)]; exact uS
    have w19 : g4 188 19 = -1 := by rw [← hg4, uN (by omega)]; exact uS
    have wk : g4 189 (3380 + k) = nI rl.length := by rw [← hg4]; exact uS
    obtain ⟨g5, e5, P1, P2, P3, P4⟩ := m_put140 (g := g4) (m := m) (o := o) (x := .int (nI 1)) hk x3.1 x3.2.1 w8 w9
    have H2 : g2 189 = g 189 := by rw [f2.1 189 (by omega) (by omega) (by omega)]; exact F2 189 (by omega)
    refine ⟨g5, rl, ?_, ⟨fun a p q r s => ?_, fun i hi => ?_⟩, ?_, ?_, ?_, x1, x3, ⟨?_, fun i z hz => ?_, fun i z hz => ?_⟩, fun i hi => ?_⟩
    · simp (disch := first | assumption | omega) only [f_X11_rule, kb_X11_rule_148, kb_X11_rule_115, kb_X11_rule_89, kb_X11_rule_82, kb_X11_rule_0, KL, KB, KC, KI, KJ, KZ, bI_0, bI_n, nI00, nI10, ne_eq, Classical.not_not, not_true_eq_false, not_false_eq_true, if_true, if_false, ite_not, ite_self, Bool.false_eq_true, nIne1, O_mo, AR, m_isIn, hy, hg0, e1, e2, v15, v8, z1, nI_add, hg4, e5]
    · rw [P1 a q, G0 a p q, f2.1 a p r s]; exact F2 a p
    · rw [P1 188 (by omega), G1 i (by omega) (by omega) (by omega), f2.2 i (by omega)]; exact F3 i (by omega)
    · rw [P1 188 (by omega)]; exact w10
    · rw [P1 188 (by omega)]; exact w17
    · rw [P1 188 (by omega)]; exact w19
    · rw [P4 _ (by omega)]; exact wk
    · have hi := (List.getElem?_eq_some_iff.mp hz).1
      obtain ⟨a, b, c⟩ := P2 i hi
      obtain ⟨a', b', c'⟩ := r3 i z hz
      rw [G0 191 (by omega) (by omega)] at a b c
      exact ⟨a.trans a', b.trans b', c.trans c'⟩
    · have hi := (List.getElem?_eq_some_iff.mp hz).1
      have a := P3 (2 * i) (by omega)
      have b := P3 (2 * i + 1) (by omega)
      obtain ⟨a', b'⟩ := r4 i z hz
      rw [G0 192 (by omega) (by omega)] at a b
      exact ⟨a.trans a', fun h => by rw [Nat.add_assoc (3590 + 820 * k)]; exact b.trans (b' h)⟩
    · rw [P4 i (by omega), G2 i (by omega), H2]
theorem DON.at' {t : Nat → Nat} {L : Nat} {s : CS} {rl : ARule} (h : DON t L s rl) : cgo t L (L + 1) s = some (0, 0, rl) := by
  obtain ⟨n, a, b⟩ := h
  have := b (L - n)
  rwa [show n + 1 + (L - n) = L + 1 by omega] at this
theorem FLT.at' {t : Nat → Nat} {L kd pl : Nat} {s : CS} (h : FLT t L s kd pl) : cgo t L (L + 1) s = some (kd, pl, []) := by
  obtain ⟨n, a, b⟩ := h
  have := b (L - n)
  rwa [show n + 1 + (L - n) = L + 1 by omega] at this
theorem fl_or {g : GG} {i : Nat} (h : ∃ b, g 158 i = bW b) : g 158 i = nI 0 ∨ g 158 i = nI 1 := by
  obtain ⟨b, h⟩ := h
  cases b
  · exact Or.inl h
  · exact Or.inr h
theorem or_fl {g : GG} {i : Nat} (h : g 158 i = nI 0 ∨ g 158 i = nI 1) : ∃ b, g 158 i = bW b := h.elim (fun h => ⟨false, h⟩) (fun h => ⟨true, h⟩)
theorem ruleM.far {g g' : GG} {k k' : Nat} {rl : ARule} (h : ruleM g 189 k' rl) (hw : wfR rl) (hk : k < 4) (hk' : k' < 4) (hn : k' ≠ k) (h1 : ∀ i, (i < 3380 + k ∨ (3380 + k < i ∧ i < 3390 + 16 * k) ∨ (3406 + 16 * k ≤ i ∧ i < 3454 + 16 * k) ∨ (3470 + 16 * k ≤ i ∧ i < 3518 + 16 * k) ∨ (3534 + 16 * k ≤ i ∧ i < 3590 + 820 * k) ∨ 4410 + 820 * k ≤ i) → g' 189 i = g 189 i) : ruleM g' 189 k' rl := by
  obtain ⟨a, b, c⟩ := h
  obtain ⟨w1, w2, -⟩ := hw
  refine ⟨by rw [h1 _ (by omega)]; exact a, fun i z hz => ?_, fun t z hz => ?_⟩
  · have hi := (List.getElem?_eq_some_iff.mp hz).1
    obtain ⟨b1, b2, b3⟩ := b i z hz
    exact ⟨by rw [h1 _ (by omega)]; exact b1, by rw [h1 _ (by omega)]; exact b2, by rw [h1 _ (by omega)]; exact b3⟩
  · have ht := (List.getElem?_eq_some_iff.mp hz).1
    obtain ⟨c1, c2⟩ := c t z hz
    exact ⟨by rw [h1 _ (by omega)]; exact c1, fun h => by rw [h1 _ (by omega)]; exact c2 h⟩
theorem DRF.rule {g : GG} {rl : ARule} (h : DRF g rl []) : ruleC g 160 rl := by
  obtain ⟨d1, d2, d3, d4, d5⟩ := h
  simp only [List.append_nil] at d2 d5
  exact ⟨d1, d2, d3, d4, d5⟩
theorem ag_rule (a0 : Int32) : Ag RT f_X10_rule f_X11_rule [.int a0] := by
  intro j g m o hj hR
  obtain ⟨hW, hT, hf1, hf2, hI, hO, s1, s2, s3⟩ := id hR
  obtain ⟨L, hL, l1, l2, l3, l4, l5⟩ := id hT
  have z0 : (nI 0 = 0) = True := eq_true rfl
  have z1 : (nI 1 = 0) = False := eq_false (by decide)
  rcases in_cases a0 3 (by decide) with ⟨k, hk, rfl⟩ | h0
  · have hy : (nI 0 ≤ nI k ∧ nI k ≤ nI 3) = True := eq_true (in_yes hk (by decide))
    have hk4 : k < 4 := by omega
    obtain ⟨t, ht⟩ : ∃ t : Nat → Nat, ∀ i, i < L → t i < 256 ∧ g 159 i = nI (t i) ∧ g 193 i = nI (t i) := ⟨fun i => if h : i < L then Classical.choose (l3 i h) else 0, fun i hi => by
      simp only [dif_pos hi]
      exact Classical.choose_spec (l3 i hi)⟩
    obtain ⟨c, hc⟩ := or_fl l4
    obtain ⟨w, hw⟩ := or_fl l5
    have hTM : TPM g t L := ⟨hL, l2, fun i hi => ⟨(ht i hi).2.2, (ht i hi).1⟩⟩
    have hTC : TPC g t L := ⟨hL, l1, fun i hi => ⟨(ht i hi).2.1, (ht i hi).1⟩⟩
    have key : ∃ r : Nat × Nat × ARule, cgo t L (L + 1) (cs0 c w) = some r ∧ r.1 < 100 := by
      rcases m_rule (m := m) (o := o) (c := c) (w := w) hTM hk4 with ⟨g', kd, pl, -, -, -, -, -, -, q2, q3, -⟩ | ⟨g', rl, -, -, -, -, -, q, -⟩
      · exact ⟨_, q3.at', by show kd < 100; omega⟩
      · exact ⟨_, q.at', by show 0 < 100; omega⟩
    obtain ⟨r, hr, hr100⟩ := key
    obtain ⟨g1, e1, ⟨w1, w2, w3, w4, w6, w7⟩, wf⟩ := c_reads (m := m) (o := o) hTC hc hw hr hr100
    by_cases r0 : r.1 = 0
    · obtain ⟨w31, w32⟩ := w3 r0
      rw [if_pos r0] at e1
      obtain ⟨g2, e2, p1, p2⟩ := r_copy g1 m o 160 (5 + 3 * k) isR_draft (isR_live k hk4) (by omega)
      have hX := isR_live k hk4
      have rc : ∀ (k2 : KK) (ls st : List Value) (v0 : Value), kRecv 7 5 1 k2 ls (v0 :: .ref (5 + 3 * k) :: st) (hp g1 m o) = k2 ls (v0 :: .ref (5 + 3 * k) :: st) (hp g1 m o) := fun k2 ls st v0 => rc_at hX.1 rfl
      have gi : ∀ (k2 : KK) (ls st : List Value), kGetI 7 5 0 k2 ls (.ref (5 + 3 * k) :: st) (hp g2 m o) = k2 ls (.int (g2 (5 + 3 * k) 0) :: st) (hp g2 m o) := fun k2 ls st => gi_at hX.1 k2 ls st
      have hrl := w32.rule
      have q0 : g2 (5 + 3 * k) 0 = nI r.2.2.length := by
        have := p1 0 (by omega) 0 (by decide)
        rw [Nat.add_zero, Nat.add_zero] at this
        rw [this]; exact hrl.1
      have gO : ∀ a, a < 5 + 3 * k ∨ 7 + 3 * k < a → (a < 158 ∨ a = 159 ∨ 163 < a) → g2 a = g a := fun a h1 h2 => by rw [p2 a (by omega), wf a h2]
      have hTM2 : TPM g2 t L := ⟨hL, by rw [gO 188 (by omega) (by omega)]; exact l2, fun i hi => by rw [gO 193 (by omega) (by omega)]; exact ⟨(ht i hi).2.2, (ht i hi).1⟩⟩
      rcases m_rule (m := m) (o := o) (c := c) (w := w) hTM2 hk4 with ⟨g', kd, pl, -, -, -, -, -, q1, q2, q3, -⟩ | ⟨g', rl, em, fm, t10, t17, t19, q, hwf, hrm, ho⟩
      · have := hr.symm.trans q3.at'
        rw [Option.some.inj this] at r0
        exact absurd r0 (by show kd ≠ 0; omega)
      · have hrr := Option.some.inj (hr.symm.trans q.at')
        have hrr2 : r.2.2 = rl := by rw [hrr]
        rw [hrr2] at hrl q0
        have w2' : g1 158 2 = nI 0 := by rw [w2, r0]
        have gB : ∀ a, a ≠ 188 → a ≠ 189 → a ≠ 191 → a ≠ 192 → (a < 5 + 3 * k ∨ 7 + 3 * k < a) → (a < 158 ∨ a = 159 ∨ 163 < a) → g' a = g a := fun a a1 a2 a3 a4 h1 h2 => by rw [fm.1 a a1 a2 a3 a4, gO a h1 h2]
        have gR : ∀ a, 158 ≤ a → a ≤ 163 → g' a = g1 a := fun a h1 h2 => by rw [fm.1 a (by omega) (by omega) (by omega) (by omega), p2 a (by omega)]
        have gM : ∀ i, i < 8 ∨ 19 < i → g' 188 i = g 188 i := fun i hi => by rw [fm.2 i hi, gO 188 (by omega) (by omega)]
        have gW : ∀ i, (i < 3380 + k ∨ (3380 + k < i ∧ i < 3390 + 16 * k) ∨ (3406 + 16 * k ≤ i ∧ i < 3454 + 16 * k) ∨ (3470 + 16 * k ≤ i ∧ i < 3518 + 16 * k) ∨ (3534 + 16 * k ≤ i ∧ i < 3590 + 820 * k) ∨ 4410 + 820 * k ≤ i) → g' 189 i = g 189 i := fun i hi => by rw [ho i hi, gO 189 (by omega) (by omega)]
        obtain ⟨u1, u2, u3, u4⟩ := hW
        refine ⟨nI rl.length, g2, m, o, g', ?_, em, ⟨?_, fun k2 hk2 => ?_, fun k2 hk2 => ?_, fun c hc => ?_⟩, ⟨0, Nat.zero_le _, ?_, t10, fun i hi => absurd hi (Nat.not_lt_zero _), ?_, ?_⟩, ?_, ?_, hI.congr (by omega) (by rw [gB 0 (by omega) (by omega) (by omega) (by omega) (by omega) (by omega)]) (gM 2 (by omega)) (fun a _ _ => gB a (by omega) (by omega) (by omega) (by omega) (by omega) (by omega)) (gB 190 (by omega) (by omega) (by omega) (by omega) (by omega) (by omega)), hO.congr (fun a _ _ => gB a (by omega) (by omega) (by omega) (by omega) (by omega) (by omega)), by rw [gM 33 (by omega)]; exact s1, by rw [gM 34 (by omega)]; exact s2, by rw [gM 35 (by omega)]; exact s3⟩
        · simp (disch := first | assumption | omega) only [f_X10_rule, kb_X10_rule_0, KL, KB, KC, KI, KJ, KZ, bI_0, bI_n, nI00, nI10, ne_eq, Classical.not_not, not_true_eq_false, not_false_eq_true, if_true, if_false, ite_not, ite_self, Bool.false_eq_true, nIne1, O_fp, O_w, O_rd, c_within, hy, e1, z1, aalR, rc, gi, e2, q0]
        · rw [gB (0 + 1) (by omega) (by omega) (by omega) (by omega) (by omega) (by omega), gW 0 (by omega)]; exact u1
        · obtain ⟨v, v1, v2, v3⟩ := u2 k2 hk2
          exact ⟨v, v1, by rw [gB (0 + 2) (by omega) (by omega) (by omega) (by omega) (by omega) (by omega)]; exact v2, by rw [gW (1 + k2) (by omega)]; exact v3⟩
        · by_cases e : k2 = k
          · subst e
            refine ⟨rl, hwf, ?_, hrm⟩
            have hmv : ∀ i t, t < 3 → i < (match t with | 0 => 3 | 1 => 17 | _ => 400) → g' (0 + 5 + 3 * k2 + t) i = g1 (160 + t) i := fun i t ht hi => by
              rw [fm.1 _ (by omega) (by omega) (by omega) (by omega), Nat.zero_add]; exact p1 t ht i hi
            exact hrl.move hwf (fun i hi => hmv i 0 (by omega) hi) (fun i hi => hmv i 1 (by omega) hi) (fun i hi => hmv i 2 (by omega) hi)
          · obtain ⟨rl2, v1, v2, v3⟩ := u3 k2 hk2
            exact ⟨rl2, v1, v2.congr (fun a _ _ => gB a (by omega) (by omega) (by omega) (by omega) (by omega) (by omega)), v3.far v1 hk4 hk2 e gW⟩
        · exact (u4 c hc).congr (by omega) (fun a _ _ => gB a (by omega) (by omega) (by omega) (by omega) (by omega) (by omega)) (fun i hi => gW _ (by omega))
        · rw [gR 158 (by omega) (by omega)]; exact w1
        · rw [gR 158 (by omega) (by omega)]; exact fl_or w6
        · rw [gR 158 (by omega) (by omega)]; exact fl_or w7
        · rw [gR 158 (by omega) (by omega), t17]; exact w2'
        · rw [gR 158 (by omega) (by omega), t19]; exact w31
    · have w3' := w4 r0
      rw [if_neg r0] at e1
      have hTM2 : TPM g1 t L := ⟨hL, by rw [wf 188 (by omega)]; exact l2, fun i hi => by rw [wf 193 (by omega)]; exact ⟨(ht i hi).2.2, (ht i hi).1⟩⟩
      rcases m_rule (m := m) (o := o) (c := c) (w := w) hTM2 hk4 with ⟨g', kd, pl, em, fm, t10, t17, t19, q1, q2, q3, ho⟩ | ⟨g', rl, em, fm, t10, t17, t19, q, hwf, hrm, ho⟩
      · have hrr := Option.some.inj (hr.symm.trans q3.at')
        rw [hrr] at w2 w3'
        have gB : ∀ a, a ≠ 188 → a ≠ 191 → a ≠ 192 → (a < 158 ∨ a = 159 ∨ 163 < a) → g' a = g a := fun a a1 a3 a4 h2 => by
          by_cases q : a = 189
          · rw [q, ho, wf 189 (by omega)]
          · rw [fm.1 a a1 q a3 a4, wf a h2]
        have gR : ∀ a, 158 ≤ a → a ≤ 163 → g' a = g1 a := fun a h1 h2 => fm.1 a (by omega) (by omega) (by omega) (by omega)
        have gM : ∀ i, i < 8 ∨ 19 < i → g' 188 i = g 188 i := fun i hi => by rw [fm.2 i hi, wf 188 (by omega)]
        refine ⟨-1, g1, m, o, g', ?_, em, hW.congr (by omega) (fun a _ _ => gB a (by omega) (by omega) (by omega) (by omega)) (fun i _ => by rw [gB 189 (by omega) (by omega) (by omega) (by omega)]), ⟨0, Nat.zero_le _, ?_, t10, fun i hi => absurd hi (Nat.not_lt_zero _), ?_, ?_⟩, ?_, ?_, hI.congr (by omega) (by rw [gB 0 (by omega) (by omega) (by omega) (by omega)]) (gM 2 (by omega)) (fun a _ _ => gB a (by omega) (by omega) (by omega) (by omega)) (gB 190 (by omega) (by omega) (by omega) (by omega)), hO.congr (fun a _ _ => gB a (by omega) (by omega) (by omega) (by omega)), by rw [gM 33 (by omega)]; exact s1, by rw [gM 34 (by omega)]; exact s2, by rw [gM 35 (by omega)]; exact s3⟩
        · simp (disch := first | assumption | omega) only [f_X10_rule, kb_X10_rule_0, KL, KB, KC, KI, KJ, KZ, bI_0, bI_n, nI00, nI10, ne_eq, Classical.not_not, not_true_eq_false, not_false_eq_true, if_true, if_false, ite_not, ite_self, Bool.false_eq_true, nIne1, O_fp, O_w, O_rd, c_within, hy, e1, z0]
        · rw [gR 158 (by omega) (by omega)]; exact w1
        · rw [gR 158 (by omega) (by omega)]; exact fl_or w6
        · rw [gR 158 (by omega) (by omega)]; exact fl_or w7
        · rw [gR 158 (by omega) (by omega), t17]; exact w2
        · rw [gR 158 (by omega) (by omega), t19]; exact w3'
      · have hrr := Option.some.inj (hr.symm.trans q.at')
        rw [hrr] at r0
        exact absurd rfl r0
  · generalize hgc : upd2 (upd2 (upd2 g 158 1 (nI 0)) 158 2 (nI 0)) 158 3 (-1) = g1
    have cO : ∀ a, a ≠ 158 → g1 a = g a := fun a ha => by rw [← hgc, uN ha, uN ha, uN ha]
    have cI : ∀ i, 3 < i → g1 158 i = g 158 i := fun i hi => by rw [← hgc, uO (by omega), uO (by omega), uO (by omega)]
    have c1 : g1 158 1 = nI 0 := by rw [← hgc, uO (by omega), uO (by omega)]; exact uS
    have c2 : g1 158 2 = nI 0 := by rw [← hgc, uO (by omega)]; exact uS
    have c3 : g1 158 3 = -1 := by rw [← hgc]; exact uS
    generalize hgd : upd2 (upd2 (upd2 (upd2 g1 188 15 (nI 0)) 188 10 (nI 0)) 188 17 (nI 0)) 188 19 (-1) = g2
    have dO : ∀ a, a ≠ 188 → g2 a = g1 a := fun a ha => by rw [← hgd, uN ha, uN ha, uN ha, uN ha]
    have dI : ∀ i, i < 10 ∨ 19 < i → g2 188 i = g1 188 i := fun i hi => by rw [← hgd, uO (by omega), uO (by omega), uO (by omega), uO (by omega)]
    have d1 : g2 188 10 = nI 0 := by rw [← hgd, uO (by omega), uO (by omega)]; exact uS
    have d2 : g2 188 17 = nI 0 := by rw [← hgd, uO (by omega)]; exact uS
    have d3 : g2 188 19 = -1 := by rw [← hgd]; exact uS
    have bO : ∀ a, a ≠ 158 → a ≠ 188 → g2 a = g a := fun a p q => by rw [dO a q, cO a p]
    have bM : ∀ i, i < 10 ∨ 19 < i → g2 188 i = g 188 i := fun i hi => by rw [dI i hi, cO 188 (by omega)]
    have bR : g2 158 = g1 158 := dO 158 (by omega)
    refine ⟨-1, g1, m, o, g2, ?_, ?_, hW.congr (by omega) (fun a _ _ => bO a (by omega) (by omega)) (fun i _ => by rw [bO 189 (by omega) (by omega)]), ⟨0, Nat.zero_le _, by rw [bR]; exact c1, d1, fun i hi => absurd hi (Nat.not_lt_zero _), by rw [bR, cI 8 (by omega)]; exact l4, by rw [bR, cI 9 (by omega)]; exact l5⟩, by rw [bR, c2, d2], by rw [bR, c3, d3], hI.congr (by omega) (by rw [bO 0 (by omega) (by omega)]) (bM 2 (by omega)) (fun a _ _ => bO a (by omega) (by omega)) (bO 190 (by omega) (by omega)), hO.congr (fun a _ _ => bO a (by omega) (by omega)), by rw [bM 33 (by omega)]; exact s1, by rw [bM 34 (by omega)]; exact s2, by rw [bM 35 (by omega)]; exact s3⟩
    · simp (disch := first | assumption | omega) only [f_X10_rule, kb_X10_rule_0, f_X5_giveUp, kb_X5_giveUp_0, KL, KB, KC, KI, KJ, KZ, bI_0, bI_n, nI00, nI10, ne_eq, Classical.not_not, not_true_eq_false, not_false_eq_true, if_true, if_false, ite_not, ite_self, Bool.false_eq_true, nIne1, O_fp, O_w, O_rd, c_within, h0, hgc]
    · simp (disch := first | assumption | omega) only [f_X11_rule, kb_X11_rule_148, kb_X11_rule_115, kb_X11_rule_89, kb_X11_rule_82, kb_X11_rule_0, KL, KB, KC, KI, KJ, KZ, bI_0, bI_n, nI00, nI10, ne_eq, Classical.not_not, not_true_eq_false, not_false_eq_true, if_true, if_false, ite_not, ite_self, Bool.false_eq_true, nIne1, O_mo, m_isIn, h0, hgd]
