-- ===== the model's lines, one after another =====
def DON (t : Nat → Nat) (L : Nat) (s : CS) (rl : ARule) : Prop := ∃ n, n + s.pos ≤ L ∧ ∀ k, cgo t L (n + 1 + k) s = some (0, 0, rl)
theorem RNS.don {t : Nat → Nat} {L : Nat} {s s' : CS} {rl : ARule} (h : RNS t L s s') (h' : DON t L s' rl) : DON t L s rl := by
  obtain ⟨n, a, b⟩ := h
  obtain ⟨n', a', b'⟩ := h'
  exact ⟨n + n', by omega, fun k => by rw [Nat.add_assoc, Nat.add_assoc, b, ← Nat.add_assoc, b']⟩
theorem don1 {t : Nat → Nat} {L : Nat} {s : CS} (hI : IV L s) (hpe : s.pe = []) (hm : s.mode = 0) (hc : s.cur = []) (hk : tkK t L s = 33) : DON t L s s.rl := by
  refine ⟨0, by have := hI.2.2.2.1; omega, fun k => ?_⟩
  rw [Nat.zero_add, Nat.add_comm 1 k]
  show (if 60 < s.pe.length then none else _) = _
  rw [if_neg (by rw [hpe]; exact Nat.not_lt_zero _), if_pos ⟨hk, hm⟩, if_pos hc]
def GDR (t : Nat → Nat) (L : Nat) (s : CS) (g g' : GG) (rl : ARule) : Prop := FRV g g' ∧ DON t L s rl ∧ MRT g' rl [] ∧ wfR rl
def BDR (t : Nat → Nat) (L : Nat) (s : CS) (g g' : GG) (kd pl : Nat) : Prop := FRN g g' ∧ g' 188 15 = nI kd ∧ g' 188 16 = nI pl ∧ 1 ≤ kd ∧ kd ≤ 3 ∧ FLT t L s kd pl
theorem m_lines {t : Nat → Nat} {L : Nat} {g : GG} {m o d kk : Nat} {s : CS} (hI : IV L s) (hM : MST g t L s.pos d s.rl []) (hmd : s.mode = 0) (hpe : s.pe = []) (hcu : s.cur = []) (hrl0 : s.rl = []) : (∃ g' kd pl, kl_X11_rule_52 [.ref 188, .int (nI kk), .int (nI 1)] [] (hp g m o) = kb_X11_rule_89 [.ref 188, .int (nI kk), .int (nI 0)] [] (hp g' m o) ∧ BDR t L s g g' kd pl) ∨ ∃ g' rl, kl_X11_rule_52 [.ref 188, .int (nI kk), .int (nI 1)] [] (hp g m o) = kb_X11_rule_89 [.ref 188, .int (nI kk), .int (nI 1)] [] (hp g' m o) ∧ GDR t L s g g' rl := by
  have hL := hM.1.1
  have z0 : (nI 0 = 0) = True := eq_true rfl
  have z1 : (nI 1 = 0) = False := eq_false (by decide)
  have key : (fun r => (∃ g' kd pl, r = kb_X11_rule_89 [.ref 188, .int (nI kk), .int (nI 0)] [] (hp g' m o) ∧ BDR t L s g g' kd pl) ∨ ∃ g' rl, r = kb_X11_rule_89 [.ref 188, .int (nI kk), .int (nI 1)] [] (hp g' m o) ∧ GDR t L s g g' rl) (kl_X11_rule_52 [.ref 188, .int (nI kk), .int (nI 1)] [] (hp g m o)) := by
    unfold kl_X11_rule_52
    refine kFix_rule (fun n ls st h => st = [] ∧ ((∃ (g1 : GG) (s1 : CS) (d : Nat), 1 + (L - s1.pos) = n ∧ ls = [.ref 188, .int (nI kk), .int (nI 1)] ∧ h = hp g1 m o ∧ FRV g g1 ∧ RNS t L s s1 ∧ IV L s1 ∧ MST g1 t L s1.pos d s1.rl [] ∧ s1.mode = 0 ∧ s1.pe = [] ∧ s1.cur = [] ∧ ∀ q ∈ s1.rl, q.2 = [] ∨ opRun q.2 [] = true) ∨ (n = 0 ∧ ∃ (g1 : GG) (kd pl : Nat), ls = [.ref 188, .int (nI kk), .int (nI 0)] ∧ h = hp g1 m o ∧ BDR t L s g g1 kd pl))) (fun r => (∃ g' kd pl, r = kb_X11_rule_89 [.ref 188, .int (nI kk), .int (nI 0)] [] (hp g' m o) ∧ BDR t L s g g' kd pl) ∨ ∃ g' rl, r = kb_X11_rule_89 [.ref 188, .int (nI kk), .int (nI 1)] [] (hp g' m o) ∧ GDR t L s g g' rl) ?_ FU (1 + (L - s.pos)) (by unfold FU; omega) _ _ _ ⟨rfl, Or.inl ⟨g, s, d, rfl, rfl, rfl, FRV.rfl', RNS.refl', hI, hM, hmd, hpe, hcu, fun q hq => by rw [hrl0] at hq; exact (List.not_mem_nil hq).elim⟩⟩
    rintro S n ih ls st h ⟨rfl, ⟨g1, s1, d, hn, rfl, rfl, F1, R1, I1, M1, a1, a2, a3, a4⟩ | ⟨hn, g1, kd, pl, rfl, rfl, hb⟩⟩
    · obtain ⟨h12, -⟩ := M1.tok
      have hK := tkK_le t L s1
      obtain ⟨y0, -, -, -, -, -, -, -, -, -, -, -, -, -, -, -, -, y33, -⟩ := mTk_tab ⟨tkK t L s1, by omega⟩
      have y0' : mTk (tkK t L s1) < 200 := y0
      have f0 : (mTk (tkK t L s1) = 0) = (tkK t L s1 = 33) := propext y33
      by_cases k33 : tkK t L s1 = 33
      · have k33' : (tkK t L s1 = 33) = True := eq_true k33
        right
        have hfit := I1.fit hL
        rw [a3, a2] at hfit
        refine ⟨g1, s1.rl, ?_, F1, R1.don (don1 I1 a2 a1 a3 k33), M1.2.2.2.2, I1.1.2.2, by simpa using hfit, a4⟩
        simp (disch := first | assumption | omega) only [KL, KB, KC, KI, KJ, KZ, bI_0, bI_n, nI00, nI10, ne_eq, Classical.not_not, not_true_eq_false, not_false_eq_true, if_true, if_false, ite_not, ite_self, Bool.false_eq_true, nIne1, kMask, mask, mask_n, O_mo, z1, h12, nIk0, f0, k33']
      · have k33' : (tkK t L s1 = 33) = False := eq_false k33
        rcases m_aLine (m := m) (o := o) I1 M1 a1 a2 a3 k33 with ⟨g2, kd, pl, e2, f2, x1, x2, x3, x4, x5⟩ | ⟨g2, s2, z, e2, f2, q8, r2, i2, b1, b2, b3, b4, b5, M2, P2⟩
        · have hgo := ih 0 (by omega) [.ref 188, .int (nI kk), .int (nI 0)] [] (hp (upd2 g2 188 8 (g2 188 8 + nI 0)) m o) ⟨rfl, Or.inr ⟨rfl, _, kd, pl, rfl, rfl, ⟨fun a x y z => by rw [uN x]; exact (F1.frn f2).1 a x y z, fun i hi => by rw [uO (by omega)]; exact (F1.frn f2).2 i hi⟩, by rw [uO (by omega)]; exact x1, by rw [uO (by omega)]; exact x2, x3, x4, R1.flt x5⟩⟩
          simp (disch := first | assumption | omega) only [kb_X11_rule_82, KL, KB, KC, KI, KJ, KZ, bI_0, bI_n, nI00, nI10, ne_eq, Classical.not_not, not_true_eq_false, not_false_eq_true, if_true, if_false, ite_not, ite_self, Bool.false_eq_true, nIne1, kMask, mask, mask_n, O_mo, z1, h12, nIk0, f0, k33', e2, z0]
          exact hgo
        · have P2' : s1.pos < s2.pos := P2
          have I2' : s2.pos ≤ L := i2.2.2.2.1
          have hgo := ih (1 + (L - s2.pos)) (by omega) [.ref 188, .int (nI kk), .int (nI 1)] [] (hp (upd2 g2 188 8 (nI (s1.rl.length + 1))) m o) ⟨rfl, Or.inl ⟨_, s2, 0, rfl, rfl, rfl, (F1.tr f2).put (by omega), R1.tr r2, i2, M2, b1, b2, b3, fun q hq => by
            rw [b4] at hq
            rcases List.mem_append.mp hq with hq | hq
            · exact a4 q hq
            · rw [List.mem_singleton.mp hq]; exact b5⟩⟩
          simp (disch := first | assumption | omega) only [kb_X11_rule_82, KL, KB, KC, KI, KJ, KZ, bI_0, bI_n, nI00, nI10, ne_eq, Classical.not_not, not_true_eq_false, not_false_eq_true, if_true, if_false, ite_not, ite_self, Bool.false_eq_true, nIne1, kMask, mask, mask_n, O_mo, z1, h12, nIk0, f0, k33', e2, q8, nI_add]
          exact hgo
    · left
      refine ⟨g1, kd, pl, ?_, hb⟩
      simp (disch := first | assumption | omega) only [KL, KB, KC, KI, KJ, KZ, bI_0, bI_n, nI00, nI10, ne_eq, Classical.not_not, not_true_eq_false, not_false_eq_true, if_true, if_false, ite_not, ite_self, Bool.false_eq_true, nIne1, kMask, mask, mask_n, O_mo, z0]
  exact key
