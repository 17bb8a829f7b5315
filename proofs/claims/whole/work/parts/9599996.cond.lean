-- ===== the model's descent: conditions =====
def AFT (t : Nat → Nat) (L : Nat) (s : CS) : Prop := s.mode = 6 ∨ (s.mode = 5 ∧ s.cp = true ∧ ¬ (23 ≤ tkK t L s ∧ tkK t L s ≤ 26))
theorem AFT.cstc {t : Nat → Nat} {L : Nat} {s : CS} (h : AFT t L s) : (cst s (tkK t L s) (tkV t L s) = cstJ s (tkK t L s) ∧ ¬ (s.mode = 5 ∧ s.cp = false)) ∨ (cst s (tkK t L s) (tkV t L s) = (1, s) ∧ ((23 ≤ tkK t L s ∧ tkK t L s ≤ 26) ∨ (29 ≤ tkK t L s ∧ tkK t L s ≤ 31))) := by
  have hm : ¬ s.mode = 0 ∧ ¬ s.mode = 1 ∧ ¬ s.mode = 2 ∧ ¬ s.mode = 3 ∧ ¬ s.mode = 4 := by unfold AFT at h; omega
  by_cases c : (23 ≤ tkK t L s ∧ tkK t L s ≤ 26) ∨ (29 ≤ tkK t L s ∧ tkK t L s ≤ 31)
  · right
    refine ⟨?_, c⟩
    unfold cst
    rw [if_neg hm.1, if_neg hm.2.1, if_neg hm.2.2.1, if_neg hm.2.2.2.1, if_neg hm.2.2.2.2, if_pos c]
    unfold cstO
    rw [if_pos]
    rcases h with h | ⟨-, h, h'⟩
    · left; omega
    · right; exact ⟨by omega, h⟩
  · left
    refine ⟨?_, fun q => ?_⟩
    · unfold cst
      rw [if_neg hm.1, if_neg hm.2.1, if_neg hm.2.2.1, if_neg hm.2.2.2.1, if_neg hm.2.2.2.2, if_neg c]
    · rcases h with h | ⟨-, h, h'⟩
      · omega
      · rw [q.2] at h; cases h
theorem AFT.md0 {t : Nat → Nat} {L : Nat} {s : CS} (h : AFT t L s) : s.mode ≠ 0 := by unfold AFT at h; omega
theorem AFT.join {t : Nat → Nat} {L : Nat} {s1 : CS} {P S : List Nat} {C : List (Nat × Nat)} (h : AFT t L s1) (hk : tkK t L s1 = 19 ∨ tkK t L s1 = 20) (hpe : s1.pe = P ++ S) (hP : ∀ x ∈ P, bnd (tkK t L s1) ≤ bnd x) (hS : ∀ x, S.head? = some x → bnd x < bnd (tkK t L s1)) (hc : s1.cur ++ mO P = C) : cst s1 (tkK t L s1) (tkV t L s1) = (0, mkS s1.pos 2 (tkK t L s1 :: S) s1.cp s1.lw C s1.rl) := by
  rcases h.cstc with ⟨e, hn⟩ | ⟨-, e⟩
  · rw [e]
    unfold cstJ
    rw [if_neg hn, if_pos hk]
    have er := rlA_app hS P s1.cur hP
    rw [← hpe] at er
    show (0, mkS s1.pos 2 (tkK t L s1 :: (rlA (bnd (tkK t L s1)) s1.pe s1.cur).1) s1.cp s1.lw (rlA (bnd (tkK t L s1)) s1.pe s1.cur).2 s1.rl) = _
    rw [er, hc]
  · omega
/-- a comparison, a bracket's condition or a not -/
def XCnd (t : Nat → Nat) (L : Nat) (_ s' : CS) : Prop := AFT t L s'
def XEv (t : Nat → Nat) (L : Nat) (_ s' : CS) : Prop := AFT t L s' ∧ tkK t L s' ≠ 20
def XAny (t : Nat → Nat) (L : Nat) (_ s' : CS) : Prop := AFT t L s' ∧ tkK t L s' ≠ 20 ∧ tkK t L s' ≠ 19
def ECnd (s : CS) : Prop := s.mode = 2
def ONE (t : Nat → Nat) (L : Nat) (rl : ARule) (fo : FF) (d : Nat) : Prop := PRO t L rl fo 3 4 3 2 true ECnd (XCnd t L) d
theorem m_every (t : Nat → Nat) (L : Nat) (rl : ARule) (fo : FF) (d : Nat) (ho : ONE t L rl fo d) : PRO t L rl (f_X11_every fo) 2 2 4 1 true ECnd (XEv t L) d := by
  intro g m o s ts hI hrl hM hop hd hcap hts hhd hE
  have hL := hM.1.1
  rcases ho g m o s ts hI hrl hM hop hd (by omega) hts (fun k hk => by have := hhd k hk; omega) hE with hb | ⟨g1, s1, P, W, e1, G1, P1, x1⟩
  · left
    refine hb.map (fun g' e => ?_)
    simp (disch := first | assumption | omega) only [f_X11_every, kb_X11_every_0, KL, KB, KC, KI, KJ, KZ, bI_0, bI_n, nI00, nI10, ne_eq, Classical.not_not, not_true_eq_false, not_false_eq_true, if_true, if_false, ite_not, ite_self, Bool.false_eq_true, nIne1, O_mo, e]
  have loop : (fun r => BADO t L s g m o r ∨ ∃ g' s' P W, r = some (some (.int (nI 1)), hp g' m o) ∧ GOOD t L rl 2 4 true s ts d g g' s' P W ∧ s.pos < s'.pos ∧ XEv t L s s') (kl_X11_every_9 fo [.ref 188] [] (hp g1 m o)) := by
    unfold kl_X11_every_9
    refine kFix_rule (fun n ls st h => ∃ (g1 : GG) (s1 : CS) (P : List Nat) (W : List (Nat × Nat)) (u : List Value), L - s1.pos = n ∧ ls = .ref 188 :: u ∧ st = [] ∧ h = hp g1 m o ∧ GOOD t L rl 2 4 true s ts d g g1 s1 P W ∧ s.pos < s1.pos ∧ AFT t L s1) (fun r => BADO t L s g m o r ∨ ∃ g' s' P W, r = some (some (.int (nI 1)), hp g' m o) ∧ GOOD t L rl 2 4 true s ts d g g' s' P W ∧ s.pos < s'.pos ∧ XEv t L s s') ?_ FU (L - s1.pos) (by unfold FU; omega) _ _ _ ⟨g1, s1, P, W, [], rfl, rfl, rfl, rfl, ?_, P1, x1⟩
    · rintro S n ih ls st h ⟨g1, s1, P, W, u, hn, rfl, rfl, rfl, G1, hpos, hA⟩
      have G1' := G1
      obtain ⟨f1, R1, I1, hpe, hrl1, hlw, hcur, M1, hP, hPl, hPo, T1⟩ := G1
      obtain ⟨h12, h14⟩ := M1.tok
      have hK := tkK_le t L s1
      obtain ⟨y0, -, -, -, -, -, -, -, -, -, y20, -⟩ := mTk_tab ⟨tkK t L s1, by omega⟩
      have s1pe : s1.pe.length ≤ 60 := G1'.pe hcap (by omega) (by omega)
      have s1m := hA.md0
      have y0' : mTk (tkK t L s1) < 200 := y0
      have f5 : (mTk (tkK t L s1) = 5) = (tkK t L s1 = 20) := propext y20
      by_cases hk : tkK t L s1 = 20
      · have k20 : (tkK t L s1 = 20) = True := eq_true hk
        have hcst := hA.join (Or.inr hk) hpe (fun x hx => by rw [hk]; exact hP x hx) (fun x hx => by rw [hk]; exact hhd x hx) hcur
        obtain ⟨r1, r2, r3⟩ := stp1 I1 (by omega) (Or.inl s1m) hcst
        obtain ⟨g2, e2, M2, f2⟩ := M1.next (m := m) (o := o)
        have o2 : opn (tkK t L s1 :: s.pe) = d := by
          show (if tkK t L s1 = 21 ∨ tkK t L s1 = 27 then 1 else 0) + opn s.pe = d
          rw [if_neg (by omega), hop, Nat.zero_add]
        rcases ho g2 m o _ (true :: ts) r2 hrl1 M2 o2 hd (by show (tkK t L s1 :: s.pe).length ≤ 3 * d + 2; rw [List.length_cons]; omega) (by show (true :: ts).length ≤ (tkK t L s1 :: s.pe).length; rw [List.length_cons, List.length_cons]; omega) (fun k hk2 => by
          have : some (tkK t L s1) = some k := hk2
          cases this; rw [hk]; decide) rfl with hb | ⟨g3, s3, P3, W3, e3, G3, P3', z1⟩
        · left
          refine (hb.of (R1.tr r1) (f1.tr f2)).map (fun g' e => ?_)
          simp (disch := first | assumption | omega) only [KL, KB, KC, KI, KJ, KZ, bI_0, bI_n, nI00, nI10, ne_eq, Classical.not_not, not_true_eq_false, not_false_eq_true, if_true, if_false, ite_not, ite_self, Bool.false_eq_true, nIne1, kMask, mask, mask_n, O_mo, h12, nIeq, f5, k20, e2, e]
        · have M3 := G3.2.2.2.2.2.2.2.1
          have hroom := G3.room hL rfl
          obtain ⟨g4, e4, M4, f4⟩ := M3.lay (m := m) (o := o) hroom (opM (tkK t L s1), 0) (nI 0) (fun q => rfl)
          have a1 : s1.pos < tkE t L s1 := r3
          have a2 : tkE t L s1 < s3.pos := P3'
          have a3 : s3.pos ≤ L := G3.2.2.1.2.2.2.1
          have hgood := ih (L - s3.pos) (by omega) [.ref 188] [] (hp g4 m o) ⟨g4, s3, P3 ++ [tkK t L s1], W ++ W3 ++ [(opM (tkK t L s1), 0)], [], rfl, rfl, rfl, rfl, GOOD.bin G1' f2 r1 rfl rfl rfl G3 f4 M4 (by rw [hk]; rfl) (by omega) (by omega) (by rw [hk]; decide) (by omega) (by omega) (by rw [hk]; decide), by omega, z1⟩
          rw [hk, show opM 20 = 25 from rfl] at e4
          simp (disch := first | assumption | omega) only [KL, KB, KC, KI, KJ, KZ, bI_0, bI_n, nI00, nI10, ne_eq, Classical.not_not, not_true_eq_false, not_false_eq_true, if_true, if_false, ite_not, ite_self, Bool.false_eq_true, nIne1, kMask, mask, mask_n, O_mo, h12, nIeq, f5, k20, e2, e3, e4]
          exact hgood
      · have k20 : (tkK t L s1 = 20) = False := eq_false hk
        right
        refine ⟨g1, s1, P, W, ?_, G1', hpos, hA, hk⟩
        simp (disch := first | assumption | omega) only [KL, KB, KC, KI, KJ, KZ, bI_0, bI_n, nI00, nI10, ne_eq, Classical.not_not, not_true_eq_false, not_false_eq_true, if_true, if_false, ite_not, ite_self, Bool.false_eq_true, nIne1, kMask, mask, mask_n, O_mo, h12, nIeq, f5, k20]
    · obtain ⟨f1, R1, I1, hpe, hrl1, hlw, hcur, M1, hP, hPl, hPo, T1⟩ := G1
      exact ⟨f1, R1, I1, hpe, hrl1, hlw, hcur, M1, fun k hk => by have := hP k hk; omega, by omega, hPo, T1⟩
  rcases loop with hb | ⟨g', s', P, W, e, w⟩
  · left
    refine hb.map (fun g' e => ?_)
    simp (disch := first | assumption | omega) only [f_X11_every, kb_X11_every_0, KL, KB, KC, KI, KJ, KZ, bI_0, bI_n, nI00, nI10, ne_eq, Classical.not_not, not_true_eq_false, not_false_eq_true, if_true, if_false, ite_not, ite_self, Bool.false_eq_true, nIne1, O_mo, e1, e]
  · right
    refine ⟨g', s', P, W, ?_, w⟩
    simp (disch := first | assumption | omega) only [f_X11_every, kb_X11_every_0, KL, KB, KC, KI, KJ, KZ, bI_0, bI_n, nI00, nI10, ne_eq, Classical.not_not, not_true_eq_false, not_false_eq_true, if_true, if_false, ite_not, ite_self, Bool.false_eq_true, nIne1, O_mo, e1, e]
theorem m_any (t : Nat → Nat) (L : Nat) (rl : ARule) (fo : FF) (d : Nat) (ho : ONE t L rl fo d) : PRO t L rl (f_X11_any fo) 1 1 5 0 true ECnd (XAny t L) d := by
  have hev := m_every t L rl fo d ho
  intro g m o s ts hI hrl hM hop hd hcap hts hhd hE
  have hL := hM.1.1
  rcases hev g m o s ts hI hrl hM hop hd (by omega) hts (fun k hk => by have := hhd k hk; omega) hE with hb | ⟨g1, s1, P, W, e1, G1, P1, x1, x2⟩
  · left
    refine hb.map (fun g' e => ?_)
    simp (disch := first | assumption | omega) only [f_X11_any, kb_X11_any_0, KL, KB, KC, KI, KJ, KZ, bI_0, bI_n, nI00, nI10, ne_eq, Classical.not_not, not_true_eq_false, not_false_eq_true, if_true, if_false, ite_not, ite_self, Bool.false_eq_true, nIne1, O_mo, e]
  have loop : (fun r => BADO t L s g m o r ∨ ∃ g' s' P W, r = some (some (.int (nI 1)), hp g' m o) ∧ GOOD t L rl 1 5 true s ts d g g' s' P W ∧ s.pos < s'.pos ∧ XAny t L s s') (kl_X11_any_9 fo [.ref 188] [] (hp g1 m o)) := by
    unfold kl_X11_any_9
    refine kFix_rule (fun n ls st h => ∃ (g1 : GG) (s1 : CS) (P : List Nat) (W : List (Nat × Nat)) (u : List Value), L - s1.pos = n ∧ ls = .ref 188 :: u ∧ st = [] ∧ h = hp g1 m o ∧ GOOD t L rl 1 5 true s ts d g g1 s1 P W ∧ s.pos < s1.pos ∧ AFT t L s1 ∧ tkK t L s1 ≠ 20) (fun r => BADO t L s g m o r ∨ ∃ g' s' P W, r = some (some (.int (nI 1)), hp g' m o) ∧ GOOD t L rl 1 5 true s ts d g g' s' P W ∧ s.pos < s'.pos ∧ XAny t L s s') ?_ FU (L - s1.pos) (by unfold FU; omega) _ _ _ ⟨g1, s1, P, W, [], rfl, rfl, rfl, rfl, ?_, P1, x1, x2⟩
    · rintro S n ih ls st h ⟨g1, s1, P, W, u, hn, rfl, rfl, rfl, G1, hpos, hA, hn20⟩
      have G1' := G1
      obtain ⟨f1, R1, I1, hpe, hrl1, hlw, hcur, M1, hP, hPl, hPo, T1⟩ := G1
      obtain ⟨h12, h14⟩ := M1.tok
      have hK := tkK_le t L s1
      obtain ⟨y0, -, -, -, -, -, -, -, -, -, -, y19, -⟩ := mTk_tab ⟨tkK t L s1, by omega⟩
      have s1pe : s1.pe.length ≤ 60 := G1'.pe hcap (by omega) (by omega)
      have s1m := hA.md0
      have y0' : mTk (tkK t L s1) < 200 := y0
      have f4' : (mTk (tkK t L s1) = 4) = (tkK t L s1 = 19) := propext y19
      by_cases hk : tkK t L s1 = 19
      · have k19 : (tkK t L s1 = 19) = True := eq_true hk
        have hcst := hA.join (Or.inl hk) hpe (fun x hx => by rw [hk]; exact hP x hx) (fun x hx => by rw [hk]; exact hhd x hx) hcur
        obtain ⟨r1, r2, r3⟩ := stp1 I1 (by omega) (Or.inl s1m) hcst
        obtain ⟨g2, e2, M2, f2⟩ := M1.next (m := m) (o := o)
        have o2 : opn (tkK t L s1 :: s.pe) = d := by
          show (if tkK t L s1 = 21 ∨ tkK t L s1 = 27 then 1 else 0) + opn s.pe = d
          rw [if_neg (by omega), hop, Nat.zero_add]
        rcases hev g2 m o _ (true :: ts) r2 hrl1 M2 o2 hd (by show (tkK t L s1 :: s.pe).length ≤ 3 * d + 1; rw [List.length_cons]; omega) (by show (true :: ts).length ≤ (tkK t L s1 :: s.pe).length; rw [List.length_cons, List.length_cons]; omega) (fun k hk2 => by
          have : some (tkK t L s1) = some k := hk2
          cases this; rw [hk]; decide) rfl with hb | ⟨g3, s3, P3, W3, e3, G3, P3', z1, z2⟩
        · left
          refine (hb.of (R1.tr r1) (f1.tr f2)).map (fun g' e => ?_)
          simp (disch := first | assumption | omega) only [KL, KB, KC, KI, KJ, KZ, bI_0, bI_n, nI00, nI10, ne_eq, Classical.not_not, not_true_eq_false, not_false_eq_true, if_true, if_false, ite_not, ite_self, Bool.false_eq_true, nIne1, kMask, mask, mask_n, O_mo, h12, nIeq, f4', k19, e2, e]
        · have M3 := G3.2.2.2.2.2.2.2.1
          have hroom := G3.room hL rfl
          obtain ⟨g4, e4, M4, f4⟩ := M3.lay (m := m) (o := o) hroom (opM (tkK t L s1), 0) (nI 0) (fun q => rfl)
          have a1 : s1.pos < tkE t L s1 := r3
          have a2 : tkE t L s1 < s3.pos := P3'
          have a3 : s3.pos ≤ L := G3.2.2.1.2.2.2.1
          have hgood := ih (L - s3.pos) (by omega) [.ref 188] [] (hp g4 m o) ⟨g4, s3, P3 ++ [tkK t L s1], W ++ W3 ++ [(opM (tkK t L s1), 0)], [], rfl, rfl, rfl, rfl, GOOD.bin G1' f2 r1 rfl rfl rfl G3 f4 M4 (by rw [hk]; rfl) (by omega) (by omega) (by rw [hk]; decide) (by omega) (by omega) (by rw [hk]; decide), by omega, z1, z2⟩
          rw [hk, show opM 19 = 26 from rfl] at e4
          simp (disch := first | assumption | omega) only [KL, KB, KC, KI, KJ, KZ, bI_0, bI_n, nI00, nI10, ne_eq, Classical.not_not, not_true_eq_false, not_false_eq_true, if_true, if_false, ite_not, ite_self, Bool.false_eq_true, nIne1, kMask, mask, mask_n, O_mo, h12, nIeq, f4', k19, e2, e3, e4]
          exact hgood
      · have k19 : (tkK t L s1 = 19) = False := eq_false hk
        right
        refine ⟨g1, s1, P, W, ?_, G1', hpos, hA, hn20, hk⟩
        simp (disch := first | assumption | omega) only [KL, KB, KC, KI, KJ, KZ, bI_0, bI_n, nI00, nI10, ne_eq, Classical.not_not, not_true_eq_false, not_false_eq_true, if_true, if_false, ite_not, ite_self, Bool.false_eq_true, nIne1, kMask, mask, mask_n, O_mo, h12, nIeq, f4', k19]
    · obtain ⟨f1, R1, I1, hpe, hrl1, hlw, hcur, M1, hP, hPl, hPo, T1⟩ := G1
      exact ⟨f1, R1, I1, hpe, hrl1, hlw, hcur, M1, fun k hk => by have := hP k hk; omega, by omega, hPo, T1⟩
  rcases loop with hb | ⟨g', s', P, W, e, w⟩
  · left
    refine hb.map (fun g' e => ?_)
    simp (disch := first | assumption | omega) only [f_X11_any, kb_X11_any_0, KL, KB, KC, KI, KJ, KZ, bI_0, bI_n, nI00, nI10, ne_eq, Classical.not_not, not_true_eq_false, not_false_eq_true, if_true, if_false, ite_not, ite_self, Bool.false_eq_true, nIne1, O_mo, e1, e]
  · right
    refine ⟨g', s', P, W, ?_, w⟩
    simp (disch := first | assumption | omega) only [f_X11_any, kb_X11_any_0, KL, KB, KC, KI, KJ, KZ, bI_0, bI_n, nI00, nI10, ne_eq, Classical.not_not, not_true_eq_false, not_false_eq_true, if_true, if_false, ite_not, ite_self, Bool.false_eq_true, nIne1, O_mo, e1, e]
