-- ===== the model's descent: units, products =====
def EntO (t : Nat → Nat) (L : Nat) (c : Bool) (s : CS) : Prop := (s.mode = 3 ∧ s.cp = c) ∨ (s.mode = 2 ∧ tkK t L s ≠ 21 ∧ tkK t L s ≠ 27 ∧ c = false)
theorem cst_opnd {t : Nat → Nat} {L : Nat} {c : Bool} {s : CS} (h : EntO t L c s) : cst s (tkK t L s) (tkV t L s) = opnd (mkS s.pos s.mode s.pe c s.lw s.cur s.rl) (tkK t L s) (tkV t L s) := by
  rcases h with ⟨a, b⟩ | ⟨a, b, b', e⟩
  · unfold cst
    rw [if_neg (by omega), if_neg (by omega), if_neg (by omega), if_pos a, ← b]
    rfl
  · unfold cst
    rw [if_neg (by omega), if_neg (by omega), if_pos a]
    unfold cst2
    rw [if_neg (by omega), e]
theorem cst_op {s1 : CS} {P S : List Nat} {C : List (Nat × Nat)} {k : Nat} (hpe : s1.pe = P ++ S) (hP : ∀ x ∈ P, bnd k ≤ bnd x) (hS : ∀ x, S.head? = some x → bnd x < bnd k) (hc : s1.cur ++ mO P = C) (hm : s1.mode = 5) (hk : (23 ≤ k ∧ k ≤ 25) ∨ (29 ≤ k ∧ k ≤ 31 ∧ s1.cp = false)) (v : Nat) : cst s1 k v = (0, mkS s1.pos 3 (k :: S) (s1.cp || decide (29 ≤ k)) s1.lw C s1.rl) := by
  unfold cst
  rw [if_neg (by omega), if_neg (by omega), if_neg (by omega), if_neg (by omega), if_neg (by omega), if_pos (by omega)]
  unfold cstO
  rw [if_neg (by
    intro q
    rcases q with q | ⟨q, q'⟩
    · exact q hm
    · rcases hk with hk | ⟨-, -, hk⟩
      · omega
      · rw [hk] at q'; cases q'), if_neg (by omega)]
  have e := rlA_app hS P s1.cur hP
  rw [← hpe] at e
  show (0, mkS s1.pos 3 (k :: (rlA (bnd k) s1.pe s1.cur).1) (s1.cp || decide (29 ≤ k)) s1.lw (rlA (bnd k) s1.pe s1.cur).2 s1.rl) = _
  rw [e, hc]
theorem cst_part {s1 : CS} {P S : List Nat} {C : List (Nat × Nat)} (hpe : s1.pe = P ++ S) (hP : ∀ x ∈ P, 6 ≤ bnd x) (hS : ∀ x, S.head? = some x → bnd x < 6) (hc : s1.cur ++ mO P = C) (hm : s1.mode = 5) (v : Nat) : cst s1 26 v = (0, mkS s1.pos 4 S s1.cp s1.lw C s1.rl) := by
  unfold cst
  rw [if_neg (by omega), if_neg (by omega), if_neg (by omega), if_neg (by omega), if_neg (by omega), if_pos (by omega)]
  unfold cstO
  rw [if_neg (by
    intro q
    rcases q with q | ⟨q, q'⟩
    · exact q hm
    · omega), if_pos rfl]
  have e := rlA_app hS P s1.cur hP
  rw [← hpe] at e
  have hb : bnd 26 = 6 := rfl
  show (0, mkS s1.pos 4 (rlA (bnd 26) s1.pe s1.cur).1 s1.cp s1.lw (rlA (bnd 26) s1.pe s1.cur).2 s1.rl) = _
  rw [hb, e, hc]
theorem tkK_le (t : Nat → Nat) (L : Nat) (s : CS) : tkK t L s ≤ 34 := lxK_le t L _
theorem MST.tok {g : GG} {t : Nat → Nat} {L d : Nat} {rl : ARule} {C : List (Nat × Nat)} {s : CS} (h : MST g t L s.pos d rl C) : g 188 12 = nI (mTk (tkK t L s)) ∧ (tkK t L s = 32 → g 188 14 = nI (tkV t L s)) := ⟨h.2.2.1.2.1, h.2.2.1.2.2.2⟩
theorem BADO.map {t : Nat → Nat} {L : Nat} {s : CS} {g : GG} {m o : Nat} {r r' : RS} (h : BADO t L s g m o r) (e : ∀ g', r = some (some (.int (nI 0)), hp g' m o) → r' = some (some (.int (nI 0)), hp g' m o)) : BADO t L s g m o r' := by
  obtain ⟨g1, kd, pl, a, b⟩ := h
  exact ⟨g1, kd, pl, e g1 a, b⟩
theorem m_unit {t : Nat → Nat} {L : Nat} {rl : ARule} {c : Bool} {g : GG} {m o d : Nat} {s : CS} {ts : List Bool} (hI : IV L s) (hrl : s.rl = rl) (hM : MST g t L s.pos d rl s.cur) (h60 : s.pe.length ≤ 60) (hts : ts.length ≤ 50) (hE : EntO t L c s) : BADO t L s g m o (f_X11_unit [.ref 188] (hp g m o)) ∨ ∃ g' z, f_X11_unit [.ref 188] (hp g m o) = some (some (.int (nI 1)), hp g' m o) ∧ FRG g g' ∧ RNS t L s (mkS (tkE t L s) 5 s.pe c s.lw (s.cur ++ [z]) s.rl) ∧ IV L (mkS (tkE t L s) 5 s.pe c s.lw (s.cur ++ [z]) s.rl) ∧ MST g' t L (tkE t L s) d rl (s.cur ++ [z]) ∧ TR [z] ts (false :: ts) ∧ s.pos < tkE t L s := by
  have hL := hM.1.1
  have hm0 : s.mode ≠ 0 := by rcases hE with a | a <;> omega
  obtain ⟨h12, h14⟩ := hM.tok
  have hK := tkK_le t L s
  obtain ⟨y0, y2, yn, -⟩ := mTk_tab ⟨tkK t L s, by omega⟩
  have hc := cst_opnd hE
  have hfit := hI.fit hL
  have hpos := hI.2.2.2.2 hm0
  have hposL := hI.2.2.2.1
  rw [hrl] at hfit
  have hn : (allS rl ++ s.cur).length < 400 := by
    rw [List.length_append]
    have : szS s < s.pos := hpos
    unfold szS at this
    rw [hrl] at this
    omega
  have fin : ∀ (z : Nat × Nat) (x : Int32), (z.1 = 0 ∨ z.1 = 20 → x = nI z.2) → z.1 ≠ 20 → z.2 < 10000 → z.1 ≤ 16 → g 188 14 = x → cst s (tkK t L s) (tkV t L s) = (0, mkS s.pos 5 s.pe c s.lw (s.cur ++ [z]) s.rl) → ∃ g', (kb_X11_unit_46 [.ref 188, .int (bI (nI 41 ≤ nI (mTk (tkK t L s)) ∧ nI (mTk (tkK t L s)) ≤ nI 56))] [.int (nI z.1), .ref 188] (hp g m o)) = some (some (.int (nI 1)), hp g' m o) ∧ FRG g g' ∧ RNS t L s (mkS (tkE t L s) 5 s.pe c s.lw (s.cur ++ [z]) s.rl) ∧ IV L (mkS (tkE t L s) 5 s.pe c s.lw (s.cur ++ [z]) s.rl) ∧ MST g' t L (tkE t L s) d rl (s.cur ++ [z]) ∧ TR [z] ts (false :: ts) ∧ s.pos < tkE t L s := by
    intro z x hx z20 zv z16 h14x hcst
    obtain ⟨g1, e1, M1, f1⟩ := hM.lay (m := m) (o := o) hn z x hx
    obtain ⟨g2, e2, M2, f2⟩ := M1.next (m := m) (o := o)
    obtain ⟨r1, r2, r3⟩ := stp1 hI h60 (Or.inl hm0) hcst
    refine ⟨g2, ?_, f1.tr f2, r1, r2, M2, TR.one (fun q => absurd q z20) zv ?_ ?_, r3⟩
    · rw [← h14x] at e1
      simp (disch := first | assumption | omega) only [kb_X11_unit_46, KL, KB, KC, KI, KJ, KZ, bI_0, bI_n, nI00, nI10, ne_eq, Classical.not_not, not_true_eq_false, not_false_eq_true, if_true, if_false, ite_not, ite_self, Bool.false_eq_true, nIne1, O_mo, e1, e2]
    · unfold opTy; rw [if_pos z16]
    · rw [List.length_cons]; omega
  by_cases k16 : tkK t L s < 16
  · right
    have hm : mTk (tkK t L s) = 41 + tkK t L s := by unfold mTk; rw [if_pos k16]
    have a2 : (41 + tkK t L s = 2) = False := eq_false (by omega)
    have hin : (41 ≤ 41 + tkK t L s ∧ 41 + tkK t L s ≤ 56) = True := eq_true (by omega)
    have hs : nI (41 + tkK t L s) - nI 40 = nI (tkK t L s + 1) := by rw [nI_sub (by omega)]; congr 1; omega
    obtain ⟨g1, e1, w⟩ := fin (tkK t L s + 1, 0) (g 188 14) (fun q => by exfalso; rcases q with q | q; exact absurd q (Nat.succ_ne_zero _); (have : tkK t L s + 1 = 20 := q; omega)) (by show tkK t L s + 1 ≠ 20; omega) (by show 0 < 10000; omega) (by show tkK t L s + 1 ≤ 16; omega) rfl (by rw [hc]; unfold opnd; rw [if_neg (by omega), if_neg (by omega)]; rfl)
    refine ⟨g1, _, ?_, w⟩
    rw [hm] at h12 e1
    rw [← e1]
    simp (disch := first | assumption | omega) only [f_X11_unit, kb_X11_unit_0, kb_X11_unit_30, KL, KB, KC, KI, KJ, KZ, bI_0, bI_n, nI00, nI10, ne_eq, Classical.not_not, not_true_eq_false, not_false_eq_true, if_true, if_false, ite_not, ite_self, Bool.false_eq_true, nIne1, O_mo, h12, m_isIn, nIle, nIeq, a2, hin, hs]
  · by_cases k32 : tkK t L s = 32
    · right
      have hm : mTk (tkK t L s) = 2 := y2.mpr k32
      have hin : (41 ≤ 2 ∧ 2 ≤ 56) = False := eq_false (by omega)
      obtain ⟨g1, e1, w⟩ := fin (0, tkV t L s) (nI (tkV t L s)) (fun _ => rfl) (by show (0 : Nat) ≠ 20; omega) (lxV_lt k32) (by show 0 ≤ 16; omega) (h14 k32) (by rw [hc]; unfold opnd; rw [if_pos k32]; rfl)
      refine ⟨g1, _, ?_, w⟩
      rw [hm] at h12 e1
      rw [← e1]
      simp (disch := first | assumption | omega) only [f_X11_unit, kb_X11_unit_0, kb_X11_unit_30, KL, KB, KC, KI, KJ, KZ, bI_0, bI_n, nI00, nI10, ne_eq, Classical.not_not, not_true_eq_false, not_false_eq_true, if_true, if_false, ite_not, ite_self, Bool.false_eq_true, nIne1, O_mo, h12, m_isIn, nIle, hin, eq_self]
    · left
      have n2 : (mTk (tkK t L s) = 2) = False := eq_false (fun q => k32 (y2.mp q))
      have nin : (41 ≤ mTk (tkK t L s) ∧ mTk (tkK t L s) ≤ 56) = False := eq_false (fun q => k16 (yn.mp q))
      have y0' : mTk (tkK t L s) < 200 := y0
      obtain ⟨g1, e1, f1, b1, b2⟩ := hM.bad (m := m) (o := o) 1
      have hf := flt1 (kd := 1) (s1 := mkS s.pos s.mode s.pe c s.lw s.cur s.rl) hI h60 (Or.inl hm0) (by decide) (by rw [hc]; unfold opnd; rw [if_neg k32, if_pos (by omega)])
      refine ⟨g1, 1, tkP t L s, ?_, f1, b1, b2, by omega, by omega, hf⟩
      simp (disch := first | assumption | omega) only [f_X11_unit, kb_X11_unit_0, kb_X11_unit_30, KL, KB, KC, KI, KJ, KZ, bI_0, bI_n, nI00, nI10, ne_eq, Classical.not_not, not_true_eq_false, not_false_eq_true, if_true, if_false, ite_not, ite_self, Bool.false_eq_true, nIne1, O_mo, h12, m_isIn, nIle, nIeq, n2, nin, e1]
def XProd (t : Nat → Nat) (L : Nat) (c : Bool) (_ s' : CS) : Prop := s'.mode = 5 ∧ s'.cp = c ∧ tkK t L s' ≠ 25 ∧ tkK t L s' ≠ 26
theorem m_product (t : Nat → Nat) (L : Nat) (rl : ARule) (c : Bool) (d : Nat) : PRO t L rl f_X11_product 6 6 1 5 false (EntO t L c) (XProd t L c) d := by
  intro g m o s ts hI hrl hM hop hd hcap hts hhd hE
  have hL := hM.1.1
  have hm0 : s.mode ≠ 0 := by rcases hE with a | a <;> omega
  have p60 : s.pe.length ≤ 40 := by omega
  rcases m_unit (m := m) (o := o) (ts := ts) hI hrl hM (by omega) (by omega) hE with hb | ⟨g1, z, e1, f1, R1, I1, M1, T1, P1⟩
  · left
    refine hb.map (fun g' e => ?_)
    simp (disch := first | assumption | omega) only [f_X11_product, kb_X11_product_0, KL, KB, KC, KI, KJ, KZ, bI_0, bI_n, nI00, nI10, ne_eq, Classical.not_not, not_true_eq_false, not_false_eq_true, if_true, if_false, ite_not, ite_self, Bool.false_eq_true, nIne1, O_mo, e]
  have loop : (fun r => BADO t L s g m o r ∨ ∃ g' s' P W, r = some (some (.int (nI 1)), hp g' m o) ∧ GOOD t L rl 6 1 false s ts d g g' s' P W ∧ s.pos < s'.pos ∧ XProd t L c s s') (kl_X11_product_9 [.ref 188] [] (hp g1 m o)) := by
    unfold kl_X11_product_9
    refine kFix_rule (fun n ls st h => ∃ (g1 : GG) (s1 : CS) (P : List Nat) (W : List (Nat × Nat)) (u : List Value), L - s1.pos = n ∧ ls = .ref 188 :: u ∧ st = [] ∧ h = hp g1 m o ∧ GOOD t L rl 6 1 false s ts d g g1 s1 P W ∧ s.pos < s1.pos ∧ s1.mode = 5 ∧ s1.cp = c) (fun r => BADO t L s g m o r ∨ ∃ g' s' P W, r = some (some (.int (nI 1)), hp g' m o) ∧ GOOD t L rl 6 1 false s ts d g g' s' P W ∧ s.pos < s'.pos ∧ XProd t L c s s') ?_ FU (L - tkE t L s) (by unfold FU; omega) _ _ _ ⟨g1, mkS (tkE t L s) 5 s.pe c s.lw (s.cur ++ [z]) s.rl, [], [z], [], rfl, rfl, rfl, rfl, ⟨f1, R1, I1, rfl, hrl, rfl, List.append_nil _, M1, fun k hk => (List.not_mem_nil hk).elim, Nat.zero_le _, by show 0 + d ≤ 8; omega, T1⟩, P1, rfl, rfl⟩
    rintro S n ih ls st h ⟨g1, s1, P, W, u, hn, rfl, rfl, rfl, ⟨f1, R1, I1, hpe, hrl1, hlw, hcur, M1, hP, hPl, hPo, T1⟩, hpos, hm5, hcp⟩
    obtain ⟨h12, h14⟩ := M1.tok
    have hK := tkK_le t L s1
    obtain ⟨y0, y2, -, y25, y26, -⟩ := mTk_tab ⟨tkK t L s1, by omega⟩
    have hPb : ∀ k ∈ P, 6 ≤ bnd k := hP
    have hopP : opn P = 0 := by
      have : ∀ l : List Nat, (∀ k ∈ l, 6 ≤ bnd k) → opn l = 0 := by
        intro l
        induction l with
        | nil => intro _; rfl
        | cons x l ih2 =>
          intro hh
          have a := hh x (List.mem_cons_self ..)
          have b : ¬ (x = 21 ∨ x = 27) := by
            intro q
            rcases q with rfl | rfl
            · exact absurd a (by decide)
            · exact absurd a (by decide)
          show (if x = 21 ∨ x = 27 then 1 else 0) + opn l = 0
          rw [if_neg b, ih2 (fun k hk => hh k (List.mem_cons_of_mem _ hk))]
      exact this P hPb
    have s1pe : s1.pe.length ≤ 42 := by rw [hpe, List.length_append]; omega
    have s1m : s1.mode ≠ 0 := by omega
    have y0' : mTk (tkK t L s1) < 200 := y0
    have f142 : (mTk (tkK t L s1) = 142) = (tkK t L s1 = 25) := propext y25
    have f147 : (mTk (tkK t L s1) = 147) = (tkK t L s1 = 26) := propext y26
    by_cases k25 : tkK t L s1 = 25
    · -- times
      have k25' : (tkK t L s1 = 25) = True := eq_true k25
      have k26' : (tkK t L s1 = 26) = False := eq_false (by omega)
      have hcst := cst_op hpe (k := 25) hP hhd hcur hm5 (Or.inl (by omega)) (tkV t L s1)
      rw [← k25] at hcst
      rw [hcp] at hcst
      have hfalse : (c || decide (29 ≤ tkK t L s1)) = c := by rw [decide_eq_false (by omega), Bool.or_false]
      rw [hfalse] at hcst
      obtain ⟨r1, r2, r3⟩ := stp1 I1 (by omega) (Or.inl s1m) hcst
      obtain ⟨g2, e2, M2, f2⟩ := M1.next (m := m) (o := o)
      rw [k25] at r1 r2
      have s2pe : (25 :: s.pe).length ≤ 60 := by rw [List.length_cons]; omega
      rcases m_unit (m := m) (o := o) (ts := false :: ts) (c := c) r2 hrl1 M2 s2pe (by rw [List.length_cons]; omega) (Or.inl ⟨rfl, rfl⟩) with hb | ⟨g3, z, e3, f3, R3, I3, M3, T3, P3⟩
      · left
        refine (hb.of (R1.tr r1) (f1.tr f2)).map (fun g' e => ?_)
        simp (disch := first | assumption | omega) only [kb_X11_product_29, kb_X11_product_44, kb_X11_product_113, KL, KB, KC, KI, KJ, KZ, bI_0, bI_n, nI00, nI10, ne_eq, Classical.not_not, not_true_eq_false, not_false_eq_true, if_true, if_false, ite_not, ite_self, Bool.false_eq_true, nIne1, kMask, mask, mask_n, O_mo, h12, nIeq, f142, f147, k25', k26', e2, e]
      · have hfit := I3.fit hL
        have hlen : (allS rl ++ (s.cur ++ W ++ [z])).length < 400 := by
          have e1 : (allS s1.rl).length + (s.cur ++ W ++ [z]).length + (25 :: s.pe).length ≤ 400 := hfit
          rw [hrl1, List.length_cons] at e1
          rw [List.length_append]; omega
        obtain ⟨g4, e4, M4, f4⟩ := M3.lay (m := m) (o := o) hlen (19, 0) (nI 0) (fun q => rfl)
        have hgood := ih (L - tkE t L ((mkS s1.pos 3 (25 :: s.pe) c s1.lw (s.cur ++ W) s1.rl).to (tkE t L s1))) (by
          have a1 : s1.pos < tkE t L s1 := r3
          have a2 : tkE t L s1 < tkE t L ((mkS s1.pos 3 (25 :: s.pe) c s1.lw (s.cur ++ W) s1.rl).to (tkE t L s1)) := P3
          have a3 : tkE t L ((mkS s1.pos 3 (25 :: s.pe) c s1.lw (s.cur ++ W) s1.rl).to (tkE t L s1)) ≤ L := I3.2.2.2.1
          omega) [.ref 188, .int (nI 0)] [] (hp g4 m o) ⟨g4, _, [25], W ++ [z] ++ [(19, 0)], [.int (nI 0)], rfl, rfl, rfl, rfl, ⟨((f1.tr f2).tr f3).tr f4, (R1.tr r1).tr R3, I3, rfl, hrl1, hlw, by show s.cur ++ W ++ [z] ++ [(19, 0)] = s.cur ++ (W ++ [z] ++ [(19, 0)]); simp only [List.append_assoc], by rw [show s.cur ++ (W ++ [z] ++ [(19, 0)]) = s.cur ++ W ++ [z] ++ [(19, 0)] by simp only [List.append_assoc]]; exact M4, fun k hk => by rw [List.mem_singleton.mp hk]; decide, by decide, by show 0 + d ≤ 8; omega, (T1.app T3).app (TR.one (fun q => absurd q (by decide)) (by decide) rfl (by rw [List.length_cons]; omega))⟩, by have a2 : tkE t L s1 < tkE t L ((mkS s1.pos 3 (25 :: s.pe) c s1.lw (s.cur ++ W) s1.rl).to (tkE t L s1)) := P3; show s.pos < tkE t L ((mkS s1.pos 3 (25 :: s.pe) c s1.lw (s.cur ++ W) s1.rl).to (tkE t L s1)); omega, rfl, rfl⟩
        simp (disch := first | assumption | omega) only [kb_X11_product_29, kb_X11_product_44, kb_X11_product_113, KL, KB, KC, KI, KJ, KZ, bI_0, bI_n, nI00, nI10, ne_eq, Classical.not_not, not_true_eq_false, not_false_eq_true, if_true, if_false, ite_not, ite_self, Bool.false_eq_true, nIne1, kMask, mask, mask_n, O_mo, h12, nIeq, f142, f147, k25', k26', e2, e3, e4]
        exact hgood
    · have k25' : (tkK t L s1 = 25) = False := eq_false k25
      by_cases k26 : tkK t L s1 = 26
      · have k26' : (tkK t L s1 = 26) = True := eq_true k26
        have hcst := cst_part hpe hP hhd hcur hm5 (tkV t L s1)
        rw [← k26, hcp] at hcst
        obtain ⟨r1, r2, r3⟩ := stp1 I1 (by omega) (Or.inl s1m) hcst
        obtain ⟨g2, e2, M2, f2⟩ := M1.next (m := m) (o := o)
        generalize hs2 : (mkS s1.pos 4 s.pe c s1.lw (s.cur ++ W) s1.rl).to (tkE t L s1) = s2 at r1 r2
        have M2' : MST g2 t L s2.pos d rl (s.cur ++ W) := by rw [← hs2]; exact M2
        have s2m : s2.mode = 4 := by rw [← hs2]; rfl
        have s2pe : s2.pe = s.pe := by rw [← hs2]; rfl
        have s2cur : s2.cur = s.cur ++ W := by rw [← hs2]; rfl
        have s2rl : s2.rl = rl := by rw [← hs2]; exact hrl1
        have s2lw : s2.lw = s.lw := by rw [← hs2]; exact hlw
        have s2cp : s2.cp = c := by rw [← hs2]; rfl
        have s2pos : s2.pos = tkE t L s1 := by rw [← hs2]; rfl
        have s2m0 : s2.mode ≠ 0 := by omega
        have hcst2 : ∀ k v, cst s2 k v = cst4 s2 k v := fun k v => by
          unfold cst
          rw [if_neg (by omega), if_neg (by omega), if_neg (by omega), if_neg (by omega), if_pos s2m]
        obtain ⟨i12, i14⟩ := M2'.tok
        have hK2 := tkK_le t L s2
        obtain ⟨x0, x2, -⟩ := mTk_tab ⟨tkK t L s2, by omega⟩
        have x0' : mTk (tkK t L s2) < 200 := x0
        have f2' : (mTk (tkK t L s2) = 2) = (tkK t L s2 = 32) := propext x2
        by_cases k32 : tkK t L s2 = 32
        · have k32' : (tkK t L s2 = 32) = True := eq_true k32
          have i14' := i14 k32
          have o10 : ((1 : Nat) = 0) = False := eq_false (by decide)
          have hv := lxV_lt (t := t) (L := L) (q := tkP t L s2) k32
          have hv' : tkV t L s2 < 10000 := hv
          by_cases v0 : tkV t L s2 = 0
          · left
            have v0' : (tkV t L s2 = 0) = True := eq_true v0
            obtain ⟨g3, e3, f3, b1, b2⟩ := M2'.bad (m := m) (o := o) 2
            have hf := flt1 (kd := 2) (s1 := s2) r2 (by rw [s2pe]; omega) (Or.inl s2m0) (by decide) (by rw [hcst2]; unfold cst4; rw [if_pos k32, if_pos v0])
            refine ⟨g3, 2, tkP t L s2, ?_, (f1.tr f2).frm f3, b1, b2, by omega, by omega, (R1.tr r1).flt hf⟩
            simp (disch := first | assumption | omega) only [kb_X11_product_29, kb_X11_product_44, kb_X11_product_113, KL, KB, KC, KI, KJ, KZ, bI_0, bI_n, nI00, nI10, ne_eq, Classical.not_not, not_true_eq_false, not_false_eq_true, if_true, if_false, ite_not, ite_self, Bool.false_eq_true, nIne1, kMask, mask, mask_n, O_mo, h12, nIeq, f142, f147, k25', k26', e2, i12, f2', k32', i14', nIk0, o10, v0', e3]
          · have v0' : (tkV t L s2 = 0) = False := eq_false v0
            have hc3 : cst s2 (tkK t L s2) (tkV t L s2) = (0, mkS s2.pos 5 s2.pe s2.cp s2.lw (s2.cur ++ [(20, tkV t L s2)]) s2.rl) := by
              rw [hcst2]; unfold cst4; rw [if_pos k32, if_neg v0]
            obtain ⟨q1, q2, q3⟩ := stp1 r2 (by rw [s2pe]; omega) (Or.inl s2m0) hc3
            have hz := r2.2.2.2.2 s2m0
            have hz2 := r2.2.2.2.1
            have hlen : (allS rl ++ (s.cur ++ W)).length < 400 := by
              unfold szS at hz
              rw [s2rl, s2cur] at hz
              rw [List.length_append]; omega
            obtain ⟨g3, e3, M3, f3⟩ := M2'.lay (m := m) (o := o) hlen (20, tkV t L s2) (nI (tkV t L s2)) (fun q => rfl)
            obtain ⟨g4, e4, M4, f4⟩ := M3.next (m := m) (o := o)
            rw [s2cur, s2pe, s2lw, s2cp, s2rl] at q1 q2
            have hgood := ih (L - tkE t L s2) (by
              have a3 : tkE t L s2 ≤ L := q2.2.2.2.1
              omega) [.ref 188, .int (nI 1)] [] (hp g4 m o) ⟨g4, _, [], W ++ [(20, tkV t L s2)], [.int (nI 1)], rfl, rfl, rfl, rfl, ⟨((f1.tr f2).tr f3).tr f4, (R1.tr r1).tr q1, q2, rfl, rfl, rfl, by show s.cur ++ W ++ [(20, tkV t L s2)] ++ [] = _; rw [List.append_nil, List.append_assoc], by rw [← List.append_assoc]; exact M4, fun k hk => (List.not_mem_nil hk).elim, Nat.zero_le _, by show 0 + d ≤ 8; omega, T1.app (TR.one (fun _ => Nat.pos_of_ne_zero v0) hv' rfl (by rw [List.length_cons]; omega))⟩, by show s.pos < tkE t L s2; omega, rfl, rfl⟩
            simp (disch := first | assumption | omega) only [kb_X11_product_29, kb_X11_product_44, kb_X11_product_113, KL, KB, KC, KI, KJ, KZ, bI_0, bI_n, nI00, nI10, ne_eq, Classical.not_not, not_true_eq_false, not_false_eq_true, if_true, if_false, ite_not, ite_self, Bool.false_eq_true, nIne1, kMask, mask, mask_n, O_mo, h12, nIeq, f142, f147, k25', k26', e2, i12, f2', k32', i14', nIk0, o10, v0', e3, e4]
            exact hgood
        · left
          have k32' : (tkK t L s2 = 32) = False := eq_false k32
          obtain ⟨g3, e3, f3, b1, b2⟩ := M2'.bad (m := m) (o := o) 1
          have hf := flt1 (kd := 1) (s1 := s2) r2 (by rw [s2pe]; omega) (Or.inl s2m0) (by decide) (by rw [hcst2]; unfold cst4; rw [if_neg k32])
          refine ⟨g3, 1, tkP t L s2, ?_, (f1.tr f2).frm f3, b1, b2, by omega, by omega, (R1.tr r1).flt hf⟩
          simp (disch := first | assumption | omega) only [kb_X11_product_29, kb_X11_product_44, kb_X11_product_113, KL, KB, KC, KI, KJ, KZ, bI_0, bI_n, nI00, nI10, ne_eq, Classical.not_not, not_true_eq_false, not_false_eq_true, if_true, if_false, ite_not, ite_self, Bool.false_eq_true, nIne1, kMask, mask, mask_n, O_mo, h12, nIeq, f142, f147, k25', k26', e2, i12, f2', k32', e3]
      · have k26' : (tkK t L s1 = 26) = False := eq_false k26
        right
        refine ⟨g1, s1, P, W, ?_, ⟨f1, R1, I1, hpe, hrl1, hlw, hcur, M1, hP, hPl, hPo, T1⟩, hpos, hm5, hcp, k25, k26⟩
        simp (disch := first | assumption | omega) only [KL, KB, KC, KI, KJ, KZ, bI_0, bI_n, nI00, nI10, ne_eq, Classical.not_not, not_true_eq_false, not_false_eq_true, if_true, if_false, ite_not, ite_self, Bool.false_eq_true, nIne1, kMask, mask, mask_n, O_mo, h12, nIeq, f142, f147, k25', k26']
  rcases loop with hb | ⟨g', s', P, W, e, w⟩
  · left
    refine hb.map (fun g' e => ?_)
    simp (disch := first | assumption | omega) only [f_X11_product, kb_X11_product_0, KL, KB, KC, KI, KJ, KZ, bI_0, bI_n, nI00, nI10, ne_eq, Classical.not_not, not_true_eq_false, not_false_eq_true, if_true, if_false, ite_not, ite_self, Bool.false_eq_true, nIne1, O_mo, e1, e]
  · right
    refine ⟨g', s', P, W, ?_, w⟩
    simp (disch := first | assumption | omega) only [f_X11_product, kb_X11_product_0, KL, KB, KC, KI, KJ, KZ, bI_0, bI_n, nI00, nI10, ne_eq, Classical.not_not, not_true_eq_false, not_false_eq_true, if_true, if_false, ite_not, ite_self, Bool.false_eq_true, nIne1, O_mo, e1, e]
