-- ===== the model's descent: one condition =====
theorem MST.dep {g : GG} {L p d : Nat} {t : Nat → Nat} {rl : ARule} {C : List (Nat × Nat)} (h : MST g t L p d rl C) (d' : Nat) : MST (upd2 g 188 18 (nI d')) t L p d' rl C := by
  obtain ⟨hT, hp', hk, h18, r1, r2, r3, r4⟩ := h
  exact ⟨⟨hT.1, by rw [uO (by omega)]; exact hT.2.1, fun i hi => by rw [uN (by omega)]; exact hT.2.2 i hi⟩, hp', hk.congr (fun i a b => uO (by omega)), uS, by rw [uO (by omega)]; exact r1, by rw [uO (by omega)]; exact r2, fun i z hz => by rw [uN (by omega)]; exact r3 i z hz, fun j z hz => by rw [uN (by omega)]; exact r4 j z hz⟩
theorem MST.opens {g : GG} {m o L p d : Nat} {t : Nat → Nat} {rl : ARule} {C : List (Nat × Nat)} (h : MST g t L p d rl C) (hd : d < 8) : ∃ g', f_X11_opens [.ref 188] (hp g m o) = some (some (.int (nI 1)), hp g' m o) ∧ MST g' t L (lxE t L (stE blB t L p)) (d + 1) rl C ∧ FRG g g' := by
  obtain ⟨g2, e2, M2, f2⟩ := (h.dep (d + 1)).next (m := m) (o := o)
  have h18 := h.2.2.2.1
  have n8 : (d = 8) = False := eq_false (by omega)
  refine ⟨g2, ?_, M2, (FRG.rfl'.put (by omega)).tr f2⟩
  simp (disch := first | assumption | omega) only [f_X11_opens, kb_X11_opens_0, KL, KB, KC, KI, KJ, KZ, bI_0, bI_n, nI00, nI10, ne_eq, Classical.not_not, not_true_eq_false, not_false_eq_true, if_true, if_false, ite_not, ite_self, Bool.false_eq_true, nIne1, O_mo, h18, nIeq, n8, nI_add, e2]
theorem MST.opensNo {g : GG} {m o L p : Nat} {t : Nat → Nat} {rl : ARule} {C : List (Nat × Nat)} (h : MST g t L p 8 rl C) : ∃ g', f_X11_opens [.ref 188] (hp g m o) = some (some (.int (nI 0)), hp g' m o) ∧ FRM g g' ∧ g' 188 15 = nI 3 ∧ g' 188 16 = nI (stE blB t L p) := by
  obtain ⟨g1, e1, w⟩ := h.bad (m := m) (o := o) 3
  have h18 := h.2.2.2.1
  refine ⟨g1, ?_, w⟩
  simp (disch := first | assumption | omega) only [f_X11_opens, kb_X11_opens_0, KL, KB, KC, KI, KJ, KZ, bI_0, bI_n, nI00, nI10, ne_eq, Classical.not_not, not_true_eq_false, not_false_eq_true, if_true, if_false, ite_not, ite_self, Bool.false_eq_true, nIne1, O_mo, h18, eq_self, e1]
theorem cst_opens {s : CS} {k : Nat} (hm : s.mode = 2) (hk : k = 21 ∨ k = 27) (v : Nat) : (opn s.pe < 8 → cst s k v = (0, mkS s.pos 2 (k :: s.pe) s.cp s.lw s.cur s.rl)) ∧ (¬ opn s.pe < 8 → cst s k v = (3, s)) := by
  refine ⟨fun h => ?_, fun h => ?_⟩
  · unfold cst cst2
    rw [if_neg (by omega), if_neg (by omega), if_pos hm, if_pos hk, if_pos h, hm]
  · unfold cst cst2
    rw [if_neg (by omega), if_neg (by omega), if_pos hm, if_pos hk, if_neg h]
/-- behind a condition: no joiner, no bracket that closes, no end of the line -/
theorem AFT.wrong {t : Nat → Nat} {L : Nat} {s : CS} (h : AFT t L s) (h19 : tkK t L s ≠ 19) (h20 : tkK t L s ≠ 20) (h28 : tkK t L s = 28 → (s.rel 1).pe = []) (h22 : tkK t L s = 22 → (s.rel 1).pe ≠ []) : ∃ s', cst s (tkK t L s) (tkV t L s) = (1, s') := by
  rcases h.cstc with ⟨e, hn⟩ | ⟨e, -⟩
  · rw [e]
    unfold cstJ
    rw [if_neg hn, if_neg (by omega)]
    by_cases a : tkK t L s = 28
    · rw [if_pos a]
      unfold cstC
      rw [h28 a]
      exact ⟨_, rfl⟩
    · rw [if_neg a]
      by_cases b : tkK t L s = 22
      · rw [if_pos b]
        unfold finL
        rw [if_neg (h22 b)]
        exact ⟨_, rfl⟩
      · rw [if_neg b]; exact ⟨_, rfl⟩
  · exact ⟨_, e⟩
theorem rel1_app {s : CS} {P S : List Nat} {C : List (Nat × Nat)} (hpe : s.pe = P ++ S) (hP : ∀ x ∈ P, 1 ≤ bnd x) (hS : ∀ x, S.head? = some x → bnd x < 1) (hc : s.cur ++ mO P = C) : (rlA 1 s.pe s.cur) = (S, C) := by
  rw [hpe, rlA_app hS P s.cur hP, hc]
theorem AFT.clos {t : Nat → Nat} {L : Nat} {s : CS} {P S : List Nat} {C : List (Nat × Nat)} (h : AFT t L s) (hk : tkK t L s = 28) (hpe : s.pe = P ++ (27 :: S)) (hP : ∀ x ∈ P, 1 ≤ bnd x) (hc : s.cur ++ mO P = C) : cst s (tkK t L s) (tkV t L s) = (0, mkS s.pos 6 S s.cp s.lw C s.rl) := by
  rcases h.cstc with ⟨e, hn⟩ | ⟨-, e⟩
  · rw [e]
    unfold cstJ
    rw [if_neg hn, if_neg (by omega), if_pos hk]
    have er := rel1_app hpe hP (fun x hx => by have : some 27 = some x := hx; cases this; decide) hc
    unfold cstC
    rw [show (s.rel 1).pe = 27 :: S from congrArg Prod.fst er]
    show (0, mkS s.pos 6 S s.cp s.lw (rlA 1 s.pe s.cur).2 s.rl) = _
    rw [er]
  · omega
theorem m_one (t : Nat → Nat) (L : Nat) (rl : ARule) (fo : FF) (d : Nat) (ho : ONE t L rl fo (d + 1)) : ONE t L rl (f_X11_one fo) d := by
  intro g m o s ts hI hrl hM hop hd hcap hts hhd hE
  have hL := hM.1.1
  have hm2 : s.mode = 2 := hE
  have hm0 : s.mode ≠ 0 := by omega
  obtain ⟨h12, h14⟩ := hM.tok
  have hK := tkK_le t L s
  obtain ⟨y0, -, -, -, -, -, -, -, -, -, -, -, y21, y27, -⟩ := mTk_tab ⟨tkK t L s, by omega⟩
  have y0' : mTk (tkK t L s) < 200 := y0
  have f6 : (mTk (tkK t L s) = 6) = (tkK t L s = 21) := propext y21
  have f140 : (mTk (tkK t L s) = 140) = (tkK t L s = 27) := propext y27
  by_cases k21 : tkK t L s = 21
  · have k21' : (tkK t L s = 21) = True := eq_true k21
    obtain ⟨c1, c2⟩ := cst_opens hm2 (Or.inl k21) (tkV t L s)
    by_cases d8 : d < 8
    · obtain ⟨r1, r2, r3⟩ := stp1 hI (by omega) (Or.inl hm0) (c1 (by omega))
      obtain ⟨g2, e2, M2, f2⟩ := hM.opens (m := m) (o := o) d8
      have o2 : opn (tkK t L s :: s.pe) = d + 1 := by
        show (if tkK t L s = 21 ∨ tkK t L s = 27 then 1 else 0) + opn s.pe = d + 1
        rw [if_pos (by omega), hop]; omega
      rcases ho g2 m o _ ts r2 hrl M2 o2 (by omega) (by show (tkK t L s :: s.pe).length ≤ 3 * (d + 1) + 2; rw [List.length_cons]; omega) (by show ts.length ≤ (tkK t L s :: s.pe).length; rw [List.length_cons]; omega) (fun k hk2 => by
          have : some (tkK t L s) = some k := hk2
          cases this; rw [k21]; decide) rfl with hb | ⟨g3, s3, P3, W3, e3, G3, P3', z1⟩
      · left
        refine (hb.of r1 f2).map (fun g' e => ?_)
        simp (disch := first | assumption | omega) only [f_X11_one, kb_X11_one_0, kb_X11_one_23, KL, KB, KC, KI, KJ, KZ, bI_0, bI_n, nI00, nI10, ne_eq, Classical.not_not, not_true_eq_false, not_false_eq_true, if_true, if_false, ite_not, ite_self, Bool.false_eq_true, nIne1, O_mo, h12, nIeq, f6, k21', e2, e]
      · right
        have hroom := G3.room hL rfl
        obtain ⟨b1, b2, b3, b4, b5, b6, b7, b8, b9, b10, b11, b12⟩ := G3
        obtain ⟨g4, e4, M4, f4⟩ := (b8.dep d).lay (m := m) (o := o) hroom (24, 0) (nI 0) (fun q => rfl)
        have q18 : g3 188 18 = nI (d + 1) := b8.2.2.2.1
        have qs : nI (d + 1) - nI 1 = nI d := by rw [nI_sub (by omega)]; rfl
        have a1 : s.pos < tkE t L s := r3
        have a2 : tkE t L s < s3.pos := P3'
        refine ⟨g4, s3, P3 ++ [21], W3 ++ [(24, 0)], ?_, ⟨(f2.tr b1).tr ((FRG.rfl'.put (by omega)).tr f4), r1.tr b2, b3, ?_, b5, b6, ?_, ?_, ?_, ?_, ?_, ?_⟩, by omega, z1⟩
        · simp (disch := first | assumption | omega) only [f_X11_one, kb_X11_one_0, kb_X11_one_23, KL, KB, KC, KI, KJ, KZ, bI_0, bI_n, nI00, nI10, ne_eq, Classical.not_not, not_true_eq_false, not_false_eq_true, if_true, if_false, ite_not, ite_self, Bool.false_eq_true, nIne1, O_mo, h12, nIeq, f6, k21', e2, e3, q18, qs, e4]
        · rw [b4]; show P3 ++ (tkK t L s :: s.pe) = P3 ++ [21] ++ s.pe; rw [k21, List.append_assoc]; rfl
        · rw [mO_app, ← List.append_assoc, b7, ← List.append_assoc]; rfl
        · rw [← List.append_assoc]; exact M4
        · intro x hx
          rcases List.mem_append.mp hx with hx | hx
          · exact b9 x hx
          · rw [List.mem_singleton.mp hx]; decide
        · rw [opn_app, List.length_append, List.length_cons, List.length_nil]; show P3.length + (0 + 1) ≤ opn P3 + (1 + 0) + 3; omega
        · rw [opn_app]; show opn P3 + (1 + 0) + d ≤ 8; omega
        · exact b12.app (TR.one (fun q => absurd q (by decide)) (by decide) rfl (by rw [List.length_cons]; omega))
    · left
      have hd8 : d = 8 := by omega
      rw [hd8] at hM
      obtain ⟨g1, e1, f1, b1, b2⟩ := hM.opensNo (m := m) (o := o)
      have hf := flt1 (kd := 3) hI (by omega) (Or.inl hm0) (by decide) (c2 (by omega))
      refine ⟨g1, 3, tkP t L s, ?_, f1, b1, b2, by omega, by omega, hf⟩
      simp (disch := first | assumption | omega) only [f_X11_one, kb_X11_one_0, kb_X11_one_23, KL, KB, KC, KI, KJ, KZ, bI_0, bI_n, nI00, nI10, ne_eq, Classical.not_not, not_true_eq_false, not_false_eq_true, if_true, if_false, ite_not, ite_self, Bool.false_eq_true, nIne1, O_mo, h12, nIeq, f6, k21', e1]
  have k21' : (tkK t L s = 21) = False := eq_false k21
  by_cases k27 : tkK t L s = 27
  · have k27' : (tkK t L s = 27) = True := eq_true k27
    obtain ⟨c1, c2⟩ := cst_opens hm2 (Or.inr k27) (tkV t L s)
    by_cases d8 : d < 8
    · obtain ⟨r1, r2, r3⟩ := stp1 hI (by omega) (Or.inl hm0) (c1 (by omega))
      obtain ⟨g2, e2, M2, f2⟩ := hM.opens (m := m) (o := o) d8
      have o2 : opn (tkK t L s :: s.pe) = d + 1 := by
        show (if tkK t L s = 21 ∨ tkK t L s = 27 then 1 else 0) + opn s.pe = d + 1
        rw [if_pos (by omega), hop]; omega
      rcases m_any t L rl fo (d + 1) ho g2 m o _ ts r2 hrl M2 o2 (by omega) (by show (tkK t L s :: s.pe).length ≤ 3 * (d + 1) + 0; rw [List.length_cons]; omega) (by show ts.length ≤ (tkK t L s :: s.pe).length; rw [List.length_cons]; omega) (fun k hk2 => by
          have : some (tkK t L s) = some k := hk2
          cases this; rw [k27]; decide) rfl with hb | ⟨g3, s3, P3, W3, e3, G3, P3', z1, z2, z3⟩
      · left
        refine (hb.of r1 f2).map (fun g' e => ?_)
        simp (disch := first | assumption | omega) only [f_X11_one, kb_X11_one_0, kb_X11_one_78, KL, KB, KC, KI, KJ, KZ, bI_0, bI_n, nI00, nI10, ne_eq, Classical.not_not, not_true_eq_false, not_false_eq_true, if_true, if_false, ite_not, ite_self, Bool.false_eq_true, nIne1, O_mo, h12, nIeq, f6, f140, k21', k27', e2, e]
      · have s3pe : s3.pe.length ≤ 60 := G3.pe (cap := 0) (by show (tkK t L s :: s.pe).length ≤ 3 * (d + 1) + 0; rw [List.length_cons]; omega) (by omega) (by omega)
        obtain ⟨b1, b2, b3, b4, b5, b6, b7, b8, b9, b10, b11, b12⟩ := G3
        have b4' : s3.pe = P3 ++ (27 :: s.pe) := by rw [b4]; show P3 ++ (tkK t L s :: s.pe) = _; rw [k27]
        obtain ⟨i12, -⟩ := b8.tok
        have hK3 := tkK_le t L s3
        obtain ⟨x0, -, -, -, -, -, -, -, -, -, -, -, -, -, x28, -⟩ := mTk_tab ⟨tkK t L s3, by omega⟩
        have x0' : mTk (tkK t L s3) < 200 := x0
        have f141 : (mTk (tkK t L s3) = 141) = (tkK t L s3 = 28) := propext x28
        have hA : AFT t L s3 := z1
        have a1 : s.pos < tkE t L s := r3
        have a2 : tkE t L s < s3.pos := P3'
        by_cases k28 : tkK t L s3 = 28
        · right
          have k28' : (tkK t L s3 = 28) = True := eq_true k28
          obtain ⟨q1, q2, q3⟩ := stp1 b3 s3pe (Or.inl hA.md0) (hA.clos k28 b4' b9 b7)
          obtain ⟨g4, e4, M4, f4⟩ := b8.next (m := m) (o := o)
          have q18 : g4 188 18 = nI (d + 1) := M4.2.2.2.1
          have qs : nI (d + 1) - nI 1 = nI d := by rw [nI_sub (by omega)]; rfl
          refine ⟨upd2 g4 188 18 (nI d), _, [], W3, ?_, ⟨((f2.tr b1).tr f4).put (by omega), (r1.tr b2).tr q1, q2, rfl, b5, b6, List.append_nil _, M4.dep d, fun k hk => (List.not_mem_nil hk).elim, Nat.zero_le _, by show 0 + d ≤ 8; omega, b12⟩, by show s.pos < tkE t L s3; omega, Or.inl rfl⟩
          simp (disch := first | assumption | omega) only [f_X11_one, kb_X11_one_0, kb_X11_one_78, f_X11_need, kb_X11_need_0, KL, KB, KC, KI, KJ, KZ, bI_0, bI_n, nI00, nI10, ne_eq, Classical.not_not, not_true_eq_false, not_false_eq_true, if_true, if_false, ite_not, ite_self, Bool.false_eq_true, nIne1, O_mo, h12, nIeq, f6, f140, k21', k27', e2, e3, i12, f141, k28', e4, q18, qs]
        · left
          have k28' : (tkK t L s3 = 28) = False := eq_false k28
          obtain ⟨g4, e4, f4, w1, w2⟩ := b8.bad (m := m) (o := o) 1
          have er := rel1_app b4' b9 (fun x hx => by have : some 27 = some x := hx; cases this; decide) b7
          obtain ⟨s', hs'⟩ := hA.wrong z3 z2 (fun q => absurd q k28) (fun _ => by
            rw [show (s3.rel 1).pe = 27 :: s.pe from congrArg Prod.fst er]; exact List.cons_ne_nil _ _)
          have hf := flt1 (kd := 1) b3 s3pe (Or.inl hA.md0) (by decide) hs'
          refine ⟨g4, 1, tkP t L s3, ?_, (f2.tr b1).frm f4, w1, w2, by omega, by omega, (r1.tr b2).flt hf⟩
          simp (disch := first | assumption | omega) only [f_X11_one, kb_X11_one_0, kb_X11_one_78, f_X11_need, kb_X11_need_0, KL, KB, KC, KI, KJ, KZ, bI_0, bI_n, nI00, nI10, ne_eq, Classical.not_not, not_true_eq_false, not_false_eq_true, if_true, if_false, ite_not, ite_self, Bool.false_eq_true, nIne1, O_mo, h12, nIeq, f6, f140, k21', k27', e2, e3, i12, f141, k28', e4]
    · left
      have hd8 : d = 8 := by omega
      rw [hd8] at hM
      obtain ⟨g1, e1, f1, b1, b2⟩ := hM.opensNo (m := m) (o := o)
      have hf := flt1 (kd := 3) hI (by omega) (Or.inl hm0) (by decide) (c2 (by omega))
      refine ⟨g1, 3, tkP t L s, ?_, f1, b1, b2, by omega, by omega, hf⟩
      simp (disch := first | assumption | omega) only [f_X11_one, kb_X11_one_0, kb_X11_one_78, KL, KB, KC, KI, KJ, KZ, bI_0, bI_n, nI00, nI10, ne_eq, Classical.not_not, not_true_eq_false, not_false_eq_true, if_true, if_false, ite_not, ite_self, Bool.false_eq_true, nIne1, O_mo, h12, nIeq, f6, f140, k21', k27', e1]
  have k27' : (tkK t L s = 27) = False := eq_false k27
  -- a comparison
  rcases m_sumUp t L rl false d g m o s ts hI hrl hM hop hd (by omega) hts (fun k hk => by have := hhd k hk; omega) (Or.inr ⟨hm2, k21, k27, rfl⟩) with hb | ⟨g1, s1, P, W, e1, G1, P1, x1, x2, x3⟩
  · left
    refine hb.map (fun g' e => ?_)
    simp (disch := first | assumption | omega) only [f_X11_one, kb_X11_one_0, KL, KB, KC, KI, KJ, KZ, bI_0, bI_n, nI00, nI10, ne_eq, Classical.not_not, not_true_eq_false, not_false_eq_true, if_true, if_false, ite_not, ite_self, Bool.false_eq_true, nIne1, O_mo, h12, nIeq, f6, f140, k21', k27', e]
  have G1' := G1
  have s1pe : s1.pe.length ≤ 60 := G1.pe hcap (by omega) (by omega)
  obtain ⟨f1, R1, I1, hpe, hrl1, hlw, hcur, M1, hP, hPl, hPo, T1⟩ := G1
  obtain ⟨j12, -⟩ := M1.tok
  have hK1 := tkK_le t L s1
  obtain ⟨z0, -, -, -, -, -, -, z29, z30, z31, -⟩ := mTk_tab ⟨tkK t L s1, by omega⟩
  have z0' : mTk (tkK t L s1) < 200 := z0
  have g29 : (mTk (tkK t L s1) = 160) = (tkK t L s1 = 29) := propext z29
  have g30 : (mTk (tkK t L s1) = 161) = (tkK t L s1 = 30) := propext z30
  have g31 : (mTk (tkK t L s1) = 162) = (tkK t L s1 = 31) := propext z31
  have s1m : s1.mode ≠ 0 := by omega
  by_cases hk : 29 ≤ tkK t L s1 ∧ tkK t L s1 ≤ 31
  · have hb4 : bnd (tkK t L s1) = 4 := by
      unfold bnd
      rw [if_neg (by omega), if_neg (by omega), if_neg (by omega), if_neg (by omega), if_pos hk]
    have hcst := cst_op hpe (k := tkK t L s1) (fun x hx => by rw [hb4]; have := hP x hx; omega) (fun x hx => by rw [hb4]; exact hhd x hx) hcur x1 (Or.inr ⟨hk.1, hk.2, x2⟩) (tkV t L s1)
    have htrue : (s1.cp || decide (29 ≤ tkK t L s1)) = true := by rw [decide_eq_true hk.1, Bool.or_true]
    rw [htrue] at hcst
    obtain ⟨r1, r2, r3⟩ := stp1 I1 s1pe (Or.inl s1m) hcst
    obtain ⟨g2, e2, M2, f2⟩ := M1.next (m := m) (o := o)
    have o2 : opn (tkK t L s1 :: s.pe) = d := by
      show (if tkK t L s1 = 21 ∨ tkK t L s1 = 27 then 1 else 0) + opn s.pe = d
      rw [if_neg (by omega), hop, Nat.zero_add]
    have core : ∀ (code : Nat), code = opM (tkK t L s1) → (BADO t L s g m o (kb_X11_one_147 fo [.ref 188] [.int (nI code)] (hp g1 m o)) ∨ ∃ g' s' P W, kb_X11_one_147 fo [.ref 188] [.int (nI code)] (hp g1 m o) = some (some (.int (nI 1)), hp g' m o) ∧ GOOD t L rl 3 3 true s ts d g g' s' P W ∧ s.pos < s'.pos ∧ XCnd t L s s') := by
      intro code hcode
      have hcr : code ≤ 23 ∧ 21 ≤ code ∧ opTy code (false :: false :: ts) = some (true :: ts) := by
        rcases (by omega : tkK t L s1 = 29 ∨ tkK t L s1 = 30 ∨ tkK t L s1 = 31) with e | e | e
        · rw [hcode, e]; exact ⟨by decide, by decide, rfl⟩
        · rw [hcode, e]; exact ⟨by decide, by decide, rfl⟩
        · rw [hcode, e]; exact ⟨by decide, by decide, rfl⟩
      obtain ⟨cr1, cr2, cr3⟩ := hcr
      have hne : (nI code = -1) = False := nIne1 (by omega)
      rcases m_sumUp t L rl true d g2 m o _ (false :: ts) r2 hrl1 M2 o2 hd (by show (tkK t L s1 :: s.pe).length ≤ 3 * d + 3; rw [List.length_cons]; omega) (by show (false :: ts).length ≤ (tkK t L s1 :: s.pe).length; rw [List.length_cons, List.length_cons]; omega) (fun k hk2 => by
          have : some (tkK t L s1) = some k := hk2
          cases this; rw [hb4]; omega) (Or.inl ⟨rfl, rfl⟩) with hb | ⟨g3, s3, P3, W3, e3, G3, P3', w1, w2, w3⟩
      · left
        refine (hb.of (R1.tr r1) (f1.tr f2)).map (fun g' e => ?_)
        simp (disch := first | assumption | omega) only [kb_X11_one_147, KL, KB, KC, KI, KJ, KZ, bI_0, bI_n, nI00, nI10, ne_eq, Classical.not_not, not_true_eq_false, not_false_eq_true, if_true, if_false, ite_not, ite_self, Bool.false_eq_true, nIne1, O_mo, hne, e2, e]
      · right
        have M3 := G3.2.2.2.2.2.2.2.1
        have hroom := G3.room hL rfl
        obtain ⟨g4, e4, M4, f4⟩ := M3.lay (m := m) (o := o) hroom (opM (tkK t L s1), 0) (nI 0) (fun q => rfl)
        have a1 : s1.pos < tkE t L s1 := r3
        have a2 : tkE t L s1 < s3.pos := P3'
        refine ⟨g4, s3, P3 ++ [tkK t L s1], W ++ W3 ++ [(opM (tkK t L s1), 0)], ?_, GOOD.bin G1' f2 r1 rfl rfl rfl G3 f4 M4 (by rw [← hcode]; exact cr3) (by omega) (by omega) (by omega) (by omega) (by omega) (by omega), by omega, Or.inr ⟨w1, w2, w3⟩⟩
        have e4' : f_X11_lay0 [Value.ref 188, Value.int (nI code), Value.int (nI 0)] (hp g3 m o) = some (none, hp g4 m o) := by rw [hcode]; exact e4
        simp (disch := first | assumption | omega) only [kb_X11_one_147, KL, KB, KC, KI, KJ, KZ, bI_0, bI_n, nI00, nI10, ne_eq, Classical.not_not, not_true_eq_false, not_false_eq_true, if_true, if_false, ite_not, ite_self, Bool.false_eq_true, nIne1, O_mo, hne, e2, e3, e4']
    rcases (by omega : tkK t L s1 = 29 ∨ tkK t L s1 = 30 ∨ tkK t L s1 = 31) with e | e | e
    · have k29' : (tkK t L s1 = 29) = True := eq_true e
      have hc := core 21 (by rw [e]; rfl)
      simp (disch := first | assumption | omega) only [f_X11_one, kb_X11_one_0, KL, KB, KC, KI, KJ, KZ, bI_0, bI_n, nI00, nI10, ne_eq, Classical.not_not, not_true_eq_false, not_false_eq_true, if_true, if_false, ite_not, ite_self, Bool.false_eq_true, nIne1, O_mo, h12, nIeq, f6, f140, k21', k27', e1, j12, g29, k29']
      exact hc
    · have k29' : (tkK t L s1 = 29) = False := eq_false (by omega)
      have k30' : (tkK t L s1 = 30) = True := eq_true e
      have hc := core 22 (by rw [e]; rfl)
      simp (disch := first | assumption | omega) only [f_X11_one, kb_X11_one_0, KL, KB, KC, KI, KJ, KZ, bI_0, bI_n, nI00, nI10, ne_eq, Classical.not_not, not_true_eq_false, not_false_eq_true, if_true, if_false, ite_not, ite_self, Bool.false_eq_true, nIne1, O_mo, h12, nIeq, f6, f140, k21', k27', e1, j12, g29, g30, k29', k30']
      exact hc
    · have k29' : (tkK t L s1 = 29) = False := eq_false (by omega)
      have k30' : (tkK t L s1 = 30) = False := eq_false (by omega)
      have k31' : (tkK t L s1 = 31) = True := eq_true e
      have hc := core 23 (by rw [e]; rfl)
      simp (disch := first | assumption | omega) only [f_X11_one, kb_X11_one_0, KL, KB, KC, KI, KJ, KZ, bI_0, bI_n, nI00, nI10, ne_eq, Classical.not_not, not_true_eq_false, not_false_eq_true, if_true, if_false, ite_not, ite_self, Bool.false_eq_true, nIne1, O_mo, h12, nIeq, f6, f140, k21', k27', e1, j12, g29, g30, g31, k29', k30', k31']
      exact hc
  · left
    have k29' : (tkK t L s1 = 29) = False := eq_false (by omega)
    have k30' : (tkK t L s1 = 30) = False := eq_false (by omega)
    have k31' : (tkK t L s1 = 31) = False := eq_false (by omega)
    have hcst : cst s1 (tkK t L s1) (tkV t L s1) = (1, s1) := by
      unfold cst
      rw [if_neg (by omega), if_neg (by omega), if_neg (by omega), if_neg (by omega), if_neg (by omega), if_neg (by omega)]
      unfold cstJ
      rw [if_pos ⟨x1, x2⟩]
    have hf := flt1 (kd := 1) I1 s1pe (Or.inl s1m) (by decide) hcst
    obtain ⟨g4, e4, f4, w1, w2⟩ := M1.bad (m := m) (o := o) 1
    refine ⟨g4, 1, tkP t L s1, ?_, f1.frm f4, w1, w2, by omega, by omega, R1.flt hf⟩
    simp (disch := first | assumption | omega) only [f_X11_one, kb_X11_one_0, kb_X11_one_147, KL, KB, KC, KI, KJ, KZ, bI_0, bI_n, nI00, nI10, ne_eq, Classical.not_not, not_true_eq_false, not_false_eq_true, if_true, if_false, ite_not, ite_self, Bool.false_eq_true, nIne1, O_mo, h12, nIeq, f6, f140, k21', k27', e1, j12, g29, g30, g31, k29', k30', k31', eq_self, e4]
theorem m_oneD (t : Nat → Nat) (L : Nat) (rl : ARule) : ∀ n d, n + d = 10 → ONE t L rl (f_oneD n) d
  | 0, d, h => fun g m o s ts hI hrl hM hop hd => by omega
  | n + 1, d, h => m_one t L rl (f_oneD n) d (m_oneD t L rl n (d + 1) (by omega))
theorem m_cond (t : Nat → Nat) (L : Nat) (rl : ARule) : PRO t L rl (f_X11_any (f_oneD 10)) 1 1 5 0 true ECnd (XAny t L) 0 := m_any t L rl _ 0 (m_oneD t L rl 10 0 rfl)
