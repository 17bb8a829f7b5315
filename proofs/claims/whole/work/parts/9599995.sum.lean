-- ===== the model's descent: sums =====
theorem mO_app (a b : List Nat) : mO (a ++ b) = mO a ++ mO b := by unfold mO; rw [List.map_append]
theorem GOOD.bin {t : Nat → Nat} {L : Nat} {rl : ARule} {b c b1 c1 b2 c2 k d : Nat} {srt srt1 srt2 : Bool} {s s1 s2 s3 : CS} {ts : List Bool} {g g1 g2 g3 g4 : GG} {P P3 : List Nat} {W W3 : List (Nat × Nat)} (h1 : GOOD t L rl b1 c1 srt1 s ts d g g1 s1 P W) (f12 : FRG g1 g2) (r12 : RNS t L s1 s2) (hpe2 : s2.pe = k :: s.pe) (hcur2 : s2.cur = s.cur ++ W) (hlw2 : s2.lw = s1.lw) (h3 : GOOD t L rl b2 c2 srt2 s2 (srt1 :: ts) d g2 g3 s3 P3 W3) (f34 : FRG g3 g4) (M4 : MST g4 t L s3.pos d rl (s2.cur ++ W3 ++ [(opM k, 0)])) (hty : opTy (opM k) (srt2 :: srt1 :: ts) = some (srt :: ts)) (hts : ts.length ≤ 50) (hb2 : b ≤ b2) (hbk : b ≤ bnd k) (hk : k ≠ 21 ∧ k ≠ 27) (hc : c2 + 1 ≤ c) (hop : opM k ≠ 20) : GOOD t L rl b c srt s ts d g g4 s3 (P3 ++ [k]) (W ++ W3 ++ [(opM k, 0)]) := by
  obtain ⟨a1, a2, a3, a4, a5, a6, a7, a8, a9, a10, a11, a12⟩ := h1
  obtain ⟨c1', c2', c3, c4, c5, c6, c7, c8, c9, c10, c11, c12⟩ := h3
  have o : opn (P3 ++ [k]) = opn P3 := by
    rw [opn_app]
    show opn P3 + ((if k = 21 ∨ k = 27 then 1 else 0) + 0) = opn P3
    rw [if_neg (by omega)]; rfl
  have eW : s.cur ++ (W ++ W3 ++ [(opM k, 0)]) = s2.cur ++ W3 ++ [(opM k, 0)] := by rw [hcur2]; simp only [List.append_assoc]
  refine ⟨((a1.tr f12).tr c1').tr f34, (a2.tr r12).tr c2', c3, by rw [c4, hpe2, List.append_assoc]; rfl, c5, by rw [c6, hlw2, a6], by rw [mO_app, ← List.append_assoc, c7, eW]; rfl, by rw [eW]; exact M4, fun x hx => ?_, by rw [o, List.length_append, List.length_cons, List.length_nil]; omega, by rw [o]; exact c11, (a12.app c12).app (TR.one (fun q => absurd q hop) (by show (0 : Nat) < 10000; omega) hty (by rw [List.length_cons]; omega))⟩
  rcases List.mem_append.mp hx with hx | hx
  · exact Nat.le_trans hb2 (c9 x hx)
  · rw [List.mem_singleton.mp hx]; exact hbk
theorem GOOD.room {t : Nat → Nat} {L : Nat} {rl : ARule} {b2 c2 k d : Nat} {srt2 : Bool} {s2 s3 : CS} {ts2 : List Bool} {g2 g3 : GG} {P3 l : List Nat} {W3 : List (Nat × Nat)} (h3 : GOOD t L rl b2 c2 srt2 s2 ts2 d g2 g3 s3 P3 W3) (hL : L ≤ 400) (hpe : s2.pe = k :: l) : (allS rl ++ (s2.cur ++ W3)).length < 400 := by
  obtain ⟨c1', c2', c3, c4, c5, c6, c7, c8, c9, c10, c11, c12⟩ := h3
  have hfit := c3.fit hL
  rw [c5, c4, hpe, List.length_append, List.length_cons] at hfit
  rw [List.length_append, ← c7, List.length_append]
  have : (mO P3).length = P3.length := by unfold mO; rw [List.length_map]
  omega
theorem GOOD.pe {t : Nat → Nat} {L : Nat} {rl : ARule} {b c d : Nat} {srt : Bool} {s s1 : CS} {ts : List Bool} {g g1 : GG} {P : List Nat} {W : List (Nat × Nat)} (h : GOOD t L rl b c srt s ts d g g1 s1 P W) {cap : Nat} (h1 : s.pe.length ≤ 3 * d + cap) (h2 : cap ≤ 10) (h3 : c ≤ 10) : s1.pe.length ≤ 60 := by
  obtain ⟨c1', c2', c3, c4, c5, c6, c7, c8, c9, c10, c11, c12⟩ := h
  rw [c4, List.length_append]
  omega
def XSum (t : Nat → Nat) (L : Nat) (c : Bool) (_ s' : CS) : Prop := s'.mode = 5 ∧ s'.cp = c ∧ ¬ (23 ≤ tkK t L s' ∧ tkK t L s' ≤ 26)
theorem m_sumUp (t : Nat → Nat) (L : Nat) (rl : ARule) (c : Bool) (d : Nat) : PRO t L rl f_X11_sumUp 5 5 2 3 false (EntO t L c) (XSum t L c) d := by
  intro g m o s ts hI hrl hM hop hd hcap hts hhd hE
  have hL := hM.1.1
  rcases m_product t L rl c d g m o s ts hI hrl hM hop hd (by omega) hts (fun k hk => Nat.lt_succ_of_lt (hhd k hk)) hE with hb | ⟨g1, s1, P, W, e1, G1, P1, x1, x2, x3, x4⟩
  · left
    refine hb.map (fun g' e => ?_)
    simp (disch := first | assumption | omega) only [f_X11_sumUp, kb_X11_sumUp_0, KL, KB, KC, KI, KJ, KZ, bI_0, bI_n, nI00, nI10, ne_eq, Classical.not_not, not_true_eq_false, not_false_eq_true, if_true, if_false, ite_not, ite_self, Bool.false_eq_true, nIne1, O_mo, e]
  have loop : (fun r => BADO t L s g m o r ∨ ∃ g' s' P W, r = some (some (.int (nI 1)), hp g' m o) ∧ GOOD t L rl 5 2 false s ts d g g' s' P W ∧ s.pos < s'.pos ∧ XSum t L c s s') (kl_X11_sumUp_9 [.ref 188] [] (hp g1 m o)) := by
    unfold kl_X11_sumUp_9
    refine kFix_rule (fun n ls st h => ∃ (g1 : GG) (s1 : CS) (P : List Nat) (W : List (Nat × Nat)) (u : List Value), L - s1.pos = n ∧ ls = .ref 188 :: u ∧ st = [] ∧ h = hp g1 m o ∧ GOOD t L rl 5 2 false s ts d g g1 s1 P W ∧ s.pos < s1.pos ∧ s1.mode = 5 ∧ s1.cp = c ∧ tkK t L s1 ≠ 25 ∧ tkK t L s1 ≠ 26) (fun r => BADO t L s g m o r ∨ ∃ g' s' P W, r = some (some (.int (nI 1)), hp g' m o) ∧ GOOD t L rl 5 2 false s ts d g g' s' P W ∧ s.pos < s'.pos ∧ XSum t L c s s') ?_ FU (L - s1.pos) (by unfold FU; omega) _ _ _ ⟨g1, s1, P, W, [], rfl, rfl, rfl, rfl, ?_, P1, x1, x2, x3, x4⟩
    · rintro S n ih ls st h ⟨g1, s1, P, W, u, hn, rfl, rfl, rfl, G1, hpos, hm5, hcp, n25, n26⟩
      have G1' := G1
      obtain ⟨f1, R1, I1, hpe, hrl1, hlw, hcur, M1, hP, hPl, hPo, T1⟩ := G1
      obtain ⟨h12, h14⟩ := M1.tok
      have hK := tkK_le t L s1
      obtain ⟨y0, -, -, -, -, y23, y24, -⟩ := mTk_tab ⟨tkK t L s1, by omega⟩
      have s1pe : s1.pe.length ≤ 60 := G1'.pe hcap (by omega) (by omega)
      have s1m : s1.mode ≠ 0 := by omega
      have y0' : mTk (tkK t L s1) < 200 := y0
      have f143 : (mTk (tkK t L s1) = 143) = (tkK t L s1 = 23) := propext y23
      have f145 : (mTk (tkK t L s1) = 145) = (tkK t L s1 = 24) := propext y24
      by_cases hk : tkK t L s1 = 23 ∨ tkK t L s1 = 24
      · have hb5 : bnd (tkK t L s1) = 5 := by rcases hk with e | e <;> rw [e] <;> rfl
        have hcst := cst_op hpe (k := tkK t L s1) (fun x hx => by rw [hb5]; exact hP x hx) (fun x hx => by rw [hb5]; exact hhd x hx) hcur hm5 (Or.inl (by omega)) (tkV t L s1)
        have hfalse : (c || decide (29 ≤ tkK t L s1)) = c := by rw [decide_eq_false (by omega), Bool.or_false]
        rw [hcp, hfalse] at hcst
        obtain ⟨r1, r2, r3⟩ := stp1 I1 (by omega) (Or.inl s1m) hcst
        obtain ⟨g2, e2, M2, f2⟩ := M1.next (m := m) (o := o)
        have o2 : opn (tkK t L s1 :: s.pe) = d := by
          show (if tkK t L s1 = 21 ∨ tkK t L s1 = 27 then 1 else 0) + opn s.pe = d
          rw [if_neg (by omega), hop, Nat.zero_add]
        rcases m_product t L rl c d g2 m o _ (false :: ts) r2 hrl1 M2 o2 hd (by show (tkK t L s1 :: s.pe).length ≤ 3 * d + 5; rw [List.length_cons]; omega) (by show (false :: ts).length ≤ (tkK t L s1 :: s.pe).length; rw [List.length_cons, List.length_cons]; omega) (fun k hk => by
          have : some (tkK t L s1) = some k := hk
          cases this; rw [hb5]; omega) (Or.inl ⟨rfl, rfl⟩) with hb | ⟨g3, s3, P3, W3, e3, G3, P3', z1, z2, z3, z4⟩
        · left
          refine (hb.of (R1.tr r1) (f1.tr f2)).map (fun g' e => ?_)
          rcases hk with hk | hk
          · have k23 : (tkK t L s1 = 23) = True := eq_true hk
            simp (disch := first | assumption | omega) only [kb_X11_sumUp_29, kb_X11_sumUp_46, KL, KB, KC, KI, KJ, KZ, bI_0, bI_n, nI00, nI10, ne_eq, Classical.not_not, not_true_eq_false, not_false_eq_true, if_true, if_false, ite_not, ite_self, Bool.false_eq_true, nIne1, kMask, mask, mask_n, O_mo, h12, nIeq, f143, f145, k23, e2, e]
          · have k23 : (tkK t L s1 = 23) = False := eq_false (by omega)
            have k24 : (tkK t L s1 = 24) = True := eq_true hk
            simp (disch := first | assumption | omega) only [kb_X11_sumUp_29, kb_X11_sumUp_46, KL, KB, KC, KI, KJ, KZ, bI_0, bI_n, nI00, nI10, ne_eq, Classical.not_not, not_true_eq_false, not_false_eq_true, if_true, if_false, ite_not, ite_self, Bool.false_eq_true, nIne1, kMask, mask, mask_n, O_mo, h12, nIeq, f143, f145, k23, k24, e2, e]
        · have M3 := G3.2.2.2.2.2.2.2.1
          have hroom := G3.room hL rfl
          obtain ⟨g4, e4, M4, f4⟩ := M3.lay (m := m) (o := o) hroom (opM (tkK t L s1), 0) (nI 0) (fun q => rfl)
          have a1 : s1.pos < tkE t L s1 := r3
          have a2 : tkE t L s1 < s3.pos := P3'
          have a3 : s3.pos ≤ L := G3.2.2.1.2.2.2.1
          rcases hk with hk | hk
          · have hgood := ih (L - s3.pos) (by omega) [.ref 188, .int (nI 17)] [] (hp g4 m o) ⟨g4, s3, P3 ++ [tkK t L s1], W ++ W3 ++ [(opM (tkK t L s1), 0)], [.int (nI 17)], rfl, rfl, rfl, rfl, GOOD.bin G1' f2 r1 rfl rfl rfl G3 f4 M4 (by rw [hk]; rfl) (by omega) (by omega) (by omega) (by omega) (by omega) (by rw [hk]; decide), by omega, z1, z2, z3, z4⟩
            have k23 : (tkK t L s1 = 23) = True := eq_true hk
            rw [hk, show opM 23 = 17 from rfl] at e4
            simp (disch := first | assumption | omega) only [kb_X11_sumUp_29, kb_X11_sumUp_46, KL, KB, KC, KI, KJ, KZ, bI_0, bI_n, nI00, nI10, ne_eq, Classical.not_not, not_true_eq_false, not_false_eq_true, if_true, if_false, ite_not, ite_self, Bool.false_eq_true, nIne1, kMask, mask, mask_n, O_mo, h12, nIeq, f143, f145, k23, e2, e3, e4]
            exact hgood
          · have hgood := ih (L - s3.pos) (by omega) [.ref 188, .int (nI 18)] [] (hp g4 m o) ⟨g4, s3, P3 ++ [tkK t L s1], W ++ W3 ++ [(opM (tkK t L s1), 0)], [.int (nI 18)], rfl, rfl, rfl, rfl, GOOD.bin G1' f2 r1 rfl rfl rfl G3 f4 M4 (by rw [hk]; rfl) (by omega) (by omega) (by omega) (by omega) (by omega) (by rw [hk]; decide), by omega, z1, z2, z3, z4⟩
            have k23 : (tkK t L s1 = 23) = False := eq_false (by omega)
            have k24 : (tkK t L s1 = 24) = True := eq_true hk
            rw [hk, show opM 24 = 18 from rfl] at e4
            simp (disch := first | assumption | omega) only [kb_X11_sumUp_29, kb_X11_sumUp_46, KL, KB, KC, KI, KJ, KZ, bI_0, bI_n, nI00, nI10, ne_eq, Classical.not_not, not_true_eq_false, not_false_eq_true, if_true, if_false, ite_not, ite_self, Bool.false_eq_true, nIne1, kMask, mask, mask_n, O_mo, h12, nIeq, f143, f145, k23, k24, e2, e3, e4]
            exact hgood
      · have k23 : (tkK t L s1 = 23) = False := eq_false (by omega)
        have k24 : (tkK t L s1 = 24) = False := eq_false (by omega)
        right
        refine ⟨g1, s1, P, W, ?_, G1', hpos, hm5, hcp, by omega⟩
        simp (disch := first | assumption | omega) only [KL, KB, KC, KI, KJ, KZ, bI_0, bI_n, nI00, nI10, ne_eq, Classical.not_not, not_true_eq_false, not_false_eq_true, if_true, if_false, ite_not, ite_self, Bool.false_eq_true, nIne1, kMask, mask, mask_n, O_mo, h12, nIeq, f143, f145, k23, k24]
    · obtain ⟨f1, R1, I1, hpe, hrl1, hlw, hcur, M1, hP, hPl, hPo, T1⟩ := G1
      exact ⟨f1, R1, I1, hpe, hrl1, hlw, hcur, M1, fun k hk => by have := hP k hk; omega, by omega, hPo, T1⟩
  rcases loop with hb | ⟨g', s', P, W, e, w⟩
  · left
    refine hb.map (fun g' e => ?_)
    simp (disch := first | assumption | omega) only [f_X11_sumUp, kb_X11_sumUp_0, KL, KB, KC, KI, KJ, KZ, bI_0, bI_n, nI00, nI10, ne_eq, Classical.not_not, not_true_eq_false, not_false_eq_true, if_true, if_false, ite_not, ite_self, Bool.false_eq_true, nIne1, O_mo, e1, e]
  · right
    refine ⟨g', s', P, W, ?_, w⟩
    simp (disch := first | assumption | omega) only [f_X11_sumUp, kb_X11_sumUp_0, KL, KB, KC, KI, KJ, KZ, bI_0, bI_n, nI00, nI10, ne_eq, Classical.not_not, not_true_eq_false, not_false_eq_true, if_true, if_false, ite_not, ite_self, Bool.false_eq_true, nIne1, O_mo, e1, e]
