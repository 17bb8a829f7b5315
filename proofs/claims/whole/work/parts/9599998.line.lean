-- ===== the model's lines =====
def FRN (g g' : GG) : Prop := (∀ a, a ≠ 188 → a ≠ 191 → a ≠ 192 → g' a = g a) ∧ ∀ i, i < 8 ∨ i = 10 ∨ i = 17 ∨ 18 < i → g' 188 i = g 188 i
def FRV (g g' : GG) : Prop := (∀ a, a ≠ 188 → a ≠ 191 → a ≠ 192 → g' a = g a) ∧ ∀ i, i < 8 ∨ i = 10 ∨ (15 ≤ i ∧ i ≤ 17) ∨ 18 < i → g' 188 i = g 188 i
theorem FRV.rfl' {g : GG} : FRV g g := ⟨fun _ _ _ _ => rfl, fun _ _ => rfl⟩
theorem FRV.tr {g g' g'' : GG} (h : FRV g g') (h' : FRV g' g'') : FRV g g'' := ⟨fun a x y z => by rw [h'.1 a x y z]; exact h.1 a x y z, fun i x => by rw [h'.2 i x]; exact h.2 i x⟩
theorem FRV.frn {g g' g'' : GG} (h : FRV g g') (h' : FRN g' g'') : FRN g g'' := ⟨fun a x y z => by rw [h'.1 a x y z]; exact h.1 a x y z, fun i x => by rw [h'.2 i x]; exact h.2 i (by omega)⟩
theorem FRG.v {g g' : GG} (h : FRG g g') : FRV g g' := ⟨fun a x _ z => h.1 a x z, fun i x => h.2 i (by omega)⟩
theorem FRM.n {g g' : GG} (h : FRM g g') : FRN g g' := ⟨fun a x _ z => h.1 a x z, fun i x => h.2 i (by omega)⟩
theorem FRV.put {g g' : GG} {a i : Nat} {v : Int32} (h : FRV g g') (hi : a = 191 ∨ a = 192 ∨ (a = 188 ∧ (i = 8 ∨ i = 9 ∨ (11 ≤ i ∧ i ≤ 14) ∨ i = 18))) : FRV g (upd2 g' a i v) := ⟨fun b x y z => by rw [uN (by omega)]; exact h.1 b x y z, fun j hj => by rw [uO (by omega)]; exact h.2 j hj⟩
def BADL (t : Nat → Nat) (L : Nat) (s : CS) (g : GG) (m o : Nat) (r : RS) : Prop := ∃ (g' : GG) (kd pl : Nat), r = some (some (.int (nI 0)), hp g' m o) ∧ FRN g g' ∧ g' 188 15 = nI kd ∧ g' 188 16 = nI pl ∧ 1 ≤ kd ∧ kd ≤ 3 ∧ FLT t L s kd pl
theorem MST.row {g : GG} {L p d : Nat} {t : Nat → Nat} {rl : ARule} {C : List (Nat × Nat)} (h : MST g t L p d rl C) {i : Nat} (hi : 3 * rl.length ≤ i) (v : Int32) : MST (upd2 g 191 i v) t L p d rl C := by
  obtain ⟨hT, hp', hk, h18, r1, r2, r3, r4⟩ := h
  refine ⟨⟨hT.1, by rw [uN (by omega)]; exact hT.2.1, fun i hi => by rw [uN (by omega)]; exact hT.2.2 i hi⟩, hp', hk.congr (fun i a b => by rw [uN (by omega)]), by rw [uN (by omega)]; exact h18, by rw [uN (by omega)]; exact r1, by rw [uN (by omega)]; exact r2, fun j z hz => ?_, fun j z hz => by rw [uN (by omega)]; exact r4 j z hz⟩
  have hlt := (List.getElem?_eq_some_iff.mp hz).1
  rw [uO (by omega), uO (by omega), uO (by omega)]
  exact r3 j z hz
theorem lnB_all (rl : ARule) : lnB rl rl.length = (allS rl).length := by
  unfold lnB allS
  rw [List.take_of_length_le (Nat.le_refl _), List.length_flatMap]
/-- a line is closed -/
theorem MST.line {g : GG} {L p d : Nat} {t : Nat → Nat} {rl : ARule} {C : List (Nat × Nat)} (h : MST g t L p d rl C) (b : Bool) (h0 : g 191 (3 * rl.length) = if b = true then nI 0 else nI 1) (h1 : g 191 (3 * rl.length + 1) = nI (allS rl).length) (h2 : g 191 (3 * rl.length + 2) = nI (allS rl ++ C).length) : MST (upd2 g 188 8 (nI (rl.length + 1))) t L p d (rl ++ [(b, C)]) [] := by
  obtain ⟨hT, hp', hk, h18, r1, r2, r3, r4⟩ := h
  have es : allS (rl ++ [(b, C)]) ++ [] = allS rl ++ C := by rw [List.append_nil, allS_app, allS_one]
  obtain ⟨l1, l2⟩ := lnB_app rl (b, C)
  refine ⟨⟨hT.1, by rw [uO (by omega)]; exact hT.2.1, fun i hi => by rw [uN (by omega)]; exact hT.2.2 i hi⟩, hp', hk.congr (fun i a b => by rw [uO (by omega)]), by rw [uO (by omega)]; exact h18, by rw [List.length_append, List.length_cons, List.length_nil]; exact uS, by rw [es, uO (by omega)]; exact r2, fun i z hz => ?_, fun j z hz => ?_⟩
  · rw [uN (by omega)]
    by_cases w : i < rl.length
    · rw [List.getElem?_append_left w] at hz
      rw [l1 i (by omega), l1 (i + 1) (by omega)]
      exact r3 i z hz
    · have hlt := (List.getElem?_eq_some_iff.mp hz).1
      rw [List.length_append, List.length_cons, List.length_nil] at hlt
      have hi : i = rl.length := by omega
      rw [hi] at hz ⊢
      rw [List.getElem?_append_right (Nat.le_refl _), Nat.sub_self] at hz
      cases hz
      exact ⟨h0, by rw [l1 _ (Nat.le_refl _), lnB_all]; exact h1, by rw [l2]; exact h2⟩
  · rw [es] at hz
    rw [uN (by omega)]
    exact r4 j z hz
theorem finL_eq {s : CS} {C : List (Nat × Nat)} (h : rlA 1 s.pe s.cur = ([], C)) : finL s = (0, mkS s.pos 0 [] s.cp s.lw [] (s.rl ++ [(s.lw, C)])) := by
  have hpe : (s.rel 1).pe = [] := congrArg Prod.fst h
  have hcur : (s.rel 1).cur = C := congrArg Prod.snd h
  unfold finL
  rw [if_pos hpe, hpe, hcur]
  rfl
theorem m_aLine {t : Nat → Nat} {L : Nat} {g : GG} {m o d : Nat} {s : CS} (hI : IV L s) (hM : MST g t L s.pos d s.rl []) (hmd : s.mode = 0) (hpe : s.pe = []) (hcu : s.cur = []) (h33 : tkK t L s ≠ 33) : BADL t L s g m o (f_X11_aLine [.ref 188] (hp g m o)) ∨ ∃ g' s' z, f_X11_aLine [.ref 188] (hp g m o) = some (some (.int (nI 1)), hp g' m o) ∧ FRV g g' ∧ g' 188 8 = nI s.rl.length ∧ RNS t L s s' ∧ IV L s' ∧ s'.mode = 0 ∧ s'.pe = [] ∧ s'.cur = [] ∧ s'.rl = s.rl ++ [z] ∧ (z.2 = [] ∨ opRun z.2 [] = true) ∧ MST (upd2 g' 188 8 (nI (s.rl.length + 1))) t L s'.pos 0 s'.rl [] ∧ s.pos < s'.pos := by
  have hL := hM.1.1
  have hr16 := hI.1.2.2
  obtain ⟨h12, h14⟩ := hM.tok
  have hK := tkK_le t L s
  obtain ⟨y0, -, -, -, -, -, -, -, -, -, -, -, -, -, -, -, -, -, y16⟩ := mTk_tab ⟨tkK t L s, by omega⟩
  have y0' : mTk (tkK t L s) < 200 := y0
  have q8 : g 188 8 = nI s.rl.length := hM.2.2.2.2.1
  have q9 : g 188 9 = nI (allS s.rl ++ []).length := hM.2.2.2.2.2.1
  rw [List.append_nil] at q9
  have hcst0 : ∀ v, cst s (tkK t L s) v = cst0 s (tkK t L s) := fun v => by unfold cst; rw [if_pos hmd]
  have p60 : s.pe.length ≤ 60 := by rw [hpe]; exact Nat.zero_le _
  by_cases hk : tkK t L s = 16 ∨ tkK t L s = 17
  · have hin : (20 ≤ mTk (tkK t L s) ∧ mTk (tkK t L s) ≤ 21) = True := eq_true (y16.mpr hk)
    by_cases h16 : s.rl.length < 16
    · have n16 : (s.rl.length = 16) = False := eq_false (by omega)
      have hcst : cst s (tkK t L s) (tkV t L s) = (0, mkS s.pos 1 [] s.cp (decide (tkK t L s = 16)) [] s.rl) := by
        rw [hcst0]; unfold cst0; rw [if_pos hk, if_pos h16, hpe, hcu]
      obtain ⟨r1, r2, r3⟩ := stp1 hI p60 (Or.inr h33) hcst
      -- the row's start
      have hflag : nI (mTk (tkK t L s)) - nI 20 = if decide (tkK t L s = 16) = true then nI 0 else nI 1 := by
        rcases hk with e | e
        · rw [e, decide_eq_true rfl, if_pos rfl]; rfl
        · rw [e, decide_eq_false (by decide), if_neg (by decide)]; rfl
      have b3 : 3 * s.rl.length < 48 := by omega
      have b31 : 3 * s.rl.length + 1 < 48 := by omega
      have b32 : 3 * s.rl.length + 2 < 48 := by omega
      have i0 : 3 * s.rl.length ≤ 3 * s.rl.length := Nat.le_refl _
      have M0 := ((hM.dep 0).row (i := 3 * s.rl.length) (Nat.le_refl _) (nI (mTk (tkK t L s)) - nI 20)).row (i := 3 * s.rl.length + 1) (by omega) (nI (allS s.rl).length)
      have u12 : upd2 g 188 18 (nI 0) 188 12 = nI (mTk (tkK t L s)) := by rw [uO (by omega)]; exact h12
      have u8 : upd2 g 188 18 (nI 0) 188 8 = nI s.rl.length := by rw [uO (by omega)]; exact q8
      have u8' : upd2 (upd2 g 188 18 (nI 0)) 191 (3 * s.rl.length) (nI (mTk (tkK t L s)) - nI 20) 188 8 = nI s.rl.length := by rw [uN (by omega)]; exact u8
      have u9' : upd2 (upd2 g 188 18 (nI 0)) 191 (3 * s.rl.length) (nI (mTk (tkK t L s)) - nI 20) 188 9 = nI (allS s.rl).length := by rw [uN (by omega), uO (by omega)]; exact q9
      have fr0 : FRV g (upd2 (upd2 (upd2 g 188 18 (nI 0)) 191 (3 * s.rl.length) (nI (mTk (tkK t L s)) - nI 20)) 191 (3 * s.rl.length + 1) (nI (allS s.rl).length)) := ((FRV.rfl'.put (by omega)).put (by omega)).put (by omega)
      have v0 : upd2 (upd2 (upd2 g 188 18 (nI 0)) 191 (3 * s.rl.length) (nI (mTk (tkK t L s)) - nI 20)) 191 (3 * s.rl.length + 1) (nI (allS s.rl).length) 191 (3 * s.rl.length) = if decide (tkK t L s = 16) = true then nI 0 else nI 1 := by rw [uO (by omega), uS]; exact hflag
      have v1 : upd2 (upd2 (upd2 g 188 18 (nI 0)) 191 (3 * s.rl.length) (nI (mTk (tkK t L s)) - nI 20)) 191 (3 * s.rl.length + 1) (nI (allS s.rl).length) 191 (3 * s.rl.length + 1) = nI (allS s.rl).length := uS
      generalize hg0 : upd2 (upd2 (upd2 g 188 18 (nI 0)) 191 (3 * s.rl.length) (nI (mTk (tkK t L s)) - nI 20)) 191 (3 * s.rl.length + 1) (nI (allS s.rl).length) = g0 at M0 fr0 v0 v1
      obtain ⟨g1, e1, M1, f1⟩ := M0.next (m := m) (o := o)
      have w0 : g1 191 (3 * s.rl.length) = if decide (tkK t L s = 16) = true then nI 0 else nI 1 := by rw [f1.1 191 (by omega) (by omega)]; exact v0
      have w1 : g1 191 (3 * s.rl.length + 1) = nI (allS s.rl).length := by rw [f1.1 191 (by omega) (by omega)]; exact v1
      have s1m0 : ((mkS s.pos 1 [] s.cp (decide (tkK t L s = 16)) [] s.rl).to (tkE t L s)).mode ≠ 0 := Nat.one_ne_zero
      generalize hs1 : (mkS s.pos 1 [] s.cp (decide (tkK t L s = 16)) [] s.rl).to (tkE t L s) = s1 at r1 r2 s1m0
      have s1p : s1.pos = tkE t L s := by rw [← hs1]; rfl
      have s1m : s1.mode = 1 := by rw [← hs1]; rfl
      have s1pe : s1.pe = [] := by rw [← hs1]; rfl
      have s1cu : s1.cur = [] := by rw [← hs1]; rfl
      have s1rl : s1.rl = s.rl := by rw [← hs1]; rfl
      have s1lw : s1.lw = decide (tkK t L s = 16) := by rw [← hs1]; rfl
      have M1' : MST g1 t L s1.pos 0 s.rl [] := by rw [s1p]; exact M1
      obtain ⟨i12, -⟩ := M1'.tok
      have hK1 := tkK_le t L s1
      obtain ⟨z0, -, -, -, -, -, -, -, -, -, -, -, -, -, -, z22, z18, -⟩ := mTk_tab ⟨tkK t L s1, by omega⟩
      have z0' : mTk (tkK t L s1) < 200 := z0
      have g18 : (mTk (tkK t L s1) = 3) = (tkK t L s1 = 18) := propext z18
      -- the end of the line
      have hend : ∀ (g3 : GG) (s3 : CS) (C : List (Nat × Nat)), FRV g g3 → RNS t L s s3 → IV L s3 → s3.pe.length ≤ 60 → s3.mode ≠ 0 → s3.rl = s.rl → s3.lw = decide (tkK t L s = 16) → s.pos < s3.pos → MST g3 t L s3.pos 0 s.rl C → g3 191 (3 * s.rl.length) = (if decide (tkK t L s = 16) = true then nI 0 else nI 1) → g3 191 (3 * s.rl.length + 1) = nI (allS s.rl).length → (tkK t L s3 = 22 → cst s3 22 (tkV t L s3) = finL s3) → rlA 1 s3.pe s3.cur = ([], C) → (tkK t L s3 ≠ 22 → ∃ s', cst s3 (tkK t L s3) (tkV t L s3) = (1, s')) → (C = [] ∨ opRun C [] = true) → BADL t L s g m o (kb_X11_aLine_100 [.ref 188] [] (hp g3 m o)) ∨ ∃ g' s' z, kb_X11_aLine_100 [.ref 188] [] (hp g3 m o) = some (some (.int (nI 1)), hp g' m o) ∧ FRV g g' ∧ g' 188 8 = nI s.rl.length ∧ RNS t L s s' ∧ IV L s' ∧ s'.mode = 0 ∧ s'.pe = [] ∧ s'.cur = [] ∧ s'.rl = s.rl ++ [z] ∧ (z.2 = [] ∨ opRun z.2 [] = true) ∧ MST (upd2 g' 188 8 (nI (s.rl.length + 1))) t L s'.pos 0 s'.rl [] ∧ s.pos < s'.pos := by
        intro g3 s3 C F3 R3 I3 p3 m3 rl3 lw3 pos3 M3 a0 a1 c22 hrel cbad hC
        have x8 : g3 188 8 = nI s.rl.length := M3.2.2.2.2.1
        have x9 : g3 188 9 = nI (allS s.rl ++ C).length := M3.2.2.2.2.2.1
        have M4 := M3.row (i := 3 * s.rl.length + 2) (by omega) (nI (allS s.rl ++ C).length)
        have F4 : FRV g (upd2 g3 191 (3 * s.rl.length + 2) (nI (allS s.rl ++ C).length)) := F3.put (by omega)
        have a0' : upd2 g3 191 (3 * s.rl.length + 2) (nI (allS s.rl ++ C).length) 191 (3 * s.rl.length) = (if decide (tkK t L s = 16) = true then nI 0 else nI 1) := by rw [uO (by omega)]; exact a0
        have a1' : upd2 g3 191 (3 * s.rl.length + 2) (nI (allS s.rl ++ C).length) 191 (3 * s.rl.length + 1) = nI (allS s.rl).length := by rw [uO (by omega)]; exact a1
        have a2' : upd2 g3 191 (3 * s.rl.length + 2) (nI (allS s.rl ++ C).length) 191 (3 * s.rl.length + 2) = nI (allS s.rl ++ C).length := uS
        generalize hg4 : upd2 g3 191 (3 * s.rl.length + 2) (nI (allS s.rl ++ C).length) = g4 at M4 F4 a0' a1' a2'
        obtain ⟨j12, -⟩ := M4.tok
        have hK3 := tkK_le t L s3
        obtain ⟨n0, -, -, -, -, -, -, -, -, -, -, -, -, -, -, n22, -⟩ := mTk_tab ⟨tkK t L s3, by omega⟩
        have n0' : mTk (tkK t L s3) < 200 := n0
        have g159 : (mTk (tkK t L s3) = 159) = (tkK t L s3 = 22) := propext n22
        by_cases k22 : tkK t L s3 = 22
        · right
          have k22' : (tkK t L s3 = 22) = True := eq_true k22
          have hc := c22 k22
          rw [finL_eq hrel] at hc
          obtain ⟨w1, w2, w3⟩ := stp1 I3 p3 (Or.inl m3) (by rw [k22]; exact hc)
          obtain ⟨g5, e5, M5, f5⟩ := M4.next (m := m) (o := o)
          have l1 : g5 191 (3 * s.rl.length) = if decide (tkK t L s = 16) = true then nI 0 else nI 1 := by rw [f5.1 191 (by omega) (by omega)]; exact a0'
          have l2 : g5 191 (3 * s.rl.length + 1) = nI (allS s.rl).length := by rw [f5.1 191 (by omega) (by omega)]; exact a1'
          have l3 : g5 191 (3 * s.rl.length + 2) = nI (allS s.rl ++ C).length := by rw [f5.1 191 (by omega) (by omega)]; exact a2'
          have M6 := M5.line (decide (tkK t L s = 16)) l1 l2 l3
          refine ⟨g5, _, (decide (tkK t L s = 16), C), ?_, F4.tr f5.v, M5.2.2.2.2.1, R3.tr w1, w2, rfl, rfl, rfl, by show s3.rl ++ [(s3.lw, C)] = _; rw [rl3, lw3], hC, by
            show MST _ t L (tkE t L s3) 0 (s3.rl ++ [(s3.lw, C)]) []
            rw [rl3, lw3]; exact M6, by show s.pos < tkE t L s3; omega⟩
          simp (disch := first | assumption | omega) only [kb_X11_aLine_100, f_X11_need, kb_X11_need_0, KL, KB, KC, KI, KJ, KZ, bI_0, bI_n, nI00, nI10, ne_eq, Classical.not_not, not_true_eq_false, not_false_eq_true, if_true, if_false, ite_not, ite_self, Bool.false_eq_true, nIne1, O_mo, AR, x8, x9, nI_mul, nI_add, hg4, j12, nIeq, g159, k22', e5]
        · left
          have k22' : (tkK t L s3 = 22) = False := eq_false k22
          obtain ⟨s', hs'⟩ := cbad k22
          have hf := flt1 (kd := 1) I3 p3 (Or.inl m3) (by decide) hs'
          obtain ⟨g5, e5, f5, w1, w2⟩ := M4.bad (m := m) (o := o) 1
          refine ⟨g5, 1, tkP t L s3, ?_, F4.frn f5.n, w1, w2, by omega, by omega, R3.flt hf⟩
          simp (disch := first | assumption | omega) only [kb_X11_aLine_100, f_X11_need, kb_X11_need_0, KL, KB, KC, KI, KJ, KZ, bI_0, bI_n, nI00, nI10, ne_eq, Classical.not_not, not_true_eq_false, not_false_eq_true, if_true, if_false, ite_not, ite_self, Bool.false_eq_true, nIne1, O_mo, AR, x8, x9, nI_mul, nI_add, hg4, j12, nIeq, g159, k22', e5]
      by_cases k18 : tkK t L s1 = 18
      · have k18' : (tkK t L s1 = 18) = True := eq_true k18
        have hcst1 : cst s1 (tkK t L s1) (tkV t L s1) = (0, mkS s1.pos 2 [] s1.cp s1.lw [] s.rl) := by
          unfold cst
          rw [if_neg (by omega), if_pos s1m]
          unfold cst1
          rw [if_pos k18, s1pe, s1cu, s1rl]
        obtain ⟨q1, q2, q3⟩ := stp1 r2 (by rw [s1pe]; exact Nat.zero_le _) (Or.inl s1m0) hcst1
        obtain ⟨g2, e2, M2, f2⟩ := M1'.next (m := m) (o := o)
        rcases m_cond t L s.rl g2 m o _ [] q2 rfl M2 rfl (by omega) (Nat.zero_le _) (Nat.zero_le _) (fun k hk => by have hk' : (none : Option Nat) = some k := hk; cases hk') rfl with hb | ⟨g3, s3, P, W, e3, G3, P3, z1, z2, z3⟩
        · left
          obtain ⟨g3, kd, pl, e3, f3, x1, x2, x3, x4, x5⟩ := hb
          refine ⟨g3, kd, pl, ?_, ((fr0.tr f1.v).tr f2.v).frn f3.n, x1, x2, x3, x4, (r1.tr q1).flt x5⟩
          simp (disch := first | assumption | omega) only [f_X11_aLine, kb_X11_aLine_0, kb_X11_aLine_35, KL, KB, KC, KI, KJ, KZ, bI_0, bI_n, nI00, nI10, ne_eq, Classical.not_not, not_true_eq_false, not_false_eq_true, if_true, if_false, ite_not, ite_self, Bool.false_eq_true, nIne1, O_mo, AR, m_isIn, h12, nIle, hin, q8, nIeq, n16, u12, u8, u8', u9', nI_mul, nI_add, hg0, e1, i12, g18, k18', e2, e3]
        · have G3' := G3
          have s3pe : s3.pe.length ≤ 60 := G3.pe (cap := 0) (Nat.zero_le _) (by omega) (by omega)
          obtain ⟨b1, b2, b3, b4, b5, b6, b7, b8, b9, b10, b11, b12⟩ := G3
          have hA : AFT t L s3 := z1
          have hrel : rlA 1 s3.pe s3.cur = ([], W) := rel1_app (S := []) b4 b9 (fun x hx => by cases hx) b7
          have hTR : opRun W [] = true := by have := b12 [] (by decide); rwa [List.append_nil] at this
          have hlast := hend g3 s3 W (((fr0.tr f1.v).tr f2.v).tr b1.v) ((r1.tr q1).tr b2) b3 s3pe hA.md0 b5 (by rw [b6]; exact s1lw) (by
            have a1 : s.pos < tkE t L s := r3
            have a2 : s1.pos < tkE t L s1 := q3
            have a3 : tkE t L s1 < s3.pos := P3
            omega) b8 (by rw [b1.1 191 (by omega) (by omega), f2.1 191 (by omega) (by omega)]; exact w0) (by rw [b1.1 191 (by omega) (by omega), f2.1 191 (by omega) (by omega)]; exact w1) (fun k22 => by
            rcases hA.cstc with ⟨e, hn⟩ | ⟨-, e⟩
            · rw [k22] at e
              rw [e]
              unfold cstJ
              rw [if_neg hn, if_neg (by omega), if_neg (by omega), if_pos rfl]
            · omega) hrel (fun n22 => hA.wrong z3 z2 (fun _ => congrArg Prod.fst hrel) (fun q => absurd q n22)) (Or.inr hTR)
          simp (disch := first | assumption | omega) only [f_X11_aLine, kb_X11_aLine_0, kb_X11_aLine_35, KL, KB, KC, KI, KJ, KZ, bI_0, bI_n, nI00, nI10, ne_eq, Classical.not_not, not_true_eq_false, not_false_eq_true, if_true, if_false, ite_not, ite_self, Bool.false_eq_true, nIne1, O_mo, AR, m_isIn, h12, nIle, hin, q8, nIeq, n16, u12, u8, u8', u9', nI_mul, nI_add, hg0, e1, i12, g18, k18', e2, e3]
          exact hlast
      · have k18' : (tkK t L s1 = 18) = False := eq_false k18
        have hc1 : ∀ v, cst s1 (tkK t L s1) v = if tkK t L s1 = 22 then finL s1 else (1, s1) := fun v => by
          unfold cst
          rw [if_neg (by omega), if_pos s1m]
          unfold cst1
          rw [if_neg k18]
        have hlast := hend g1 s1 [] (fr0.tr f1.v) r1 r2 (by rw [s1pe]; exact Nat.zero_le _) s1m0 s1rl s1lw (by rw [s1p]; exact r3) M1' w0 w1 (fun k22 => by have := hc1 (tkV t L s1); rw [if_pos k22, k22] at this; exact this) (by rw [s1pe, s1cu]; rfl) (fun n22 => ⟨s1, by rw [hc1, if_neg n22]⟩) (Or.inl rfl)
        simp (disch := first | assumption | omega) only [f_X11_aLine, kb_X11_aLine_0, kb_X11_aLine_35, KL, KB, KC, KI, KJ, KZ, bI_0, bI_n, nI00, nI10, ne_eq, Classical.not_not, not_true_eq_false, not_false_eq_true, if_true, if_false, ite_not, ite_self, Bool.false_eq_true, nIne1, O_mo, AR, m_isIn, h12, nIle, hin, q8, nIeq, n16, u12, u8, u8', u9', nI_mul, nI_add, hg0, e1, i12, g18, k18']
        exact hlast
    · left
      have n16 : (s.rl.length = 16) = True := eq_true (by omega)
      have hcst : cst s (tkK t L s) (tkV t L s) = (3, s) := by
        rw [hcst0]; unfold cst0; rw [if_pos hk, if_neg h16]
      have hf := flt1 (kd := 3) hI p60 (Or.inr h33) (by decide) hcst
      obtain ⟨g5, e5, f5, w1, w2⟩ := hM.bad (m := m) (o := o) 3
      refine ⟨g5, 3, tkP t L s, ?_, f5.n, w1, w2, by omega, by omega, hf⟩
      simp (disch := first | assumption | omega) only [f_X11_aLine, kb_X11_aLine_0, KL, KB, KC, KI, KJ, KZ, bI_0, bI_n, nI00, nI10, ne_eq, Classical.not_not, not_true_eq_false, not_false_eq_true, if_true, if_false, ite_not, ite_self, Bool.false_eq_true, nIne1, O_mo, AR, m_isIn, h12, nIle, hin, q8, nIeq, n16, e5]
  · left
    have hin : (20 ≤ mTk (tkK t L s) ∧ mTk (tkK t L s) ≤ 21) = False := eq_false (fun q => hk (y16.mp q))
    have hcst : cst s (tkK t L s) (tkV t L s) = (1, s) := by
      rw [hcst0]; unfold cst0; rw [if_neg hk]
    have hf := flt1 (kd := 1) hI p60 (Or.inr h33) (by decide) hcst
    obtain ⟨g5, e5, f5, w1, w2⟩ := hM.bad (m := m) (o := o) 1
    refine ⟨g5, 1, tkP t L s, ?_, f5.n, w1, w2, by omega, by omega, hf⟩
    simp (disch := first | assumption | omega) only [f_X11_aLine, kb_X11_aLine_0, KL, KB, KC, KI, KJ, KZ, bI_0, bI_n, nI00, nI10, ne_eq, Classical.not_not, not_true_eq_false, not_false_eq_true, if_true, if_false, ite_not, ite_self, Bool.false_eq_true, nIne1, O_mo, AR, m_isIn, h12, nIle, hin, e5]
