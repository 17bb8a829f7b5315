-- ===== the model's descent: what it holds =====
def CS.to (s : CS) (p : Nat) : CS := (mkS p (s.mode) (s.pe) (s.cp) (s.lw) (s.cur) (s.rl))
def tkP (t : Nat → Nat) (L : Nat) (s : CS) : Nat := stE blB t L s.pos
def tkK (t : Nat → Nat) (L : Nat) (s : CS) : Nat := lxK t L (tkP t L s)
def tkV (t : Nat → Nat) (L : Nat) (s : CS) : Nat := lxV t L (tkP t L s)
def tkE (t : Nat → Nat) (L : Nat) (s : CS) : Nat := lxE t L (tkP t L s)
def RNS (t : Nat → Nat) (L : Nat) (s s' : CS) : Prop := ∃ n, n + s.pos ≤ s'.pos ∧ ∀ k, cgo t L (n + k) s = cgo t L k s'
def FLT (t : Nat → Nat) (L : Nat) (s : CS) (kd pl : Nat) : Prop := ∃ n, n + s.pos ≤ L ∧ ∀ k, cgo t L (n + 1 + k) s = some (kd, pl, [])
theorem RNS.refl' {t : Nat → Nat} {L : Nat} {s : CS} : RNS t L s s := ⟨0, by omega, fun k => by rw [Nat.zero_add]⟩
theorem RNS.tr {t : Nat → Nat} {L : Nat} {s s' s'' : CS} (h : RNS t L s s') (h' : RNS t L s' s'') : RNS t L s s'' := by
  obtain ⟨n, a, b⟩ := h
  obtain ⟨n', a', b'⟩ := h'
  exact ⟨n + n', by omega, fun k => by rw [Nat.add_assoc, b, b']⟩
theorem RNS.flt {t : Nat → Nat} {L : Nat} {s s' : CS} {kd pl : Nat} (h : RNS t L s s') (h' : FLT t L s' kd pl) : FLT t L s kd pl := by
  obtain ⟨n, a, b⟩ := h
  obtain ⟨n', a', b'⟩ := h'
  exact ⟨n + n', by omega, fun k => by rw [Nat.add_assoc, Nat.add_assoc, b, ← Nat.add_assoc, b']⟩
theorem stp1 {t : Nat → Nat} {L : Nat} {s s1 : CS} (hI : IV L s) (h60 : s.pe.length ≤ 60) (hm : s.mode ≠ 0 ∨ tkK t L s ≠ 33) (hc : cst s (tkK t L s) (tkV t L s) = (0, s1)) : RNS t L s (s1.to (tkE t L s)) ∧ IV L (s1.to (tkE t L s)) ∧ s.pos < tkE t L s := by
  have hcd : ¬ (lxK t L (stE blB t L s.pos) = 33 ∧ s.mode = 0) := fun q => hm.elim (fun a => a q.2) (fun a => a q.1)
  have hst := IV.step hI hcd (by rw [show cst s (lxK t L (stE blB t L s.pos)) (lxV t L (stE blB t L s.pos)) = (0, s1) from hc])
  rw [show cst s (lxK t L (stE blB t L s.pos)) (lxV t L (stE blB t L s.pos)) = (0, s1) from hc] at hst
  obtain ⟨h1, h2⟩ := hst
  refine ⟨⟨1, by show 1 + s.pos ≤ tkE t L s; exact (Nat.add_comm 1 s.pos).symm ▸ h2, fun k => ?_⟩, h1, h2⟩
  rw [Nat.add_comm 1 k]
  show (if 60 < s.pe.length then none else _) = _
  rw [if_neg (by omega), if_neg hcd, show cst s (lxK t L (stE blB t L s.pos)) (lxV t L (stE blB t L s.pos)) = (0, s1) from hc, if_pos rfl]
  rfl
theorem flt1 {t : Nat → Nat} {L : Nat} {s s1 : CS} {kd : Nat} (hI : IV L s) (h60 : s.pe.length ≤ 60) (hm : s.mode ≠ 0 ∨ tkK t L s ≠ 33) (hkd : kd ≠ 0) (hc : cst s (tkK t L s) (tkV t L s) = (kd, s1)) : FLT t L s kd (tkP t L s) := by
  have hcd : ¬ (lxK t L (stE blB t L s.pos) = 33 ∧ s.mode = 0) := fun q => hm.elim (fun a => a q.2) (fun a => a q.1)
  refine ⟨0, by have := hI.2.2.2.1; omega, fun k => ?_⟩
  rw [Nat.zero_add, Nat.add_comm 1 k]
  show (if 60 < s.pe.length then none else _) = _
  rw [if_neg (by omega), if_neg hcd, show cst s (lxK t L (stE blB t L s.pos)) (lxV t L (stE blB t L s.pos)) = (kd, s1) from hc, if_neg hkd]
  rfl
/-- steps that carry a stack of sorts to another -/
def TR (W : List (Nat × Nat)) (ts ts' : List Bool) : Prop := ∀ l, opRun l ts' = true → opRun (W ++ l) ts = true
theorem TR.app {W W' : List (Nat × Nat)} {a b c : List Bool} (h : TR W a b) (h' : TR W' b c) : TR (W ++ W') a c := fun l hl => by rw [List.append_assoc]; exact h _ (h' _ hl)
theorem TR.one {q : Nat × Nat} {a b : List Bool} (h1 : q.1 = 20 → 0 < q.2) (h2 : q.2 < 10000) (h3 : opTy q.1 a = some b) (h4 : b.length ≤ 60) : TR [q] a b := fun l hl => by
  show (decide (q.1 = 20 → 0 < q.2) && decide (q.2 < 10000) && match opTy q.1 a with
    | some t => decide (t.length ≤ 60) && opRun l t
    | none => false) = true
  rw [decide_eq_true h1, decide_eq_true h2, h3]
  show (true && true && (decide (b.length ≤ 60) && opRun l b)) = true
  rw [decide_eq_true h4, hl]; rfl
def MRT (g : GG) (rl : ARule) (C : List (Nat × Nat)) : Prop := g 188 8 = nI rl.length ∧ g 188 9 = nI (allS rl ++ C).length ∧ (∀ (i : Nat) (z : Bool × List (Nat × Nat)), rl[i]? = some z → g 191 (3 * i) = (if z.1 = true then nI 0 else nI 1) ∧ g 191 (3 * i + 1) = nI (lnB rl i) ∧ g 191 (3 * i + 2) = nI (lnB rl (i + 1))) ∧ ∀ (j : Nat) (z : Nat × Nat), (allS rl ++ C)[j]? = some z → g 192 (2 * j) = nI z.1 ∧ (z.1 = 0 ∨ z.1 = 20 → g 192 (2 * j + 1) = nI z.2)
def MST (g : GG) (t : Nat → Nat) (L p d : Nat) (rl : ARule) (C : List (Nat × Nat)) : Prop := TPM g t L ∧ p ≤ L ∧ TKM t L (stE blB t L p) g ∧ g 188 18 = nI d ∧ MRT g rl C
def FRM (g g' : GG) : Prop := (∀ a, a ≠ 188 → a ≠ 192 → g' a = g a) ∧ ∀ i, i < 9 ∨ i = 10 ∨ i = 17 ∨ 18 < i → g' 188 i = g 188 i
def FRG (g g' : GG) : Prop := (∀ a, a ≠ 188 → a ≠ 192 → g' a = g a) ∧ ∀ i, i < 9 ∨ i = 10 ∨ (15 ≤ i ∧ i ≤ 17) ∨ 18 < i → g' 188 i = g 188 i
theorem FRG.rfl' {g : GG} : FRG g g := ⟨fun _ _ _ => rfl, fun _ _ => rfl⟩
theorem FRG.tr {g g' g'' : GG} (h : FRG g g') (h' : FRG g' g'') : FRG g g'' := ⟨fun a x y => by rw [h'.1 a x y]; exact h.1 a x y, fun i x => by rw [h'.2 i x]; exact h.2 i x⟩
theorem FRG.frm {g g' g'' : GG} (h : FRG g g') (h' : FRM g' g'') : FRM g g'' := ⟨fun a x y => by rw [h'.1 a x y]; exact h.1 a x y, fun i x => by rw [h'.2 i x]; exact h.2 i (by omega)⟩
theorem FRG.put {g g' : GG} {a i : Nat} {v : Int32} (h : FRG g g') (hi : a = 192 ∨ (a = 188 ∧ (i = 9 ∨ (11 ≤ i ∧ i ≤ 14) ∨ i = 18))) : FRG g (upd2 g' a i v) := ⟨fun b x y => by rw [uN (by omega)]; exact h.1 b x y, fun j hj => by rw [uO (by omega)]; exact h.2 j hj⟩
theorem TKM.congr {t : Nat → Nat} {L q : Nat} {g g' : GG} (h : TKM t L q g) (e : ∀ i, 11 ≤ i → i ≤ 14 → g' 188 i = g 188 i) : TKM t L q g' := ⟨by rw [e 11 (by omega) (by omega)]; exact h.1, by rw [e 12 (by omega) (by omega)]; exact h.2.1, by rw [e 13 (by omega) (by omega)]; exact h.2.2.1, fun hk => by rw [e 14 (by omega) (by omega)]; exact h.2.2.2 hk⟩
theorem tkE_le {t : Nat → Nat} {L p : Nat} (hp' : p ≤ L) : lxE t L (stE blB t L p) ≤ L := by
  obtain ⟨b1, b2, -, -⟩ := stE_prop blB t hp'
  rcases Nat.lt_or_ge (stE blB t L p) L with h | h
  · exact (lx_in h).2.1
  · rw [(lx_end h).1]; exact b2
theorem MST.next {g : GG} {m o L p d : Nat} {t : Nat → Nat} {rl : ARule} {C : List (Nat × Nat)} (h : MST g t L p d rl C) : ∃ g', f_X11_next0 [.ref 188] (hp g m o) = some (none, hp g' m o) ∧ MST g' t L (lxE t L (stE blB t L p)) d rl C ∧ FRG g g' := by
  obtain ⟨hT, hp', hk, h18, r1, r2, r3, r4⟩ := h
  obtain ⟨g1, e1, f1, w1⟩ := m_next0 (m := m) (o := o) hT hk.1 (tkE_le hp')
  exact ⟨g1, e1, ⟨hT.scm f1, tkE_le hp', w1, by rw [f1.2 18 (by omega) (by omega) (by omega) (by omega)]; exact h18, by rw [f1.2 8 (by omega) (by omega) (by omega) (by omega)]; exact r1, by rw [f1.2 9 (by omega) (by omega) (by omega) (by omega)]; exact r2, fun i z hz => by rw [f1.1 191 (by omega)]; exact r3 i z hz, fun j z hz => by rw [f1.1 192 (by omega)]; exact r4 j z hz⟩, ⟨fun a x _ => f1.1 a x, fun i hi => f1.2 i (by omega) (by omega) (by omega) (by omega)⟩⟩
theorem MST.lay {g : GG} {m o L p d : Nat} {t : Nat → Nat} {rl : ARule} {C : List (Nat × Nat)} (h : MST g t L p d rl C) (hn : (allS rl ++ C).length < 400) (z : Nat × Nat) (x : Int32) (hx : z.1 = 0 ∨ z.1 = 20 → x = nI z.2) : ∃ g', f_X11_lay0 [.ref 188, .int (nI z.1), .int x] (hp g m o) = some (none, hp g' m o) ∧ MST g' t L p d rl (C ++ [z]) ∧ FRG g g' := by
  obtain ⟨hT, hp', hk, h18, r1, r2, r3, r4⟩ := h
  have n1 : 2 * (allS rl ++ C).length < 820 := by omega
  have n2 : 2 * (allS rl ++ C).length + 1 < 820 := by omega
  have e9 : upd2 g 192 (2 * (allS rl ++ C).length) (nI z.1) 188 9 = nI (allS rl ++ C).length := by rw [uN (by omega)]; exact r2
  have e9' : upd2 (upd2 g 192 (2 * (allS rl ++ C).length) (nI z.1)) 192 (2 * (allS rl ++ C).length + 1) x 188 9 = nI (allS rl ++ C).length := by rw [uN (by omega)]; exact e9
  have en : (allS rl ++ (C ++ [z])).length = (allS rl ++ C).length + 1 := by rw [← List.append_assoc, List.length_append, List.length_cons, List.length_nil]
  refine ⟨upd2 (upd2 (upd2 g 192 (2 * (allS rl ++ C).length) (nI z.1)) 192 (2 * (allS rl ++ C).length + 1) x) 188 9 (nI ((allS rl ++ C).length + 1)), ?_, ⟨⟨hT.1, by rw [uO (by omega), uN (by omega), uN (by omega)]; exact hT.2.1, fun i hi => by rw [uN (by omega), uN (by omega), uN (by omega)]; exact hT.2.2 i hi⟩, hp', hk.congr (fun i a b => by rw [uO (by omega), uN (by omega), uN (by omega)]), by rw [uO (by omega), uN (by omega), uN (by omega)]; exact h18, by rw [uO (by omega), uN (by omega), uN (by omega)]; exact r1, by rw [en]; exact uS, fun i z hz => by rw [uN (by omega), uN (by omega), uN (by omega)]; exact r3 i z hz, fun j y hy => ?_⟩, ((FRG.rfl'.put (by omega)).put (by omega)).put (by omega)⟩
  · simp (disch := first | assumption | omega) only [f_X11_lay0, kb_X11_lay0_0, KL, KB, KC, KI, KJ, KZ, bI_0, bI_n, nI00, nI10, ne_eq, Classical.not_not, not_true_eq_false, not_false_eq_true, if_true, if_false, ite_not, ite_self, Bool.false_eq_true, nIne1, O_mo, AR, r2, e9, e9', nI_mul, nI_add]
  · rw [uN (by omega)]
    rw [← List.append_assoc] at hy
    by_cases w : j < (allS rl ++ C).length
    · rw [List.getElem?_append_left w] at hy
      rw [uO (by omega), uO (by omega), uO (by omega), uO (by omega)]; exact r4 j y hy
    · have hlt := (List.getElem?_eq_some_iff.mp hy).1
      rw [List.length_append, List.length_cons, List.length_nil] at hlt
      have hj : j = (allS rl ++ C).length := by omega
      rw [hj] at hy ⊢
      rw [List.getElem?_append_right (Nat.le_refl _), Nat.sub_self] at hy
      cases hy
      exact ⟨by rw [uO (by omega)]; exact uS, fun q => by rw [← hx q]; exact uS⟩
theorem MST.bad {g : GG} {m o L p d : Nat} {t : Nat → Nat} {rl : ARule} {C : List (Nat × Nat)} (h : MST g t L p d rl C) (x : Nat) : ∃ g', f_X11_bad [.ref 188, .int (nI x)] (hp g m o) = some (some (.int (nI 0)), hp g' m o) ∧ FRM g g' ∧ g' 188 15 = nI x ∧ g' 188 16 = nI (stE blB t L p) := by
  have e13 : upd2 g 188 15 (nI x) 188 13 = nI (stE blB t L p) := by rw [uO (by omega)]; exact h.2.2.1.2.2.1
  refine ⟨upd2 (upd2 g 188 15 (nI x)) 188 16 (nI (stE blB t L p)), ?_, ⟨fun a a1 a2 => by rw [uN a1, uN a1], fun i hi => by rw [uO (by omega), uO (by omega)]⟩, by rw [uO (by omega)]; exact uS, uS⟩
  simp (disch := first | assumption | omega) only [f_X11_bad, kb_X11_bad_0, KL, KB, KC, KI, KJ, KZ, bI_0, bI_n, nI00, nI10, ne_eq, Classical.not_not, not_true_eq_false, not_false_eq_true, if_true, if_false, ite_not, ite_self, Bool.false_eq_true, nIne1, O_mo, e13]
/-- faults: the model says so, the automaton too -/
def BADO (t : Nat → Nat) (L : Nat) (s : CS) (g : GG) (m o : Nat) (r : RS) : Prop := ∃ (g' : GG) (kd pl : Nat), r = some (some (.int (nI 0)), hp g' m o) ∧ FRM g g' ∧ g' 188 15 = nI kd ∧ g' 188 16 = nI pl ∧ 1 ≤ kd ∧ kd ≤ 3 ∧ FLT t L s kd pl
/-- as far as all is well -/
def GOOD (t : Nat → Nat) (L : Nat) (rl : ARule) (b c : Nat) (srt : Bool) (s : CS) (ts : List Bool) (d : Nat) (g g' : GG) (s' : CS) (P : List Nat) (W : List (Nat × Nat)) : Prop := FRG g g' ∧ RNS t L s s' ∧ IV L s' ∧ s'.pe = P ++ s.pe ∧ s'.rl = rl ∧ s'.lw = s.lw ∧ s'.cur ++ mO P = s.cur ++ W ∧ MST g' t L s'.pos d rl (s.cur ++ W) ∧ (∀ k ∈ P, b ≤ bnd k) ∧ P.length ≤ opn P + c ∧ opn P + d ≤ 8 ∧ TR W ts (srt :: ts)
/-- what a part of the descent does -/
def PRO (t : Nat → Nat) (L : Nat) (rl : ARule) (f : FF) (b hb c cap : Nat) (srt : Bool) (E : CS → Prop) (X : CS → CS → Prop) (d : Nat) : Prop := ∀ (g : GG) (m o : Nat) (s : CS) (ts : List Bool), IV L s → s.rl = rl → MST g t L s.pos d rl s.cur → opn s.pe = d → d ≤ 8 → s.pe.length ≤ 3 * d + cap → ts.length ≤ s.pe.length → (∀ k, s.pe.head? = some k → bnd k < hb) → E s → BADO t L s g m o (f [.ref 188] (hp g m o)) ∨ ∃ g' s' P W, f [.ref 188] (hp g m o) = some (some (.int (nI 1)), hp g' m o) ∧ GOOD t L rl b c srt s ts d g g' s' P W ∧ s.pos < s'.pos ∧ X s s'
theorem BADO.of {t : Nat → Nat} {L : Nat} {s s' : CS} {g g' : GG} {m o : Nat} {r : RS} (h : BADO t L s' g' m o r) (hr : RNS t L s s') (hf : FRG g g') : BADO t L s g m o r := by
  obtain ⟨g1, kd, pl, a, b, c, d, e, f, q⟩ := h
  exact ⟨g1, kd, pl, a, hf.frm b, c, d, e, f, hr.flt q⟩
theorem mTk_tab : ∀ k : Fin 35, mTk k.val < 200 ∧ (mTk k.val = 2 ↔ k.val = 32) ∧ ((41 ≤ mTk k.val ∧ mTk k.val ≤ 56) ↔ k.val < 16) ∧ (mTk k.val = 142 ↔ k.val = 25) ∧ (mTk k.val = 147 ↔ k.val = 26) ∧ (mTk k.val = 143 ↔ k.val = 23) ∧ (mTk k.val = 145 ↔ k.val = 24) ∧ (mTk k.val = 160 ↔ k.val = 29) ∧ (mTk k.val = 161 ↔ k.val = 30) ∧ (mTk k.val = 162 ↔ k.val = 31) ∧ (mTk k.val = 5 ↔ k.val = 20) ∧ (mTk k.val = 4 ↔ k.val = 19) ∧ (mTk k.val = 6 ↔ k.val = 21) ∧ (mTk k.val = 140 ↔ k.val = 27) ∧ (mTk k.val = 141 ↔ k.val = 28) ∧ (mTk k.val = 159 ↔ k.val = 22) ∧ (mTk k.val = 3 ↔ k.val = 18) ∧ (mTk k.val = 0 ↔ k.val = 33) ∧ ((20 ≤ mTk k.val ∧ mTk k.val ≤ 21) ↔ (k.val = 16 ∨ k.val = 17)) := by decide +kernel
theorem IV.fit {L : Nat} {s : CS} (h : IV L s) (hL : L ≤ 400) : (allS s.rl).length + s.cur.length + s.pe.length ≤ 400 := by
  have a := h.2.2.1
  have b := h.2.2.2.1
  unfold szS at a
  omega
