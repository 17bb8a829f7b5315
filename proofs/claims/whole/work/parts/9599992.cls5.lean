-- ===== the class's reads, as the automaton goes =====
theorem lxK_le (t : Nat → Nat) (L q : Nat) : lxK t L q ≤ 34 := by
  unfold lxK
  by_cases a : L ≤ q
  · rw [if_pos a]; omega
  rw [if_neg a]
  by_cases b : leB (t q) = true
  · rw [if_pos b]; rcases kwC_ne t q (stE leB t L q - q) with h | h <;> omega
  rw [if_neg b]
  by_cases c : diB (t q) = true
  · rw [if_pos c]; split <;> omega
  rw [if_neg c]
  rcases mkC_lt (t q) with h | h <;> omega
theorem numV_lt (t : Nat → Nat) (q : Nat) : ∀ k, (∀ i, i < k → t (q + i) < 58) → numV t q k < 10 ^ k
  | 0, _ => by show 0 < 1; omega
  | k + 1, h => by
    have a := numV_lt t q k (fun i hi => h i (by omega))
    have b := h k (by omega)
    show 10 * numV t q k + (t (q + k) - 48) < 10 ^ (k + 1)
    rw [Nat.pow_succ]
    omega
theorem lxV_lt {t : Nat → Nat} {L q : Nat} (h : lxK t L q = 32) : lxV t L q < 10000 := by
  have hq : q < L := by
    apply Nat.lt_of_not_le
    intro a
    rw [(lx_end a).2] at h; omega
  unfold lxK at h
  rw [if_neg (by omega)] at h
  by_cases b : leB (t q) = true
  · rw [if_pos b] at h; rcases kwC_ne t q (stE leB t L q - q) with e | e <;> omega
  rw [if_neg b] at h
  by_cases c : diB (t q) = true
  · rw [if_pos c] at h
    obtain ⟨c1, c2, c3, c4⟩ := stE_prop diB t (show q ≤ L by omega)
    have hle : stE diB t L q - q ≤ 4 := by
      apply Nat.le_of_not_lt
      intro e
      rw [if_neg (by omega)] at h; omega
    have hd : ∀ i, i < stE diB t L q - q → t (q + i) < 58 := fun i hi => by
      have := of_decide_eq_true (c3 (q + i) (by omega) (by omega)); omega
    have hn := numV_lt t q _ hd
    have : 10 ^ (stE diB t L q - q) ≤ 10 ^ 4 := Nat.pow_le_pow_right (by omega) hle
    unfold lxV
    omega
  · rw [if_neg c] at h
    rcases mkC_lt (t q) with e | e <;> omega
/-- the end of the reading: fault, place, lines -/
def RDE (g : GG) (r : Nat × Nat × ARule) : Prop := g 158 1 = nI 0 ∧ g 158 2 = nI r.1 ∧ (r.1 = 0 → g 158 3 = -1 ∧ DRF g r.2.2 []) ∧ (r.1 ≠ 0 → g 158 3 = nI r.2.1) ∧ (∃ b, g 158 8 = bW b) ∧ ∃ b, g 158 9 = bW b
def RDF (g g' : GG) : Prop := ∀ a, a < 158 ∨ a = 159 ∨ 163 < a → g' a = g a
def RDB : KK → KK := (fun s39 => kMask [true, true] (kIld 1 (kAld 0 (kGetI 5 15 1 (kIf2 (fun x y => y < x) ((kb_X5_reads_102)) (kAld 0 (kRecv 5 15 0 (kCall 1 f_X5_scan (kAld 0 (kGetI 5 15 12 (kConst (nI 33) (kIf2 (fun x y => x ≠ y) ((kb_X5_reads_70 s39)) (kAld 0 (kGetI 5 15 10 (kIf (fun x => x ≠ 0) ((kb_X5_reads_70 s39)) ((kb_X5_reads_102)))))))))))))))))
theorem reads_eq : kl_X5_reads_39 = kFix RDB FU := rfl
theorem c_readsGo {t : Nat → Nat} {L : Nat} : ∀ (n i : Nat) (g : GG) (m o : Nat) (s : CS) (r : Nat × Nat × ARule) (f : Nat), n < f → TPC g t L → CRB g s → IV L s → g 158 11 = nI s.pos → g 158 2 = nI 0 → g 158 3 = -1 → i ≤ s.pos → cgo t L n s = some r → r.1 < 100 → ∃ g', (kFix RDB f) [.ref 158, .int (nI i)] [] (hp g m o) = some (some (.int (nI (if r.1 = 0 then 1 else 0))), hp g' m o) ∧ RDE g' r ∧ RDF g g' := by
  intro n
  induction n with
  | zero => intro i g m o s r f hf hT hC hI h11 h2 h3 hi he; cases he
  | succ n ih =>
    intro i g m o s r f hf hT hC hI h11 h2 h3 hi he hr
    obtain ⟨f, rfl⟩ : ∃ f', f = f' + 1 := ⟨f - 1, by omega⟩
    have hL := hT.1
    have hl1 := hT.2.1
    have hpos := hI.2.2.2.1
    have hI5 := hI.2.2.2.2
    have hm6 := hI.1.2.1
    obtain ⟨b1, b2, b3, b4⟩ := stE_prop blB t hpos
    obtain ⟨g1, e1, f1, k11, k12, k13, k14⟩ := c_scan (m := m) (o := o) hT h11 hpos
    unfold cgo at he
    by_cases c60 : 60 < s.pe.length
    · rw [if_pos c60] at he; cases he
    rw [if_neg c60] at he
    have hC1 : CRB g1 s := ⟨by rw [f1.2 10 (by omega) (by omega) (by omega) (by omega)]; exact hC.1, by rw [f1.2 8 (by omega) (by omega) (by omega) (by omega)]; exact hC.2.1, by rw [f1.2 9 (by omega) (by omega) (by omega) (by omega)]; exact hC.2.2.1, hC.2.2.2.1.congr (f1.2 6 (by omega) (by omega) (by omega) (by omega)) (f1.2 7 (by omega) (by omega) (by omega) (by omega)) (f1.1 163 (by omega)), hC.2.2.2.2.congr (fun a x y => f1.1 a (by omega))⟩
    have hT1 := hT.scf f1
    have hin : (L < i) = False := eq_false (by omega)
    have q10 := hC1.1
    have q2 : g1 158 2 = nI 0 := by rw [f1.2 2 (by omega) (by omega) (by omega) (by omega)]; exact h2
    have q3 : g1 158 3 = -1 := by rw [f1.2 3 (by omega) (by omega) (by omega) (by omega)]; exact h3
    have hK := lxK_le t L (stE blB t L s.pos)
    have e0 : kFix RDB (f + 1) = RDB (kFix RDB f) := rfl
    rw [e0]
    by_cases cd : lxK t L (stE blB t L s.pos) = 33 ∧ s.mode = 0
    · rw [if_pos cd] at he
      by_cases cc : s.cur = []
      · rw [if_pos cc] at he
        cases he
        obtain ⟨d1, d2⟩ := cd
        have d1' : (lxK t L (stE blB t L s.pos) = 33) = True := eq_true d1
        rw [d2] at q10
        have q2' : upd2 g1 158 1 (nI 0) 158 2 = nI 0 := by rw [uO (by omega)]; exact q2
        refine ⟨upd2 g1 158 1 (nI 0), ?_, ⟨uS, q2', fun _ => ⟨by rw [uO (by omega)]; exact q3, by
          have := hC1.2.2.2.2; rw [cc] at this; exact this.congr (fun a x y => uN (by omega))⟩, fun q => absurd rfl q, ⟨s.cp, by rw [uO (by omega)]; exact hC1.2.1⟩, ⟨s.lw, by rw [uO (by omega)]; exact hC1.2.2.1⟩⟩, fun a ha => by rw [uN (by omega)]; exact f1.1 a (by omega)⟩
        have z0 : (nI 0 = 0) = True := eq_true rfl
        simp (disch := first | assumption | omega) only [RDB, kb_X5_reads_102, kb_X5_reads_119, KL, KB, KC, KI, KJ, KZ, bI_0, bI_n, nI00, nI10, ne_eq, Classical.not_not, not_true_eq_false, not_false_eq_true, if_true, if_false, ite_not, ite_self, Bool.false_eq_true, nIne1, kMask, mask, mask_n, O_rd, hl1, nIlt, hin, e1, k12, nIeq, d1', q10, z0, q2']
      · rw [if_neg cc] at he; cases he
    · rw [if_neg cd] at he
      have hsz := hI.2.2.1
      have hq : stE blB t L s.pos < L ∨ L ≤ stE blB t L s.pos := Nat.lt_or_ge _ _
      have hlt : szS s < 400 := by
        by_cases m0 : s.mode = 0
        · rcases hq with hq | hq
          · omega
          · exact absurd ⟨(lx_end hq).2, m0⟩ cd
        · have := hI5 m0; omega
      have hst := c_step (m := m) (o := o) (v := lxV t L (stE blB t L s.pos)) hC1 ⟨hI.1, by omega, hlt, hI.2.1⟩ hK k12 k14 (fun e => by have := lxV_lt e; omega)
      have hIV := IV.step hI cd
      generalize hR : cst s (lxK t L (stE blB t L s.pos)) (lxV t L (stE blB t L s.pos)) = R at *
      obtain ⟨g2, e2, w2, w3⟩ := hst
      have t2 : g2 158 2 = nI 0 := by rw [w3.2 2 (by omega)]; exact q2
      have t13 : g2 158 13 = nI (stE blB t L s.pos) := by rw [w3.2 13 (by omega)]; exact k13
      have t11 : g2 158 11 = nI (lxE t L (stE blB t L s.pos)) := by rw [w3.2 11 (by omega)]; exact k11
      have t3 : g2 158 3 = -1 := by rw [w3.2 3 (by omega)]; exact q3
      have hf : RDF g g2 := fun a ha => by rw [w3.1 a ha]; exact f1.1 a (by omega)
      by_cases r0 : R.1 = 0
      · rw [if_pos r0] at he
        rw [r0] at e2
        obtain ⟨hI', hlt'⟩ := hIV r0
        have hT2 : TPC (upd2 g2 158 2 (nI 0)) t L := ⟨hL, by rw [uO (by omega), w3.2 1 (by omega)]; exact hT1.2.1, fun j hj => by rw [uN (by omega), w3.1 159 (by omega)]; exact hT1.2.2 j hj⟩
        have hC2 : CRB (upd2 g2 158 2 (nI 0)) (mkS (lxE t L (stE blB t L s.pos)) (R.2.mode) (R.2.pe) (R.2.cp) (R.2.lw) (R.2.cur) (R.2.rl)) := ⟨by rw [uO (by omega)]; exact w2.1, by rw [uO (by omega)]; exact w2.2.1, by rw [uO (by omega)]; exact w2.2.2.1, w2.2.2.2.1.congr (uO (by omega)) (uO (by omega)) (uN (by omega)), w2.2.2.2.2.congr (fun a x y => uN (by omega))⟩
        obtain ⟨g3, e3, w5, w6⟩ := ih (i + 1) (upd2 g2 158 2 (nI 0)) m o _ r f (by omega) hT2 hC2 hI' (by rw [uO (by omega)]; exact t11) uS (by rw [uO (by omega)]; exact t3) (by show i + 1 ≤ lxE t L (stE blB t L s.pos); omega) he hr
        refine ⟨g3, ?_, w5, fun a ha => by rw [w6 a ha, uN (by omega)]; exact hf a ha⟩
        have u2 : upd2 g2 158 2 (nI 0) 158 2 = nI 0 := uS
        have z0 : (nI 0 = 0) = True := eq_true rfl
        rw [← e3]
        by_cases c33 : lxK t L (stE blB t L s.pos) = 33
        · have c33' : (lxK t L (stE blB t L s.pos) = 33) = True := eq_true c33
          have mz : (nI s.mode = 0) = False := by rw [nIk0 (by omega)]; exact eq_false (fun q => cd ⟨c33, q⟩)
          simp (disch := first | assumption | omega) only [RDB, kb_X5_reads_70, KL, KB, KC, KI, KJ, KZ, bI_0, bI_n, nI00, nI10, ne_eq, Classical.not_not, not_true_eq_false, not_false_eq_true, if_true, if_false, ite_not, ite_self, Bool.false_eq_true, nIne1, kMask, mask, mask_n, O_rd, hl1, nIlt, hin, e1, k12, nIeq, c33', q10, mz, e2, u2, z0, nI_add]
        · have c33' : (lxK t L (stE blB t L s.pos) = 33) = False := eq_false c33
          simp (disch := first | assumption | omega) only [RDB, kb_X5_reads_70, KL, KB, KC, KI, KJ, KZ, bI_0, bI_n, nI00, nI10, ne_eq, Classical.not_not, not_true_eq_false, not_false_eq_true, if_true, if_false, ite_not, ite_self, Bool.false_eq_true, nIne1, kMask, mask, mask_n, O_rd, hl1, nIlt, hin, e1, k12, nIeq, c33', e2, u2, z0, nI_add]
      · rw [if_neg r0] at he
        cases he
        have hr' : R.1 < 100 := hr
        have z0 : (nI R.1 = 0) = False := by rw [nIk0 (by omega)]; exact eq_false r0
        have u2 : upd2 g2 158 2 (nI R.1) 158 2 = nI R.1 := uS
        have u13 : upd2 g2 158 2 (nI R.1) 158 13 = nI (stE blB t L s.pos) := by rw [uO (by omega)]; exact t13
        have u2' : upd2 (upd2 (upd2 g2 158 2 (nI R.1)) 158 3 (nI (stE blB t L s.pos))) 158 1 (nI 0) 158 2 = nI R.1 := by rw [uO (by omega), uO (by omega)]; exact uS
        refine ⟨upd2 (upd2 (upd2 g2 158 2 (nI R.1)) 158 3 (nI (stE blB t L s.pos))) 158 1 (nI 0), ?_, ⟨uS, u2', fun q => absurd q r0, fun _ => by rw [uO (by omega)]; exact uS, ⟨R.2.cp, by rw [uO (by omega), uO (by omega), uO (by omega)]; exact w2.2.1⟩, ⟨R.2.lw, by rw [uO (by omega), uO (by omega), uO (by omega)]; exact w2.2.2.1⟩⟩, fun a ha => by rw [uN (by omega), uN (by omega), uN (by omega)]; exact hf a ha⟩
        rw [if_neg r0]
        by_cases c33 : lxK t L (stE blB t L s.pos) = 33
        · have c33' : (lxK t L (stE blB t L s.pos) = 33) = True := eq_true c33
          have mz : (nI s.mode = 0) = False := by rw [nIk0 (by omega)]; exact eq_false (fun q => cd ⟨c33, q⟩)
          simp (disch := first | assumption | omega) only [RDB, kb_X5_reads_70, kb_X5_reads_102, kb_X5_reads_119, KL, KB, KC, KI, KJ, KZ, bI_0, bI_n, nI00, nI10, ne_eq, Classical.not_not, not_true_eq_false, not_false_eq_true, if_true, if_false, ite_not, ite_self, Bool.false_eq_true, nIne1, kMask, mask, mask_n, O_rd, hl1, nIlt, hin, e1, k12, nIeq, c33', q10, mz, e2, u2, u13, u2', z0]
        · have c33' : (lxK t L (stE blB t L s.pos) = 33) = False := eq_false c33
          simp (disch := first | assumption | omega) only [RDB, kb_X5_reads_70, kb_X5_reads_102, kb_X5_reads_119, KL, KB, KC, KI, KJ, KZ, bI_0, bI_n, nI00, nI10, ne_eq, Classical.not_not, not_true_eq_false, not_false_eq_true, if_true, if_false, ite_not, ite_self, Bool.false_eq_true, nIne1, kMask, mask, mask_n, O_rd, hl1, nIlt, hin, e1, k12, nIeq, c33', e2, u2, u13, u2', z0]
theorem c_empty {g : GG} {m o : Nat} : f_X7_empty [.ref 160] (hp g m o) = some (none, hp (upd2 (upd2 (upd2 (upd2 g 160 0 (nI 0)) 160 1 (nI 0)) 160 2 (nI 0)) 161 0 (nI 0)) m o) := by
  simp (disch := first | assumption | omega) only [f_X7_empty, kb_X7_empty_0, KL, KB, KC, KI, KJ, KZ, bI_0, bI_n, nI00, nI10, ne_eq, Classical.not_not, not_true_eq_false, not_false_eq_true, if_true, if_false, ite_not, ite_self, Bool.false_eq_true, nIne1, O_dr]
theorem nil_get {α : Type} {i : Nat} {x : α} (h : ([] : List α)[i]? = some x) : False := by simp at h
/-- the state to begin with -/
def cs0 (c w : Bool) : CS := (mkS 0 0 [] c w [] [])
theorem c_reads {t : Nat → Nat} {L : Nat} {g : GG} {m o : Nat} {c w : Bool} {r : Nat × Nat × ARule} (hT : TPC g t L) (h8 : g 158 8 = bW c) (h9 : g 158 9 = bW w) (he : cgo t L (L + 1) (cs0 c w) = some r) (hr : r.1 < 100) : ∃ g', f_X5_reads [.ref 158] (hp g m o) = some (some (.int (nI (if r.1 = 0 then 1 else 0))), hp g' m o) ∧ RDE g' r ∧ RDF g g' := by
  have hL := hT.1
  have ee := c_empty (g := g) (m := m) (o := o)
  generalize hg0 : upd2 (upd2 (upd2 (upd2 g 160 0 (nI 0)) 160 1 (nI 0)) 160 2 (nI 0)) 161 0 (nI 0) = g0 at ee
  have v166 : g0 158 = g 158 := by rw [← hg0, uN (by omega), uN (by omega), uN (by omega), uN (by omega)]
  have vo : ∀ a, a ≠ 160 → a ≠ 161 → g0 a = g a := fun a x y => by rw [← hg0, uN y, uN x, uN x, uN x]
  have v0 : g0 160 0 = nI 0 := by rw [← hg0, uN (by omega), uO (by omega), uO (by omega)]; exact uS
  have v1 : g0 160 1 = nI 0 := by rw [← hg0, uN (by omega), uO (by omega)]; exact uS
  have v2 : g0 160 2 = nI 0 := by rw [← hg0, uN (by omega)]; exact uS
  have v170 : g0 161 0 = nI 0 := by rw [← hg0]; exact uS
  generalize hg1 : upd2 (upd2 (upd2 (upd2 (upd2 (upd2 g0 158 6 (nI 0)) 158 7 (nI 0)) 158 10 (nI 0)) 158 11 (nI 0)) 158 2 (nI 0)) 158 3 (-1) = g1
  have o1 : ∀ a, a ≠ 158 → g1 a = g0 a := fun a ha => by rw [← hg1, uN ha, uN ha, uN ha, uN ha, uN ha, uN ha]
  have o2 : ∀ i, i ≠ 2 → i ≠ 3 → i ≠ 6 → i ≠ 7 → i ≠ 10 → i ≠ 11 → g1 158 i = g 158 i := fun i a b c d e f => by rw [← hg1, uO (by omega), uO (by omega), uO (by omega), uO (by omega), uO (by omega), uO (by omega), v166]
  have hT1 : TPC g1 t L := ⟨hL, by rw [o2 1 (by omega) (by omega) (by omega) (by omega) (by omega) (by omega)]; exact hT.2.1, fun i hi => by rw [o1 159 (by omega), vo 159 (by omega) (by omega)]; exact hT.2.2 i hi⟩
  have hC : CRB g1 (cs0 c w) := by
    refine ⟨by rw [← hg1, uO (by omega), uO (by omega), uO (by omega)]; exact uS, by rw [o2 8 (by omega) (by omega) (by omega) (by omega) (by omega) (by omega)]; exact h8, by rw [o2 9 (by omega) (by omega) (by omega) (by omega) (by omega) (by omega)]; exact h9, ⟨by rw [← hg1, uO (by omega), uO (by omega), uO (by omega), uO (by omega), uO (by omega)]; exact uS, fun i k hk => (nil_get hk).elim, by rw [← hg1, uO (by omega), uO (by omega), uO (by omega), uO (by omega)]; exact uS⟩, ⟨by rw [o1 160 (by omega)]; exact v0, by rw [o1 160 (by omega)]; exact v1, by rw [o1 160 (by omega)]; exact v2, fun i hi => ?_, fun i z hz => (nil_get hz).elim⟩⟩
    have : i = 0 := Nat.le_zero.mp hi
    rw [this, o1 161 (by omega)]; exact v170
  obtain ⟨g2, e2, w2, w3⟩ := c_readsGo (L + 1) 0 g1 m o (cs0 c w) r FU (by unfold FU; omega) hT1 hC ⟨⟨fun k hk => (List.not_mem_nil hk).elim, Nat.zero_le _, Nat.zero_le _⟩, fun q => absurd rfl q, Nat.zero_le _, Nat.zero_le _, fun q => absurd rfl q⟩ (by rw [← hg1, uO (by omega), uO (by omega)]; exact uS) (by rw [← hg1, uO (by omega)]; exact uS) (by rw [← hg1]; exact uS) (Nat.zero_le _) he hr
  rw [← reads_eq] at e2
  refine ⟨g2, ?_, w2, fun a ha => by rw [w3 a ha, o1 a (by omega), vo a (by omega) (by omega)]⟩
  simp (disch := first | assumption | omega) only [f_X5_reads, kb_X5_reads_0, KL, KB, KC, KI, KJ, KZ, bI_0, bI_n, nI00, nI10, ne_eq, Classical.not_not, not_true_eq_false, not_false_eq_true, if_true, if_false, ite_not, ite_self, Bool.false_eq_true, nIne1, O_rd, O_dr, ee, hg1]
  exact e2
