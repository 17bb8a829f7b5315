-- ===== rings: the agreement =====
/-- what ring() answers: none found, or what it fills with, how many links, the row -/
def rgV (k : Nat) (z : Option (Nat × Nat × (Nat → Nat))) : Int32 := match z with
  | none => -1
  | some z => if k = 0 then nI z.1 else if k = 1 then nI (z.2.1 + 1) else if 10 ≤ k ∧ k ≤ 10 + z.2.1 then nI (z.2.2 (k - 10)) else -1
def rgR (g : GG) (bf bl : Int32) : Option (Nat × Nat × (Nat → Nat)) → Prop
  | none => bf = nI 9999
  | some z => bf = nI z.1 ∧ z.1 < 9999 ∧ bl = nI (z.2.1 + 1) ∧ z.2.1 < 36 ∧ ∀ k, k ≤ z.2.1 → g 211 k = nI (z.2.2 k)
theorem neg_in {v : Int32} (h : ¬ (nI 0 ≤ v ∧ v ≤ nI 2147483647)) : ¬ nI 0 ≤ v := by
  intro h0
  apply h
  refine ⟨h0, ?_⟩
  have e1 : (nI 2147483647).toInt = 2147483647 := by decide
  have e2 : v.toInt < 2 ^ 31 := v.toInt_lt
  rw [Int32.le_iff_toInt_le, e1]
  omega
theorem m_ringX {g : GG} {m o : Nat} {lk : LKS} {M : Nat → Nat → Nat} (what : Int32) (h : LKM g lk) (hM : ∀ g, g < 36 → SOLM lk 9999 g (M g)) (z : Option (Nat × Nat × (Nat → Nat))) (hz : ∀ (g' : GG) (bf bl : Int32), MRS lk M 36 bf bl g' → rgR g' bf bl z) : ∃ g', f_X11_ring [.ref 188, .int what] (hp g m o) = some (some (.int (if nI 0 ≤ what then rgV what.toInt.toNat z else -1)), hp g' m o) ∧ ∀ a, a ≠ 209 → a ≠ 210 → a ≠ 211 → g' a = g a := by
  have key := m_ring9 (m := m) (o := o) (what := what) h hM (fun r => ∃ g', r = some (some (.int (if nI 0 ≤ what then rgV what.toInt.toNat z else -1)), hp g' m o) ∧ ∀ a, a ≠ 209 → a ≠ 210 → a ≠ 211 → g' a = g a) (fun g' bf bl u s9 h1 h2 => by
    have hR := hz g' bf bl h2
    refine ⟨g', ?_, h1⟩
    cases z with
    | none =>
      have hb : bf = nI 9999 := hR
      subst hb
      have e99 : (nI 9999 = nI 9999) = True := eq_true rfl
      have hv : (if nI 0 ≤ what then rgV what.toInt.toNat none else -1) = -1 := by split <;> rfl
      rw [hv]
      simp (disch := first | assumption | omega) only [KL, KB, KC, KI, KJ, KZ, bI_0, bI_n, nI00, nI10, ne_eq, Classical.not_not, not_true_eq_false, not_false_eq_true, if_true, if_false, ite_not, ite_self, Bool.false_eq_true, nIne1, e99]
    | some z =>
      obtain ⟨r1, r2, r3, r4, r5⟩ := hR
      subst r1
      subst r3
      have e99 : (nI z.1 = nI 9999) = False := by rw [nIeq (by omega) (by omega)]; exact eq_false (by omega)
      rcases in_cases what 2147483647 (by decide) with ⟨k, hk, rfl⟩ | hneg
      · have h0 : nI 0 ≤ nI k := (in_yes hk (by decide)).1
        rw [if_pos h0]
        have ek : (nI k).toInt.toNat = k := by rw [nI_toInt (by omega)]; rfl
        rw [ek]
        by_cases k0 : k = 0
        · subst k0
          have z00 : (nI 0 = 0) = True := eq_true rfl
          simp (disch := first | assumption | omega) only [kb_X11_ring_150, KL, KB, KC, KI, KJ, KZ, bI_0, bI_n, nI00, nI10, ne_eq, Classical.not_not, not_true_eq_false, not_false_eq_true, if_true, if_false, ite_not, ite_self, Bool.false_eq_true, nIne1, e99, z00]
          rfl
        · have z0 : (nI k = 0) = False := by rw [nIk0 (by omega)]; exact eq_false k0
          by_cases k1 : k = 1
          · subst k1
            have z11 : (nI 1 = nI 1) = True := eq_true rfl
            simp (disch := first | assumption | omega) only [kb_X11_ring_150, KL, KB, KC, KI, KJ, KZ, bI_0, bI_n, nI00, nI10, ne_eq, Classical.not_not, not_true_eq_false, not_false_eq_true, if_true, if_false, ite_not, ite_self, Bool.false_eq_true, nIne1, e99, z0, z11]
            rfl
          · have z1 : (nI k = nI 1) = False := by rw [nIeq (by omega) (by omega)]; exact eq_false k1
            have hv : rgV k (some z) = if 10 ≤ k ∧ k ≤ 10 + z.2.1 then nI (z.2.2 (k - 10)) else -1 := by
              show (if k = 0 then _ else if k = 1 then _ else _) = _
              rw [if_neg k0, if_neg k1]
            rw [hv]
            by_cases kin : 10 ≤ k ∧ k ≤ 10 + z.2.1
            · rw [if_pos kin]
              have hin : (nI 10 ≤ nI k ∧ nI k ≤ nI (9 + (z.2.1 + 1))) = True := by rw [nIle (by omega) (by omega), nIle (by omega) (by omega)]; exact eq_true (by omega)
              have k36 : k - 10 < 36 := by omega
              have e5 := r5 (k - 10) (by omega)
              simp (disch := first | assumption | omega) only [kb_X11_ring_150, KL, KB, KC, KI, KJ, KZ, bI_0, bI_n, nI00, nI10, ne_eq, Classical.not_not, not_true_eq_false, not_false_eq_true, if_true, if_false, ite_not, ite_self, Bool.false_eq_true, nIne1, e99, z0, z1, nI_add, m_isIn, hin, O_mo, AR, nI_sub, e5]
            · rw [if_neg kin]
              have hin : (nI 10 ≤ nI k ∧ nI k ≤ nI (9 + (z.2.1 + 1))) = False := by rw [nIle (by omega) (by omega), nIle (by omega) (by omega)]; exact eq_false (by omega)
              simp (disch := first | assumption | omega) only [kb_X11_ring_150, KL, KB, KC, KI, KJ, KZ, bI_0, bI_n, nI00, nI10, ne_eq, Classical.not_not, not_true_eq_false, not_false_eq_true, if_true, if_false, ite_not, ite_self, Bool.false_eq_true, nIne1, e99, z0, z1, nI_add, m_isIn, hin]
      · have hn0 := neg_in hneg
        rw [if_neg hn0]
        have z0 : (what = 0) = False := eq_false (fun q => hn0 (by rw [q]; decide))
        have z1 : (what = nI 1) = False := eq_false (fun q => hn0 (by rw [q]; decide))
        have hin : (nI 10 ≤ what ∧ what ≤ nI (9 + (z.2.1 + 1))) = False := eq_false (fun q => hn0 (Int32.le_trans (by decide) q.1))
        simp (disch := first | assumption | omega) only [kb_X11_ring_150, KL, KB, KC, KI, KJ, KZ, bI_0, bI_n, nI00, nI10, ne_eq, Classical.not_not, not_true_eq_false, not_false_eq_true, if_true, if_false, ite_not, ite_self, Bool.false_eq_true, nIne1, e99, z0, z1, nI_add, m_isIn, hin])
  obtain ⟨g', e, w⟩ := key
  refine ⟨g', ?_, w⟩
  rw [← e]
  simp (disch := first | assumption | omega) only [f_X11_ring, kb_X11_ring_0, KL, KB, KC, KI, KJ, KZ, bI_0, bI_n, nI00, nI10, ne_eq, Classical.not_not, not_true_eq_false, not_false_eq_true, if_true, if_false, ite_not, ite_self, Bool.false_eq_true, nIne1]
theorem ag_ring (a0 : Int32) : Ag RT f_X10_ring f_X11_ring [.int a0] := by
  intro j g m o hj hR
  obtain ⟨lk, hlk⟩ := chs (α := Option (Nat × Nat × Nat)) (k := 36) (P := fun l z => LKRc g l z ∧ LKRm g l z) (fun l hl => by
    have hc : l / 6 < 6 := by omega
    have hr : l % 6 < 6 := Nat.mod_lt _ (by decide)
    obtain ⟨n, hx⟩ := hR.at hc
    have hli := hx.2.2.2.2.2.2.2.2.2.2 (l % 6) hr
    unfold linkR at hli
    rw [XX9] at hli
    rcases hli with ⟨a, b⟩ | ⟨to, ro, room, c1, c2, c3, c4, c5, c6, c7, c8, c9, c10⟩
    · exact ⟨none, a, b⟩
    · exact ⟨some (to, ro, room), ⟨c2, c3, c4, c5, c6, c7⟩, ⟨c2, c3, c4, c8, c9, c10⟩⟩)
  have hLC : LKC g lk := fun l hl => (hlk l hl).1
  have hLM : LKM g lk := fun l hl => (hlk l hl).2
  obtain ⟨C, hC⟩ := chs (α := Nat → Nat) (k := 36) (P := fun g D => SOLC lk 1000000 g D) (fun g _ => ex_sol _ _ _ _)
  obtain ⟨M, hM⟩ := chs (α := Nat → Nat) (k := 36) (P := fun g D => SOLM lk 9999 g D) (fun g _ => ex_sol _ _ _ _)
  have hw10 : ∀ l, l < 36 → 1 ≤ lkW lk l ∧ lkW lk l ≤ 10 := fun l hl => ⟨lkW_1 lk l, by
    have := hLC l hl
    unfold lkW
    cases e : lk l with
    | none => show 1 ≤ 10; omega
    | some z =>
      rw [e] at this
      have h3 := this.2.2.1
      show z.2.2 + 1 ≤ 10
      omega⟩
  obtain ⟨g1, e1, p1, p2⟩ := c_seek (m := m) (o := o) hLC hC
  -- what both find
  obtain ⟨z, hz1, hz2⟩ : ∃ z : Option (Nat × Nat × (Nat → Nat)), (∀ (g' : GG) (bf bl : Int32), MRS lk M 36 bf bl g' → rgR g' bf bl z) ∧ (match z with
      | none => g1 185 3 = nI 0
      | some z => g1 185 4 = nI z.1 ∧ g1 185 3 = nI (z.2.1 + 1) ∧ z.2.1 < 36 ∧ z.1 < 9999 ∧ ∀ k, k ≤ z.2.1 → g1 187 k = nI (z.2.2 k)) := by
    rcases p2 with ⟨a, b⟩ | ⟨s, mm, L, x, hB, hRw, hL, hx36, c3, c4, c5⟩
    · refine ⟨none, fun g' bf bl hm => ?_, a⟩
      have hn := none_same hC hM (fun _ _ q => by omega) b
      rcases hm with ⟨x, y, w⟩ | ⟨s, mm, L, x, a1, a2, a3, a4, a5, a6, -⟩
      · exact x
      · have := hn s a1 a4
        omega
    · have hmm : mm ≤ 360 := by
        rw [← hB.2.2.1]
        exact (hC s hB.1).b360 hw10 hB.1 (by have := hB.2.2.1; have := hB.2.2.2.1; omega)
      refine ⟨some (mm, L, x), fun g' bf bl hm => ?_, c4, c3, hL, by show mm < 9999; omega, c5⟩
      have hBM := best_same (by omega) hC hM (by omega) hB
      rcases hm with ⟨a, b, c⟩ | ⟨s', mm', L', x', a1, a2, a3, a4, a5, a6, a7, a8, a9, a10, a11⟩
      · have := c s hBM.1 hBM.2.1
        have h3 := hBM.2.2.1
        omega
      · obtain ⟨es, em⟩ := hBM.uniq (⟨a1, a4, a5, a6, a7, a8⟩ : BRG lk M 9999 s' mm')
        subst es
        subst em
        have hmin : ∀ f, f < 36 → C f f ≤ mm → s ≤ f := fun f hf hle => by
          apply Nat.le_of_not_lt
          intro q
          cases e : isL lk f with
          | true => have := hB.2.2.2.2.2 f q e; omega
          | false => exact nolink (hC f hf) hf e f hf (by omega)
        have hrs := row_same (I := 1000000) (J := 9999) (by omega) hC (hM s a1) hB.2.2.1 (by omega) hmin a1 hRw
        obtain ⟨eL, ex⟩ := hrs.uniq a9
        subst eL
        exact ⟨a2, by show mm < 9999; omega, a3, hL, fun k hk => by rw [a11 k hk]; show nI (x' k) = nI (x k); rw [ex k hk]⟩
  have hk1 : KEEP g g1 := KEEP.of (fun a x y z w => p1 a (by omega) (by omega) (by omega)) (fun i _ => by rw [p1 188 (by omega) (by omega) (by omega)])
  -- where nothing is sought
  have early : (a0 = 0) = False → (a0 = nI 1) = False → (nI 10 ≤ a0) = False → (if nI 0 ≤ a0 then rgV a0.toInt.toNat z else -1) = -1 → ∃ (r : Int32) (g1 : GG) (m1 o1 : Nat) (g2 : GG), f_X10_ring [.ref 0, .int a0] (hp g m o) = some (some (.int r), hp g1 m1 o1) ∧ f_X11_ring [.ref 188, .int a0] (hp g1 m1 o1) = some (some (.int r), hp g2 m1 o1) ∧ RT (j + 1) g2 m1 o1 := by
    intro q0 q1 q10 qv
    obtain ⟨g2, e2, w2⟩ := m_ringX (m := m) (o := o) a0 hLM hM z hz1
    rw [qv] at e2
    refine ⟨-1, g, m, o, g2, ?_, e2, hR.keep (KEEP.of (fun a x y z w => w2 a (by omega) (by omega) (by omega)) (fun i _ => by rw [w2 188 (by omega) (by omega) (by omega)]))⟩
    simp (disch := first | assumption | omega) only [f_X10_ring, kb_X10_ring_0, KL, KB, KC, KI, KJ, KZ, bI_0, bI_n, nI00, nI10, ne_eq, Classical.not_not, not_true_eq_false, not_false_eq_true, if_true, if_false, ite_not, ite_self, Bool.false_eq_true, nIne1, q0, q1, q10]
  rcases in_cases a0 2147483647 (by decide) with ⟨k, hk, rfl⟩ | hneg
  · have h0 : nI 0 ≤ nI k := (in_yes hk (by decide)).1
    have ek : (nI k).toInt.toNat = k := by rw [nI_toInt (by omega)]; rfl
    by_cases kmid : k ≠ 0 ∧ k ≠ 1 ∧ k < 10
    · refine early (by rw [nIk0 (by omega)]; exact eq_false kmid.1) (by rw [nIeq (by omega) (by omega)]; exact eq_false kmid.2.1) (by rw [nIle (by omega) (by omega)]; exact eq_false (by omega)) ?_
      rw [if_pos h0, ek]
      cases z with
      | none => rfl
      | some z =>
        show (if k = 0 then _ else if k = 1 then _ else _) = _
        rw [if_neg kmid.1, if_neg kmid.2.1, if_neg (by omega)]
    · obtain ⟨g2, e2, w2⟩ := m_ringX (m := m) (o := o) (nI k) (hLM.congr (g' := g1) (p1 189 (by omega) (by omega) (by omega))) hM z hz1
      rw [if_pos h0, ek] at e2
      refine ⟨rgV k z, g1, m, o, g2, ?_, e2, hR.keep (hk1.tr (KEEP.of (fun a x y z w => w2 a (by omega) (by omega) (by omega)) (fun i _ => by rw [w2 188 (by omega) (by omega) (by omega)])))⟩
      have b17 : kb_X10_ring_17 [.ref 0, .int (nI k)] [] (hp g m o) = some (some (.int (rgV k z)), hp g1 m o) := by
        cases z with
        | none =>
          have h3 : g1 185 3 = nI 0 := hz2
          have z00 : (nI 0 = 0) = True := eq_true rfl
          simp (disch := first | assumption | omega) only [kb_X10_ring_17, KL, KB, KC, KI, KJ, KZ, bI_0, bI_n, nI00, nI10, ne_eq, Classical.not_not, not_true_eq_false, not_false_eq_true, if_true, if_false, ite_not, ite_self, Bool.false_eq_true, nIne1, O_fp, O_rg, e1, h3, z00]
          rfl
        | some z =>
          obtain ⟨c4, c3, cL, cm, c5⟩ := hz2
          have zl : (nI (z.2.1 + 1) = 0) = False := by rw [nIk0 (by omega)]; exact eq_false (by omega)
          by_cases k0 : k = 0
          · subst k0
            have z00 : (nI 0 = 0) = True := eq_true rfl
            simp (disch := first | assumption | omega) only [kb_X10_ring_17, KL, KB, KC, KI, KJ, KZ, bI_0, bI_n, nI00, nI10, ne_eq, Classical.not_not, not_true_eq_false, not_false_eq_true, if_true, if_false, ite_not, ite_self, Bool.false_eq_true, nIne1, O_fp, O_rg, e1, c3, zl, z00, c4]
            rfl
          · have z0 : (nI k = 0) = False := by rw [nIk0 (by omega)]; exact eq_false k0
            by_cases k1 : k = 1
            · subst k1
              have z11 : (nI 1 = nI 1) = True := eq_true rfl
              simp (disch := first | assumption | omega) only [kb_X10_ring_17, KL, KB, KC, KI, KJ, KZ, bI_0, bI_n, nI00, nI10, ne_eq, Classical.not_not, not_true_eq_false, not_false_eq_true, if_true, if_false, ite_not, ite_self, Bool.false_eq_true, nIne1, O_fp, O_rg, e1, c3, zl, z0, z11]
              rfl
            · have z1 : (nI k = nI 1) = False := by rw [nIeq (by omega) (by omega)]; exact eq_false k1
              have k10 : 10 ≤ k := by omega
              have hv : rgV k (some z) = if 10 ≤ k ∧ k ≤ 10 + z.2.1 then nI (z.2.2 (k - 10)) else -1 := by
                show (if k = 0 then _ else if k = 1 then _ else _) = _
                rw [if_neg k0, if_neg k1]
              rw [hv]
              by_cases kin : k ≤ 10 + z.2.1
              · rw [if_pos ⟨k10, kin⟩]
                have hin : (z.2.1 + 1 ≤ k - 10) = False := eq_false (by omega)
                have k36 : k - 10 < 36 := by omega
                have e5 := c5 (k - 10) (by omega)
                simp (disch := first | assumption | omega) only [kb_X10_ring_17, kb_X10_ring_90, KL, KB, KC, KI, KJ, KZ, bI_0, bI_n, nI00, nI10, ne_eq, Classical.not_not, not_true_eq_false, not_false_eq_true, if_true, if_false, ite_not, ite_self, Bool.false_eq_true, nIne1, O_fp, O_rg, AR, e1, c3, zl, z0, z1, nI_sub, nIle, hin, e5]
              · rw [if_neg (by omega)]
                have hin : (z.2.1 + 1 ≤ k - 10) = True := eq_true (by omega)
                simp (disch := first | assumption | omega) only [kb_X10_ring_17, kb_X10_ring_90, KL, KB, KC, KI, KJ, KZ, bI_0, bI_n, nI00, nI10, ne_eq, Classical.not_not, not_true_eq_false, not_false_eq_true, if_true, if_false, ite_not, ite_self, Bool.false_eq_true, nIne1, O_fp, O_rg, AR, e1, c3, zl, z0, z1, nI_sub, nIle, hin]
      rw [← b17]
      by_cases k0 : k = 0
      · subst k0
        have z00 : (nI 0 = 0) = True := eq_true rfl
        simp (disch := first | assumption | omega) only [f_X10_ring, kb_X10_ring_0, KL, KB, KC, KI, KJ, KZ, bI_0, bI_n, nI00, nI10, ne_eq, Classical.not_not, not_true_eq_false, not_false_eq_true, if_true, if_false, ite_not, ite_self, Bool.false_eq_true, nIne1, z00]
      · have z0 : (nI k = 0) = False := by rw [nIk0 (by omega)]; exact eq_false k0
        by_cases k1 : k = 1
        · subst k1
          have z11 : (nI 1 = nI 1) = True := eq_true rfl
          simp (disch := first | assumption | omega) only [f_X10_ring, kb_X10_ring_0, KL, KB, KC, KI, KJ, KZ, bI_0, bI_n, nI00, nI10, ne_eq, Classical.not_not, not_true_eq_false, not_false_eq_true, if_true, if_false, ite_not, ite_self, Bool.false_eq_true, nIne1, z0, z11]
        · have z1 : (nI k = nI 1) = False := by rw [nIeq (by omega) (by omega)]; exact eq_false k1
          have z10 : (nI 10 ≤ nI k) = True := by rw [nIle (by omega) (by omega)]; exact eq_true (by omega)
          simp (disch := first | assumption | omega) only [f_X10_ring, kb_X10_ring_0, KL, KB, KC, KI, KJ, KZ, bI_0, bI_n, nI00, nI10, ne_eq, Classical.not_not, not_true_eq_false, not_false_eq_true, if_true, if_false, ite_not, ite_self, Bool.false_eq_true, nIne1, z0, z1, z10]
  · have hn0 := neg_in hneg
    exact early (eq_false (fun q => hn0 (by rw [q]; decide))) (eq_false (fun q => hn0 (by rw [q]; decide))) (eq_false (fun q => hn0 (Int32.le_trans (by decide) q))) (if_neg hn0)
