-- ===== rings: the class =====
def LKRc (g : GG) (l : Nat) : Option (Nat × Nat × Nat) → Prop
  | none => g (26 + 10 * (l / 6)) (l % 6) = -1
  | some z => z.1 < 6 ∧ z.2.1 < 6 ∧ z.2.2 ≤ 9 ∧ g (26 + 10 * (l / 6)) (l % 6) = nI z.1 ∧ g (26 + 10 * (l / 6)) (6 + l % 6) = nI z.2.1 ∧ g (26 + 10 * (l / 6)) (12 + l % 6) = nI z.2.2
def LKC (g : GG) (lk : LKS) : Prop := ∀ l, l < 36 → LKRc g l (lk l)
theorem LKRc.congr {g g' : GG} {l : Nat} {z : Option (Nat × Nat × Nat)} (h : LKRc g l z) (he : g' (26 + 10 * (l / 6)) = g (26 + 10 * (l / 6))) : LKRc g' l z := by
  unfold LKRc at *
  rw [he]
  exact h
theorem LKC.congr {g g' : GG} {lk : LKS} (h : LKC g lk) (he : ∀ a, a < 77 → g' a = g a) : LKC g' lk := fun l hl => (h l hl).congr (he _ (by omega))
theorem nd6 (l : Nat) (hl : l < 36) : nI l / nI 6 = nI (l / 6) := nI_div l 6 (by omega) (by omega)
theorem z60 : (nI 6 = 0) = False := eq_false (by decide)
theorem XX9 (c : Nat) : 17 + 10 * c + 9 = 26 + 10 * c := by omega
theorem c_leadsL {g : GG} {m o l : Nat} {lk : LKS} (h : LKC g lk) (hl : l < 36) : f_X6_leads [.ref 185, .int (nI l)] (hp g m o) = some (some (.int (bW (isL lk l))), hp g m o) := by
  have hc : l / 6 < 6 := by omega
  have hr : l % 6 < 6 := Nat.mod_lt _ (by decide)
  have hX := isX_live (l / 6) hc
  have ex := x_leads g m o (17 + 10 * (l / 6)) (l % 6) hX hr
  rw [XX9] at ex
  have hL := h l hl
  unfold isL
  cases e : lk l with
  | none =>
    rw [e] at hL
    have hL' : g (26 + 10 * (l / 6)) (l % 6) = -1 := hL
    rw [if_pos hL'] at ex
    simp (disch := first | assumption | omega) only [f_X6_leads, kb_X6_leads_0, KL, KB, KC, KI, KJ, KZ, bI_0, bI_n, nI00, nI10, ne_eq, Classical.not_not, not_true_eq_false, not_false_eq_true, if_true, if_false, ite_not, ite_self, Bool.false_eq_true, nIne1, O_rg, O_w, XO, aalX, nd6, nI_rem2, z60, ex]
    rfl
  | some z =>
    rw [e] at hL
    obtain ⟨z1, z2, z3, z4, z5, z6⟩ := hL
    rw [z4, if_neg (by rw [nIne1 (by omega)]; exact fun q => q)] at ex
    simp (disch := first | assumption | omega) only [f_X6_leads, kb_X6_leads_0, KL, KB, KC, KI, KJ, KZ, bI_0, bI_n, nI00, nI10, ne_eq, Classical.not_not, not_true_eq_false, not_false_eq_true, if_true, if_false, ite_not, ite_self, Bool.false_eq_true, nIne1, O_rg, O_w, XO, aalX, nd6, nI_rem2, z60, ex]
    rfl
theorem c_heldL {g : GG} {m o l t : Nat} (hl : l < 36) (ht : t < 3) : f_X6_held [.ref 185, .int (nI t), .int (nI l)] (hp g m o) = some (some (.int (g (26 + 10 * (l / 6)) (t * 6 + l % 6))), hp g m o) := by
  have hc : l / 6 < 6 := by omega
  have hr : l % 6 < 6 := Nat.mod_lt _ (by decide)
  have hX := isX_live (l / 6) hc
  have hm : nI t * nI 6 = nI (t * 6) := nI_mul t 6
  rw [← XX9]
  simp (disch := first | assumption | omega) only [f_X6_held, kb_X6_held_0, KL, KB, KC, KI, KJ, KZ, bI_0, bI_n, nI00, nI10, ne_eq, Classical.not_not, not_true_eq_false, not_false_eq_true, if_true, if_false, ite_not, ite_self, Bool.false_eq_true, nIne1, O_rg, O_w, XO, aalX, nd6, nI_rem2, z60, hm, nI_add]
theorem c_follows {g : GG} {m o l n : Nat} {lk : LKS} (h : LKC g lk) (hl : l < 36) (hn : n < 36) (hL : isL lk l = true) : f_X6_follows [.ref 185, .int (nI l), .int (nI n)] (hp g m o) = some (some (.int (bW (fol lk l n))), hp g m o) := by
  have e1 := c_leadsL (m := m) (o := o) h hn
  have h0 := c_heldL (g := g) (m := m) (o := o) (t := 0) hl (by omega)
  have h1 := c_heldL (g := g) (m := m) (o := o) (t := 1) hl (by omega)
  have hll := h l hl
  unfold isL at hL
  cases e : lk l with
  | none => rw [e] at hL; cases hL
  | some z =>
    have hfol : fol lk l n = (isL lk n && decide (n / 6 = z.1) && decide (n % 6 ≠ z.2.1)) := by unfold fol; rw [e]
    rw [hfol]
    rw [e] at hll
    obtain ⟨z1, z2, z3, z4, z5, z6⟩ := hll
    rw [show 0 * 6 + l % 6 = l % 6 by omega, z4] at h0
    rw [show 1 * 6 + l % 6 = 6 + l % 6 by omega, z5] at h1
    have m6 : n % 6 < 6 := Nat.mod_lt _ (by decide)
    cases eL : isL lk n with
    | false =>
      rw [eL] at e1
      have zf : (bW false = 0) = True := eq_true rfl
      simp (disch := first | assumption | omega) only [f_X6_follows, kb_X6_follows_0, kb_X6_follows_38, kb_X6_follows_39, KL, KB, KC, KI, KJ, KZ, bI_0, bI_n, nI00, nI10, ne_eq, Classical.not_not, not_true_eq_false, not_false_eq_true, if_true, if_false, ite_not, ite_self, Bool.false_eq_true, nIne1, O_rg, e1, zf]
      rfl
    | true =>
      rw [eL] at e1
      have zt : (bW true = 0) = False := eq_false (by decide)
      by_cases a : n / 6 = z.1
      · have a' : (n / 6 = z.1) = True := eq_true a
        by_cases b : n % 6 = z.2.1
        · have b' : (n % 6 = z.2.1) = True := eq_true b
          rw [decide_eq_false (p := n % 6 ≠ z.2.1) (fun q => q b), Bool.and_false]
          simp (disch := first | assumption | omega) only [f_X6_follows, kb_X6_follows_0, kb_X6_follows_38, kb_X6_follows_39, KL, KB, KC, KI, KJ, KZ, bI_0, bI_n, nI00, nI10, ne_eq, Classical.not_not, not_true_eq_false, not_false_eq_true, if_true, if_false, ite_not, ite_self, Bool.false_eq_true, nIne1, O_rg, e1, zt, nd6, nI_rem2, z60, h0, h1, nIeq, a', b']
          rfl
        · have b' : (n % 6 = z.2.1) = False := eq_false b
          rw [decide_eq_true (p := n % 6 ≠ z.2.1) b, decide_eq_true a]
          simp (disch := first | assumption | omega) only [f_X6_follows, kb_X6_follows_0, kb_X6_follows_38, kb_X6_follows_39, KL, KB, KC, KI, KJ, KZ, bI_0, bI_n, nI00, nI10, ne_eq, Classical.not_not, not_true_eq_false, not_false_eq_true, if_true, if_false, ite_not, ite_self, Bool.false_eq_true, nIne1, O_rg, e1, zt, nd6, nI_rem2, z60, h0, h1, nIeq, a', b']
          rfl
      · have a' : (n / 6 = z.1) = False := eq_false a
        rw [decide_eq_false a, Bool.and_false, Bool.false_and]
        simp (disch := first | assumption | omega) only [f_X6_follows, kb_X6_follows_0, kb_X6_follows_38, kb_X6_follows_39, KL, KB, KC, KI, KJ, KZ, bI_0, bI_n, nI00, nI10, ne_eq, Classical.not_not, not_true_eq_false, not_false_eq_true, if_true, if_false, ite_not, ite_self, Bool.false_eq_true, nIne1, O_rg, e1, zt, nd6, z60, h0, nIeq, a']
        rfl
def FIL (g : GG) (a : Nat) (F : Nat → Nat) : Prop := ∀ l, l < 36 → g a l = nI (F l)
theorem c_leastBehind {g : GG} {m o l goal : Nat} {lk : LKS} {F : Nat → Nat} (h : LKC g lk) (hl : l < 36) (hg : goal < 36) (hL : isL lk l = true) (hF : FIL g 186 F) (hb : ∀ l, l < 36 → F l ≤ 1000000) : ∃ v, f_X6_leastBehind [.ref 185, .int (nI l), .int (nI goal)] (hp g m o) = some (some (.int (nI v)), hp g m o) ∧ v ≤ 1000000 ∧ ((fol lk l goal = true ∧ v = 0) ∨ (fol lk l goal = false ∧ (∀ n, n < 36 → fol lk l n = true → v ≤ F n) ∧ (v = 1000000 ∨ ∃ n, n < 36 ∧ fol lk l n = true ∧ v = F n))) := by
  have e1 := c_follows (m := m) (o := o) h hl hg hL
  have zt : (bW true = 0) = False := eq_false (by decide)
  have zf : (bW false = 0) = True := eq_true rfl
  cases ef : fol lk l goal with
  | true =>
    rw [ef] at e1
    refine ⟨0, ?_, by omega, Or.inl ⟨rfl, rfl⟩⟩
    simp (disch := first | assumption | omega) only [f_X6_leastBehind, kb_X6_leastBehind_0, KL, KB, KC, KI, KJ, KZ, bI_0, bI_n, nI00, nI10, ne_eq, Classical.not_not, not_true_eq_false, not_false_eq_true, if_true, if_false, ite_not, ite_self, Bool.false_eq_true, nIne1, O_rg, e1, zt]
  | false =>
    rw [ef] at e1
    have h0 := c_heldL (g := g) (m := m) (o := o) (t := 0) hl (by omega)
    have hll := h l hl
    unfold isL at hL
    cases e : lk l with
    | none => rw [e] at hL; cases hL
    | some z =>
      have hL1 : isL lk l = true := by unfold isL; rw [e]; rfl
      rw [e] at hll
      obtain ⟨z1, z2, z3, z4, z5, z6⟩ := hll
      rw [show 0 * 6 + l % 6 = l % 6 by omega, z4] at h0
      have key : ∃ v, kl_X6_leastBehind_29 [.ref 185, .int (nI l), .int (nI goal), .int (nI 1000000), .int (nI (6 * z.1)), .int (nI (6 * z.1))] [] (hp g m o) = some (some (.int (nI v)), hp g m o) ∧ v ≤ 1000000 ∧ (∀ n, n < 36 → fol lk l n = true → v ≤ F n) ∧ (v = 1000000 ∨ ∃ n, n < 36 ∧ fol lk l n = true ∧ v = F n) := by
        unfold kl_X6_leastBehind_29
        refine kFor (6 * z.1 + 6) (by unfold FU; omega) (fun i ls h' => ∃ (v : Nat) (w : Value), ls = [.ref 185, .int (nI l), w, .int (nI v), .int (nI (6 * z.1)), .int (nI i)] ∧ h' = hp g m o ∧ v ≤ 1000000 ∧ 6 * z.1 ≤ i ∧ (∀ n, 6 * z.1 ≤ n → n < i → fol lk l n = true → v ≤ F n) ∧ (v = 1000000 ∨ ∃ n, n < 36 ∧ fol lk l n = true ∧ v = F n)) (fun r => ∃ v, r = some (some (.int (nI v)), hp g m o) ∧ v ≤ 1000000 ∧ (∀ n, n < 36 → fol lk l n = true → v ≤ F n) ∧ (v = 1000000 ∨ ∃ n, n < 36 ∧ fol lk l n = true ∧ v = F n)) ?_ ?_ (6 * z.1) _ _ (by omega) ⟨1000000, _, rfl, rfl, by omega, Nat.le_refl _, fun n a b => by omega, Or.inl rfl⟩
        · rintro s0 ls h' ⟨v, w, rfl, rfl, v1, v2, v3, v4⟩
          have hin : (6 * z.1 + 6 ≤ 6 * z.1 + 6) = True := eq_true (by omega)
          simp (disch := first | assumption | omega) only [KL, KB, KC, KI, KJ, KZ, bI_0, bI_n, nI00, nI10, ne_eq, Classical.not_not, not_true_eq_false, not_false_eq_true, if_true, if_false, ite_not, ite_self, Bool.false_eq_true, nIne1, kMask, mask, mask_n, nI_add, nIle, hin]
          refine ⟨v, rfl, v1, fun n hn hf => ?_, v4⟩
          have hf' := hf
          unfold fol at hf'
          rw [e] at hf'
          simp only [Bool.and_eq_true, decide_eq_true_eq] at hf'
          exact v3 n (by omega) (by omega) hf
        · rintro s0 i hi ih ls h' ⟨v, w, rfl, rfl, v1, v2, v3, v4⟩
          have hin : (6 * z.1 + 6 ≤ i) = False := eq_false (by omega)
          have i36 : i < 36 := by omega
          have ei := c_follows (m := m) (o := o) h hl i36 hL1
          have hFi := hF i i36
          have hbi := hb i i36
          cases efi : fol lk l i with
          | false =>
            rw [efi] at ei
            simp (disch := first | assumption | omega) only [kb_X6_leastBehind_61, KL, KB, KC, KI, KJ, KZ, bI_0, bI_n, nI00, nI10, ne_eq, Classical.not_not, not_true_eq_false, not_false_eq_true, if_true, if_false, ite_not, ite_self, Bool.false_eq_true, nIne1, kMask, mask, mask_n, O_rg, nI_add, nIle, hin, ei, zf]
            refine ih _ _ ⟨v, _, rfl, rfl, v1, by omega, fun n a b c => ?_, v4⟩
            by_cases q : n = i
            · rw [q, efi] at c; cases c
            · exact v3 n a (by omega) c
          | true =>
            rw [efi] at ei
            by_cases q : F i < v
            · have q' : (F i < v) = True := eq_true q
              simp (disch := first | assumption | omega) only [kb_X6_leastBehind_61, KL, KB, KC, KI, KJ, KZ, bI_0, bI_n, nI00, nI10, ne_eq, Classical.not_not, not_true_eq_false, not_false_eq_true, if_true, if_false, ite_not, ite_self, Bool.false_eq_true, nIne1, kMask, mask, mask_n, O_rg, AR, nI_add, nIle, hin, ei, zt, hFi, KM, nIlt, q']
              refine ih _ _ ⟨F i, _, rfl, rfl, hbi, by omega, fun n a b c => ?_, Or.inr ⟨i, i36, efi, rfl⟩⟩
              by_cases q2 : n = i
              · rw [q2]; exact Nat.le_refl _
              · have := v3 n a (by omega) c; omega
            · have q' : (F i < v) = False := eq_false q
              simp (disch := first | assumption | omega) only [kb_X6_leastBehind_61, KL, KB, KC, KI, KJ, KZ, bI_0, bI_n, nI00, nI10, ne_eq, Classical.not_not, not_true_eq_false, not_false_eq_true, if_true, if_false, ite_not, ite_self, Bool.false_eq_true, nIne1, kMask, mask, mask_n, O_rg, AR, nI_add, nIle, hin, ei, zt, hFi, KM, nIlt, q']
              refine ih _ _ ⟨v, _, rfl, rfl, v1, by omega, fun n a b c => ?_, v4⟩
              by_cases q2 : n = i
              · rw [q2]; omega
              · exact v3 n a (by omega) c
      obtain ⟨v, ev, v1, v2, v3⟩ := key
      refine ⟨v, ?_, v1, Or.inr ⟨rfl, v2, v3⟩⟩
      rw [← ev]
      simp (disch := first | assumption | omega) only [f_X6_leastBehind, kb_X6_leastBehind_0, KL, KB, KC, KI, KJ, KZ, bI_0, bI_n, nI00, nI10, ne_eq, Classical.not_not, not_true_eq_false, not_false_eq_true, if_true, if_false, ite_not, ite_self, Bool.false_eq_true, nIne1, O_rg, e1, zf, h0, nI_mul]
theorem c_comesNearer {g : GG} {m o goal : Nat} {lk : LKS} {D F0 : Nat → Nat} (h : LKC g lk) (hg : goal < 36) (hD : SOLC lk 1000000 goal D) (hF : FIL g 186 F0) (hb : ∀ l, l < 36 → D l ≤ F0 l ∧ F0 l ≤ 1000000) : ∃ (b : Bool) (g' : GG) (F : Nat → Nat), f_X6_comesNearer [.ref 185, .int (nI goal)] (hp g m o) = some (some (.int (bW b)), hp g' m o) ∧ (∀ a, a ≠ 186 → g' a = g a) ∧ FIL g' 186 F ∧ PSR (fol lk) (fun l => fol lk l goal) (lkW lk) D F0 36 F b := by
  have zt : (bW true = 0) = False := eq_false (by decide)
  have zf : (bW false = 0) = True := eq_true rfl
  have key : ∃ (b : Bool) (g' : GG) (F : Nat → Nat), kl_X6_comesNearer_4 [.ref 185, .int (nI goal), .int (bW false), .int (nI 0)] [] (hp g m o) = some (some (.int (bW b)), hp g' m o) ∧ (∀ a, a ≠ 186 → g' a = g a) ∧ FIL g' 186 F ∧ PSR (fol lk) (fun l => fol lk l goal) (lkW lk) D F0 36 F b := by
    unfold kl_X6_comesNearer_4
    refine kFor 36 (by unfold FU; omega) (fun i ls h' => ∃ (b : Bool) (g' : GG) (F : Nat → Nat) (u : List Value), ls = [.ref 185, .int (nI goal), .int (bW b), .int (nI i)] ++ u ∧ h' = hp g' m o ∧ (∀ a, a ≠ 186 → g' a = g a) ∧ FIL g' 186 F ∧ PSR (fol lk) (fun l => fol lk l goal) (lkW lk) D F0 i F b) (fun r => ∃ (b : Bool) (g' : GG) (F : Nat → Nat), r = some (some (.int (bW b)), hp g' m o) ∧ (∀ a, a ≠ 186 → g' a = g a) ∧ FIL g' 186 F ∧ PSR (fol lk) (fun l => fol lk l goal) (lkW lk) D F0 36 F b) ?_ ?_ 0 _ _ (by omega) ⟨false, g, F0, [], rfl, rfl, fun _ _ => rfl, hF, PSR.start (fun l hl => (hb l hl).1) (fun l hl => absurd hl (Nat.not_lt_zero _))⟩
    · rintro s0 ls h' ⟨b, g', F, u, rfl, rfl, h1, h2, h3⟩
      have hin : (36 ≤ 36) = True := eq_true (by omega)
      cases b with
      | true =>
        simp (disch := first | assumption | omega) only [KL, KB, KC, KI, KJ, KZ, bI_0, bI_n, nI00, nI10, ne_eq, Classical.not_not, not_true_eq_false, not_false_eq_true, if_true, if_false, ite_not, ite_self, Bool.false_eq_true, nIne1, List.cons_append, List.nil_append, kMask, mask, mask_n, nIle, hin, bW_t]
        exact ⟨true, g', F, rfl, h1, h2, h3⟩
      | false =>
        simp (disch := first | assumption | omega) only [KL, KB, KC, KI, KJ, KZ, bI_0, bI_n, nI00, nI10, ne_eq, Classical.not_not, not_true_eq_false, not_false_eq_true, if_true, if_false, ite_not, ite_self, Bool.false_eq_true, nIne1, List.cons_append, List.nil_append, kMask, mask, mask_n, nIle, hin, bW_f]
        exact ⟨false, g', F, rfl, h1, h2, h3⟩
    · rintro s0 i hi ih ls h' ⟨b, g', F, u, rfl, rfl, h1, h2, h3⟩
      have hin : (36 ≤ i) = False := eq_false (by omega)
      have hLK := h.congr (g' := g') (fun a ha => h1 a (by omega))
      have el := c_leadsL (m := m) (o := o) hLK hi
      have hFb : ∀ l, l < 36 → F l ≤ 1000000 := fun l hl => Nat.le_trans (h3.1 l hl).2 (hb l hl).2
      cases eL : isL lk i with
      | false =>
        rw [eL] at el
        simp (disch := first | assumption | omega) only [kb_X6_comesNearer_56, KL, KB, KC, KI, KJ, KZ, bI_0, bI_n, nI00, nI10, ne_eq, Classical.not_not, not_true_eq_false, not_false_eq_true, if_true, if_false, ite_not, ite_self, Bool.false_eq_true, nIne1, List.cons_append, List.nil_append, kMask, mask, mask_n, O_rg, nIle, hin, el, zf, nI_add]
        exact ih _ _ ⟨b, g', F, [], rfl, rfl, h1, h2, h3.skip hD hi (fol_non eL) (fun n => fol_non eL)⟩
      | true =>
        rw [eL] at el
        obtain ⟨v, ev, v1, v2⟩ := c_leastBehind (m := m) (o := o) (F := F) hLK hi hg eL h2 hFb
        have hh := c_heldL (g := g') (m := m) (o := o) (t := 2) hi (by omega)
        have hll := hLK i hi
        have hW : g' (26 + 10 * (i / 6)) (2 * 6 + i % 6) + nI 1 = nI (lkW lk i) ∧ lkW lk i ≤ 10 := by
          unfold isL at eL
          unfold lkW
          cases e : lk i with
          | none => rw [e] at eL; cases eL
          | some z =>
            rw [e] at hll
            obtain ⟨z1, z2, z3, z4, z5, z6⟩ := hll
            rw [show 2 * 6 + i % 6 = 12 + i % 6 by omega, z6, nI_add]
            exact ⟨rfl, by show z.2.2 + 1 ≤ 10; omega⟩
        obtain ⟨hW1, hW2⟩ := hW
        have hw1 := lkW_1 lk i
        have hFi := h2 i hi
        have hFbi := hFb i hi
        by_cases q : F i ≤ lkW lk i + v
        · have q' : (F i ≤ lkW lk i + v) = True := eq_true q
          have hr : RLX (fol lk) (fun l => fol lk l goal) (lkW lk) F i (F i) := ⟨Nat.le_refl _, fun ht => by
            rcases v2 with ⟨a, c⟩ | ⟨a, c, d⟩
            · omega
            · have ht' : fol lk i goal = true := ht
              rw [a] at ht'; exact (Bool.false_ne_true ht').elim, fun n hn he => by
            rcases v2 with ⟨a, c⟩ | ⟨a, c, d⟩
            · omega
            · have := c n hn he; omega, Or.inl rfl⟩
          have hs := h3.step hD hi hr
          rw [decide_eq_false (Nat.lt_irrefl _), Bool.or_false] at hs
          simp (disch := first | assumption | omega) only [kb_X6_comesNearer_56, KL, KB, KC, KI, KJ, KZ, bI_0, bI_n, nI00, nI10, ne_eq, Classical.not_not, not_true_eq_false, not_false_eq_true, if_true, if_false, ite_not, ite_self, Bool.false_eq_true, nIne1, List.cons_append, List.nil_append, kMask, mask, mask_n, O_rg, AR, nIle, hin, el, zt, hh, hW1, ev, nI_add, hFi, q']
          exact ih _ _ ⟨b, g', F, [_], rfl, rfl, h1, h2, hs.same (fun l _ => by
            unfold updF
            by_cases e : l = i
            · rw [if_pos e, e]
            · rw [if_neg e])⟩
        · have q' : (F i ≤ lkW lk i + v) = False := eq_false q
          have hr : RLX (fol lk) (fun l => fol lk l goal) (lkW lk) F i (lkW lk i + v) := ⟨by omega, fun ht => by
            rcases v2 with ⟨a, c⟩ | ⟨a, c, d⟩
            · omega
            · have ht' : fol lk i goal = true := ht
              rw [a] at ht'; exact (Bool.false_ne_true ht').elim, fun n hn he => by
            rcases v2 with ⟨a, c⟩ | ⟨a, c, d⟩
            · omega
            · have := c n hn he; omega, by
            rcases v2 with ⟨a, c⟩ | ⟨a, c, d | ⟨n, d1, d2, d3⟩⟩
            · exact Or.inr (Or.inl ⟨a, by omega⟩)
            · omega
            · exact Or.inr (Or.inr ⟨n, d1, d2, by omega⟩)⟩
          have hs := h3.step hD hi hr
          rw [decide_eq_true (by omega), Bool.or_true] at hs
          simp (disch := first | assumption | omega) only [kb_X6_comesNearer_56, KL, KB, KC, KI, KJ, KZ, bI_0, bI_n, nI00, nI10, ne_eq, Classical.not_not, not_true_eq_false, not_false_eq_true, if_true, if_false, ite_not, ite_self, Bool.false_eq_true, nIne1, List.cons_append, List.nil_append, kMask, mask, mask_n, O_rg, AR, nIle, hin, el, zt, hh, hW1, ev, nI_add, hFi, q']
          exact ih _ _ ⟨true, _, updF F i (lkW lk i + v), [_], rfl, rfl, fun a ha => by rw [uN ha]; exact h1 a ha, fun l hl => by
            unfold updF
            by_cases e : l = i
            · rw [if_pos e, e]; exact uS
            · rw [if_neg e, uO (Or.inr e)]; exact h2 l hl, hs⟩
  obtain ⟨b, g', F, e, w⟩ := key
  refine ⟨b, g', F, ?_, w⟩
  rw [← e]
  simp (disch := first | assumption | omega) only [f_X6_comesNearer, kb_X6_comesNearer_0, KL, KB, KC, KI, KJ, KZ, bI_0, bI_n, nI00, nI10, ne_eq, Classical.not_not, not_true_eq_false, not_false_eq_true, if_true, if_false, ite_not, ite_self, Bool.false_eq_true, nIne1]
  rfl
theorem c_measure {g : GG} {m o goal : Nat} {lk : LKS} {D : Nat → Nat} (h : LKC g lk) (hg : goal < 36) (hD : SOLC lk 1000000 goal D) : ∃ (g' : GG), f_X6_measure [.ref 185, .int (nI goal)] (hp g m o) = some (none, hp g' m o) ∧ (∀ a, a ≠ 186 → g' a = g a) ∧ FIL g' 186 D := by
  have zt : (bW true = 0) = False := eq_false (by decide)
  have zf : (bW false = 0) = True := eq_true rfl
  have ef := fill_at (a := 186) (n := 36) (g := g) (m := m) (o := o) (v := nI 1000000) rfl (by decide)
  have key : ∃ (g' : GG), kl_X6_measure_11 [.ref 185, .int (nI goal), .int (nI 0)] [] (hp (flA g 186 36 (nI 1000000)) m o) = some (none, hp g' m o) ∧ (∀ a, a ≠ 186 → g' a = g a) ∧ FIL g' 186 D := by
    unfold kl_X6_measure_11
    refine kFor 36 (by unfold FU; omega) (fun i ls h' => ∃ (g' : GG) (F : Nat → Nat), ls = [.ref 185, .int (nI goal), .int (nI i)] ∧ h' = hp g' m o ∧ (∀ a, a ≠ 186 → g' a = g a) ∧ FIL g' 186 F ∧ EXA D F 1000000 i) (fun r => ∃ (g' : GG), r = some (none, hp g' m o) ∧ (∀ a, a ≠ 186 → g' a = g a) ∧ FIL g' 186 D) ?_ ?_ 0 _ _ (by omega) ⟨_, fun _ => 1000000, rfl, rfl, fun a ha => flA_ne ha, fun l hl => flA_in hl, EXA.init hD⟩
    · rintro s0 ls h' ⟨g', F, rfl, rfl, h1, h2, h3⟩
      have hin : (36 ≤ 36) = True := eq_true (by omega)
      simp (disch := first | assumption | omega) only [kb_X6_measure_34, KL, KB, KC, KI, KJ, KZ, bI_0, bI_n, nI00, nI10, ne_eq, Classical.not_not, not_true_eq_false, not_false_eq_true, if_true, if_false, ite_not, ite_self, Bool.false_eq_true, nIne1, kMask, mask, mask_n, nIle, hin]
      exact ⟨g', rfl, h1, fun l hl => by rw [← h3.done (Nat.le_refl _) l hl]; exact h2 l hl⟩
    · rintro s0 i hi ih ls h' ⟨g', F, rfl, rfl, h1, h2, h3⟩
      have hin : (36 ≤ i) = False := eq_false (by omega)
      have hLK := h.congr (g' := g') (fun a ha => h1 a (by omega))
      obtain ⟨b, g2, F2, e2, p1, p2, p3⟩ := c_comesNearer (m := m) (o := o) hLK hg hD h2 h3.1
      have z2 : ∀ a, a ≠ 186 → g2 a = g a := fun a ha => by rw [p1 a ha]; exact h1 a ha
      cases b with
      | true =>
        simp (disch := first | assumption | omega) only [kb_X6_measure_34, KL, KB, KC, KI, KJ, KZ, bI_0, bI_n, nI00, nI10, ne_eq, Classical.not_not, not_true_eq_false, not_false_eq_true, if_true, if_false, ite_not, ite_self, Bool.false_eq_true, nIne1, kMask, mask, mask_n, O_rg, nIle, hin, e2, zt, nI_add]
        exact ih _ _ ⟨g2, F2, rfl, rfl, z2, p2, h3.next hD (fun l _ => lkW_1 lk l) p3⟩
      | false =>
        simp (disch := first | assumption | omega) only [kb_X6_measure_34, KL, KB, KC, KI, KJ, KZ, bI_0, bI_n, nI00, nI10, ne_eq, Classical.not_not, not_true_eq_false, not_false_eq_true, if_true, if_false, ite_not, ite_self, Bool.false_eq_true, nIne1, kMask, mask, mask_n, O_rg, nIle, hin, e2, zf]
        exact ⟨g2, rfl, z2, fun l hl => by rw [← p3.stop hD (fun l _ => lkW_1 lk l) (fun l hl => (h3.1 l hl).2) l hl]; exact p2 l hl⟩
  obtain ⟨g', e, w⟩ := key
  refine ⟨g', ?_, w⟩
  rw [← e]
  simp (disch := first | assumption | omega) only [f_X6_measure, kb_X6_measure_0, KL, KB, KC, KI, KJ, KZ, bI_0, bI_n, nI00, nI10, ne_eq, Classical.not_not, not_true_eq_false, not_false_eq_true, if_true, if_false, ite_not, ite_self, Bool.false_eq_true, nIne1, O_rg, ef]
