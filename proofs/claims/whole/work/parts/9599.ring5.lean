-- ===== rings: the model; the agreement =====
def LKRm (g : GG) (l : Nat) : Option (Nat × Nat × Nat) → Prop
  | none => g 189 (10 + 560 * (l / 6) + 92 * (l % 6) + 89) = -1
  | some z => z.1 < 6 ∧ z.2.1 < 6 ∧ z.2.2 ≤ 9 ∧ g 189 (10 + 560 * (l / 6) + 92 * (l % 6) + 89) = nI z.1 ∧ g 189 (10 + 560 * (l / 6) + 92 * (l % 6) + 90) = nI z.2.1 ∧ g 189 (10 + 560 * (l / 6) + 92 * (l % 6) + 91) = nI z.2.2
def LKM (g : GG) (lk : LKS) : Prop := ∀ l, l < 36 → LKRm g l (lk l)
theorem LKM.congr {g g' : GG} {lk : LKS} (h : LKM g lk) (he : g' 189 = g 189) : LKM g' lk := fun l hl => by
  have := h l hl
  unfold LKRm at *
  rw [he]
  exact this
theorem m_isLink {g : GG} {m o l : Nat} {lk : LKS} (h : LKM g lk) (hl : l < 36) : f_X11_isLink [.ref 188, .int (nI l)] (hp g m o) = some (some (.int (bW (isL lk l))), hp g m o) := by
  have hr : l % 6 < 6 := Nat.mod_lt _ (by decide)
  have e1 := m_get g m o (l / 6) (l % 6) 89 (by omega)
  have hL := h l hl
  unfold isL
  cases e : lk l with
  | none =>
    rw [e] at hL
    have hL' : g 189 (10 + 560 * (l / 6) + 92 * (l % 6) + 89) = -1 := hL
    rw [hL'] at e1
    simp (disch := first | assumption | omega) only [f_X11_isLink, kb_X11_isLink_23, kb_X11_isLink_0, KL, KB, KC, KI, KJ, KZ, bI_0, bI_n, nI00, nI10, ne_eq, Classical.not_not, not_true_eq_false, not_false_eq_true, if_true, if_false, ite_not, ite_self, Bool.false_eq_true, nIne1, O_mo, nd6, nI_rem2, z60, e1, eq_self]
    rfl
  | some z =>
    rw [e] at hL
    obtain ⟨z1, z2, z3, z4, z5, z6⟩ := hL
    rw [z4] at e1
    simp (disch := first | assumption | omega) only [f_X11_isLink, kb_X11_isLink_23, kb_X11_isLink_0, KL, KB, KC, KI, KJ, KZ, bI_0, bI_n, nI00, nI10, ne_eq, Classical.not_not, not_true_eq_false, not_false_eq_true, if_true, if_false, ite_not, ite_self, Bool.false_eq_true, nIne1, O_mo, nd6, nI_rem2, z60, e1]
    rfl
theorem m_fillsL {g : GG} {m o l : Nat} {lk : LKS} (h : LKM g lk) (hl : l < 36) (hL : isL lk l = true) : f_X11_fills [.ref 188, .int (nI l)] (hp g m o) = some (some (.int (nI (lkW lk l))), hp g m o) ∧ lkW lk l ≤ 10 := by
  have hr : l % 6 < 6 := Nat.mod_lt _ (by decide)
  have e1 := m_get g m o (l / 6) (l % 6) 91 (by omega)
  have hll := h l hl
  unfold isL at hL
  unfold lkW
  cases e : lk l with
  | none => rw [e] at hL; cases hL
  | some z =>
    rw [e] at hll
    obtain ⟨z1, z2, z3, z4, z5, z6⟩ := hll
    rw [z6] at e1
    refine ⟨?_, by show z.2.2 + 1 ≤ 10; omega⟩
    simp (disch := first | assumption | omega) only [f_X11_fills, kb_X11_fills_0, KL, KB, KC, KI, KJ, KZ, bI_0, bI_n, nI00, nI10, ne_eq, Classical.not_not, not_true_eq_false, not_false_eq_true, if_true, if_false, ite_not, ite_self, Bool.false_eq_true, nIne1, O_mo, nd6, nI_rem2, z60, e1, nI_add]
/-- the model's leads, which doesn't look whether n is a link -/
def ldB (lk : LKS) (l n : Nat) : Bool := match lk l with
  | some z => decide (n / 6 = z.1) && decide (n % 6 ≠ z.2.1)
  | none => false
theorem fol_ld (lk : LKS) (l n : Nat) : fol lk l n = (isL lk n && ldB lk l n) := by
  unfold fol ldB
  cases lk l with
  | none => rw [Bool.and_false]
  | some z => exact Bool.and_assoc _ _ _
theorem m_leadsB {g : GG} {m o l n : Nat} {lk : LKS} (h : LKM g lk) (hl : l < 36) (hn : n < 36) (hL : isL lk l = true) : f_X11_leads [.ref 188, .int (nI l), .int (nI n)] (hp g m o) = some (some (.int (bW (ldB lk l n))), hp g m o) := by
  have hr : l % 6 < 6 := Nat.mod_lt _ (by decide)
  have e1 := m_get g m o (l / 6) (l % 6) 89 (by omega)
  have e2 := m_get g m o (l / 6) (l % 6) 90 (by omega)
  have m6 : n % 6 < 6 := Nat.mod_lt _ (by decide)
  have hll := h l hl
  unfold isL at hL
  cases e : lk l with
  | none => rw [e] at hL; cases hL
  | some z =>
    have hld : ldB lk l n = (decide (n / 6 = z.1) && decide (n % 6 ≠ z.2.1)) := by unfold ldB; rw [e]
    rw [hld]
    rw [e] at hll
    obtain ⟨z1, z2, z3, z4, z5, z6⟩ := hll
    rw [z4] at e1
    rw [z5] at e2
    by_cases a : z.1 = n / 6
    · have a' : (z.1 = n / 6) = True := eq_true a
      by_cases b : z.2.1 = n % 6
      · have b' : (z.2.1 = n % 6) = True := eq_true b
        rw [decide_eq_false (p := n % 6 ≠ z.2.1) (fun q => q b.symm), Bool.and_false]
        simp (disch := first | assumption | omega) only [f_X11_leads, kb_X11_leads_47, kb_X11_leads_46, kb_X11_leads_0, KL, KB, KC, KI, KJ, KZ, bI_0, bI_n, nI00, nI10, ne_eq, Classical.not_not, not_true_eq_false, not_false_eq_true, if_true, if_false, ite_not, ite_self, Bool.false_eq_true, nIne1, O_mo, nd6, nI_rem2, z60, e1, e2, nIeq, a', b']
        rfl
      · have b' : (z.2.1 = n % 6) = False := eq_false b
        rw [decide_eq_true (p := n % 6 ≠ z.2.1) (fun q => b q.symm), decide_eq_true a.symm]
        simp (disch := first | assumption | omega) only [f_X11_leads, kb_X11_leads_47, kb_X11_leads_46, kb_X11_leads_0, KL, KB, KC, KI, KJ, KZ, bI_0, bI_n, nI00, nI10, ne_eq, Classical.not_not, not_true_eq_false, not_false_eq_true, if_true, if_false, ite_not, ite_self, Bool.false_eq_true, nIne1, O_mo, nd6, nI_rem2, z60, e1, e2, nIeq, a', b']
        rfl
    · have a' : (z.1 = n / 6) = False := eq_false a
      rw [decide_eq_false (fun q => a q.symm), Bool.false_and]
      simp (disch := first | assumption | omega) only [f_X11_leads, kb_X11_leads_47, kb_X11_leads_46, kb_X11_leads_0, KL, KB, KC, KI, KJ, KZ, bI_0, bI_n, nI00, nI10, ne_eq, Classical.not_not, not_true_eq_false, not_false_eq_true, if_true, if_false, ite_not, ite_self, Bool.false_eq_true, nIne1, O_mo, nd6, nI_rem2, z60, e1, nIeq, a']
      rfl
theorem m_ls77 {g : GG} {m o f l v0 : Nat} {b : Bool} {lk : LKS} {F : Nat → Nat} (h : LKM g lk) (hf : f < 36) (hfl : f ≤ l) (hl : l < 36) (hL : isL lk l = true) (hF : FIL g 209 F) (hb : ∀ l, l < 36 → F l ≤ 9999) (hv0 : (endM lk f l = true ∧ v0 = lkW lk l) ∨ (endM lk f l = false ∧ v0 = 9999)) (s25 s33 : KK) (Q : RS → Prop) (fin : ∀ v, RLX (folM lk f) (endM lk f) (lkW lk) F l (if v < F l then v else F l) → Q (s33 [.ref 188, .int (nI f), .int (bW (b || decide (v < F l))), .int (nI (l + 1)), .int (nI v), .int (nI 36)] [] (hp (upd2 g 209 l (nI (if v < F l then v else F l))) m o))) : Q (kl_X11_leastSums_77 s25 s33 [.ref 188, .int (nI f), .int (bW b), .int (nI l), .int (nI v0), .int (nI (f + 1))] [] (hp g m o)) := by
  have zt : (bW true = 0) = False := eq_false (by decide)
  have zf : (bW false = 0) = True := eq_true rfl
  obtain ⟨ew, hw10⟩ := m_fillsL (m := m) (o := o) h hl hL
  have hw1 := lkW_1 lk l
  have hFl := hF l hl
  have hbl := hb l hl
  unfold kl_X11_leastSums_77
  refine kFor 36 (by unfold FU; omega) (fun i ls h' => ∃ v, ls = [.ref 188, .int (nI f), .int (bW b), .int (nI l), .int (nI v), .int (nI i)] ∧ h' = hp g m o ∧ v ≤ 10009 ∧ f + 1 ≤ i ∧ (endM lk f l = true → v ≤ lkW lk l) ∧ (∀ n, n < i → folM lk f l n = true → v ≤ lkW lk l + F n) ∧ (v = 9999 ∨ (endM lk f l = true ∧ v = lkW lk l) ∨ ∃ n, n < 36 ∧ folM lk f l n = true ∧ v = lkW lk l + F n)) Q ?_ ?_ (f + 1) _ _ (by omega) ⟨v0, rfl, rfl, by rcases hv0 with ⟨-, h⟩ | ⟨-, h⟩ <;> omega, Nat.le_refl _, ?_, ?_, ?_⟩
  · rintro s0 ls h' ⟨v, rfl, rfl, v1, v2, v3, v4, v5⟩
    have hin : (36 ≤ 36) = True := eq_true (by omega)
    by_cases q : F l ≤ v
    · have q' : (F l ≤ v) = True := eq_true q
      have := fin v (by
        rw [if_neg (by omega)]
        exact ⟨Nat.le_refl _, fun ht => Nat.le_trans q (v3 ht), fun n hn he => Nat.le_trans q (v4 n hn he), Or.inl rfl⟩)
      rw [if_neg (by omega), decide_eq_false (by omega), Bool.or_false] at this
      cases b with
      | true =>
        simp (disch := first | assumption | omega) only [kb_X11_leastSums_157, kb_X11_leastSums_162, kb_X11_leastSums_190, kb_X11_leastSums_191, KL, KB, KC, KI, KJ, KZ, bI_0, bI_n, nI00, nI10, ne_eq, Classical.not_not, not_true_eq_false, not_false_eq_true, if_true, if_false, ite_not, ite_self, Bool.false_eq_true, nIne1, kMask, mask, mask_n, O_mo, AR, nIle, hin, zt, hFl, q', nI_add]
        exact this
      | false =>
        simp (disch := first | assumption | omega) only [kb_X11_leastSums_157, kb_X11_leastSums_162, kb_X11_leastSums_190, kb_X11_leastSums_191, KL, KB, KC, KI, KJ, KZ, bI_0, bI_n, nI00, nI10, ne_eq, Classical.not_not, not_true_eq_false, not_false_eq_true, if_true, if_false, ite_not, ite_self, Bool.false_eq_true, nIne1, kMask, mask, mask_n, O_mo, AR, nIle, hin, zf, hFl, q', nI_add]
        exact this
    · have q' : (F l ≤ v) = False := eq_false q
      have := fin v (by
        rw [if_pos (by omega)]
        refine ⟨by omega, v3, v4, ?_⟩
        rcases v5 with a | a | a
        · omega
        · exact Or.inr (Or.inl a)
        · exact Or.inr (Or.inr a))
      rw [if_pos (by omega), decide_eq_true (by omega), Bool.or_true] at this
      cases b with
      | true =>
        simp (disch := first | assumption | omega) only [kb_X11_leastSums_157, kb_X11_leastSums_162, kb_X11_leastSums_190, kb_X11_leastSums_191, KL, KB, KC, KI, KJ, KZ, bI_0, bI_n, nI00, nI10, ne_eq, Classical.not_not, not_true_eq_false, not_false_eq_true, if_true, if_false, ite_not, ite_self, Bool.false_eq_true, nIne1, kMask, mask, mask_n, O_mo, AR, nIle, hin, zt, hFl, q', nI_add]
        exact this
      | false =>
        simp (disch := first | assumption | omega) only [kb_X11_leastSums_157, kb_X11_leastSums_162, kb_X11_leastSums_190, kb_X11_leastSums_191, KL, KB, KC, KI, KJ, KZ, bI_0, bI_n, nI00, nI10, ne_eq, Classical.not_not, not_true_eq_false, not_false_eq_true, if_true, if_false, ite_not, ite_self, Bool.false_eq_true, nIne1, kMask, mask, mask_n, O_mo, AR, nIle, hin, zf, hFl, q', nI_add]
        exact this
  · rintro s0 i hi ih ls h' ⟨v, rfl, rfl, v1, v2, v3, v4, v5⟩
    have hin : (36 ≤ i) = False := eq_false (by omega)
    have el := m_isLink (m := m) (o := o) h hi
    have skip : folM lk f l i = false → Q (s0 [.ref 188, .int (nI f), .int (bW b), .int (nI l), .int (nI v), .int (nI (i + 1))] [] (hp g m o)) := fun hno => ih _ _ ⟨v, rfl, rfl, v1, by omega, v3, fun n hn he => by
      by_cases q : n = i
      · rw [q, hno] at he; cases he
      · exact v4 n (by omega) he, v5⟩
    have hfm : folM lk f l i = fol lk l i := by unfold folM; rw [decide_eq_true hfl, decide_eq_true (show f < i by omega), Bool.and_true, Bool.and_true]
    cases eL : isL lk i with
    | false =>
      rw [eL] at el
      have := skip (by rw [hfm, fol_ld, eL]; rfl)
      simp (disch := first | assumption | omega) only [kb_X11_leastSums_136, KL, KB, KC, KI, KJ, KZ, bI_0, bI_n, nI00, nI10, ne_eq, Classical.not_not, not_true_eq_false, not_false_eq_true, if_true, if_false, ite_not, ite_self, Bool.false_eq_true, nIne1, kMask, mask, mask_n, O_mo, nIle, hin, el, zf, nI_add]
      exact this
    | true =>
      rw [eL] at el
      have ed := m_leadsB (m := m) (o := o) h hl hi hL
      cases eD : ldB lk l i with
      | false =>
        rw [eD] at ed
        have := skip (by rw [hfm, fol_ld, eL, eD]; rfl)
        simp (disch := first | assumption | omega) only [kb_X11_leastSums_136, KL, KB, KC, KI, KJ, KZ, bI_0, bI_n, nI00, nI10, ne_eq, Classical.not_not, not_true_eq_false, not_false_eq_true, if_true, if_false, ite_not, ite_self, Bool.false_eq_true, nIne1, kMask, mask, mask_n, O_mo, nIle, hin, el, ed, zt, zf, nI_add]
        exact this
      | true =>
        rw [eD] at ed
        have hfi : folM lk f l i = true := by rw [hfm, fol_ld, eL, eD]; rfl
        have hFi := hF i hi
        have hbi := hb i hi
        by_cases q : v ≤ lkW lk l + F i
        · have q' : (v ≤ lkW lk l + F i) = True := eq_true q
          simp (disch := first | assumption | omega) only [kb_X11_leastSums_136, KL, KB, KC, KI, KJ, KZ, bI_0, bI_n, nI00, nI10, ne_eq, Classical.not_not, not_true_eq_false, not_false_eq_true, if_true, if_false, ite_not, ite_self, Bool.false_eq_true, nIne1, kMask, mask, mask_n, O_mo, AR, nIle, hin, el, ed, zt, ew, hFi, nI_add, q']
          exact ih _ _ ⟨v, rfl, rfl, v1, by omega, v3, fun n hn he => by
            by_cases e : n = i
            · rw [e]; exact q
            · exact v4 n (by omega) he, v5⟩
        · have q' : (v ≤ lkW lk l + F i) = False := eq_false q
          simp (disch := first | assumption | omega) only [kb_X11_leastSums_136, KL, KB, KC, KI, KJ, KZ, bI_0, bI_n, nI00, nI10, ne_eq, Classical.not_not, not_true_eq_false, not_false_eq_true, if_true, if_false, ite_not, ite_self, Bool.false_eq_true, nIne1, kMask, mask, mask_n, O_mo, AR, nIle, hin, el, ed, zt, ew, hFi, nI_add, q']
          exact ih _ _ ⟨lkW lk l + F i, rfl, rfl, by omega, by omega, fun ht => by have := v3 ht; omega, fun n hn he => by
            by_cases e : n = i
            · rw [e]; exact Nat.le_refl _
            · have := v4 n (by omega) he; omega, Or.inr (Or.inr ⟨i, hi, hfi, rfl⟩)⟩
  · intro ht
    rcases hv0 with ⟨-, h⟩ | ⟨h, -⟩
    · omega
    · rw [h] at ht; cases ht
  · intro n hn he
    unfold folM at he
    rw [Bool.and_eq_true, Bool.and_eq_true] at he
    have := of_decide_eq_true he.2
    omega
  · rcases hv0 with h | ⟨-, h⟩
    · exact Or.inr (Or.inl h)
    · exact Or.inl h
theorem m_ls33 {g : GG} {m o f : Nat} {lk : LKS} {D F0 : Nat → Nat} (h : LKM g lk) (hf : f < 36) (hfL : isL lk f = true) (hD : SOLM lk 9999 f D) (hF : FIL g 209 F0) (hb : ∀ l, l < 36 → D l ≤ F0 l ∧ F0 l ≤ 9999) (s25 : KK) (Q : RS → Prop) (fin : ∀ (b : Bool) (g' : GG) (F : Nat → Nat) (u : List Value), (∀ a, a ≠ 209 → g' a = g a) → FIL g' 209 F → PSR (folM lk f) (endM lk f) (lkW lk) D F0 36 F b → Q (s25 ([.ref 188, .int (nI f), .int (bW b), .int (nI 36)] ++ u) [] (hp g' m o))) : Q (kl_X11_leastSums_33 s25 [.ref 188, .int (nI f), .int (bW false), .int (nI f)] [] (hp g m o)) := by
  have zt : (bW true = 0) = False := eq_false (by decide)
  have zf : (bW false = 0) = True := eq_true rfl
  unfold kl_X11_leastSums_33
  refine kFor 36 (by unfold FU; omega) (fun i ls h' => ∃ (b : Bool) (g' : GG) (F : Nat → Nat) (u : List Value), ls = [.ref 188, .int (nI f), .int (bW b), .int (nI i)] ++ u ∧ h' = hp g' m o ∧ f ≤ i ∧ (∀ a, a ≠ 209 → g' a = g a) ∧ FIL g' 209 F ∧ PSR (folM lk f) (endM lk f) (lkW lk) D F0 i F b) Q ?_ ?_ f _ _ (by omega) ⟨false, g, F0, [], rfl, rfl, Nat.le_refl _, fun _ _ => rfl, hF, PSR.start (fun l hl => (hb l hl).1) (fun l hl => ⟨by unfold endM; rw [decide_eq_false (by omega), Bool.and_false], fun n => by unfold folM; rw [decide_eq_false (by omega), Bool.and_false, Bool.false_and]⟩)⟩
  · rintro s0 ls h' ⟨b, g', F, u, rfl, rfl, -, h1, h2, h3⟩
    have hin : (36 ≤ 36) = True := eq_true (by omega)
    simp (disch := first | assumption | omega) only [KL, KB, KC, KI, KJ, KZ, bI_0, bI_n, nI00, nI10, ne_eq, Classical.not_not, not_true_eq_false, not_false_eq_true, if_true, if_false, ite_not, ite_self, Bool.false_eq_true, nIne1, List.cons_append, List.nil_append, kMask, mask, mask_n, nIle, hin]
    exact fin b g' F [] h1 h2 h3
  · rintro s0 i hi ih ls h' ⟨b, g', F, u, rfl, rfl, hfi, h1, h2, h3⟩
    have hin : (36 ≤ i) = False := eq_false (by omega)
    have hLK := h.congr (h1 189 (by omega))
    have el := m_isLink (m := m) (o := o) hLK hi
    have hFb : ∀ l, l < 36 → F l ≤ 9999 := fun l hl => Nat.le_trans (h3.1 l hl).2 (hb l hl).2
    cases eL : isL lk i with
    | false =>
      rw [eL] at el
      simp (disch := first | assumption | omega) only [kb_X11_leastSums_191, KL, KB, KC, KI, KJ, KZ, bI_0, bI_n, nI00, nI10, ne_eq, Classical.not_not, not_true_eq_false, not_false_eq_true, if_true, if_false, ite_not, ite_self, Bool.false_eq_true, nIne1, List.cons_append, List.nil_append, kMask, mask, mask_n, O_mo, nIle, hin, el, zf, nI_add]
      exact ih _ _ ⟨b, g', F, [], rfl, rfl, by omega, h1, h2, h3.skip hD hi (by unfold endM; rw [fol_non eL]; rfl) (fun n => by unfold folM; rw [fol_non eL]; rfl)⟩
    | true =>
      rw [eL] at el
      have ed := m_leadsB (m := m) (o := o) hLK hi hf eL
      obtain ⟨ew, hw10⟩ := m_fillsL (m := m) (o := o) hLK hi eL
      have hem : endM lk f i = ldB lk i f := by unfold endM; rw [decide_eq_true hfi, Bool.and_true, fol_ld, hfL]; rfl
      have fin2 : ∀ v, RLX (folM lk f) (endM lk f) (lkW lk) F i (if v < F i then v else F i) → Q (s0 [.ref 188, .int (nI f), .int (bW (b || decide (v < F i))), .int (nI (i + 1)), .int (nI v), .int (nI 36)] [] (hp (upd2 g' 209 i (nI (if v < F i then v else F i))) m o)) := fun v hr => by
        have hs := h3.step hD hi hr
        refine ih _ _ ⟨_, _, updF F i (if v < F i then v else F i), [_, _], rfl, rfl, by omega, fun a ha => by rw [uN ha]; exact h1 a ha, fun l hl => ?_, ?_⟩
        · unfold updF
          by_cases e : l = i
          · rw [if_pos e, e]; exact uS
          · rw [if_neg e, uO (Or.inr e)]; exact h2 l hl
        · have e : decide ((if v < F i then v else F i) < F i) = decide (v < F i) := by
            by_cases q : v < F i
            · rw [if_pos q]
            · rw [if_neg q, decide_eq_false q, decide_eq_false (Nat.lt_irrefl _)]
          rw [e] at hs
          exact hs
      cases eD : ldB lk i f with
      | false =>
        rw [eD] at ed
        have := m_ls77 (b := b) (v0 := 9999) hLK hf hfi hi eL h2 hFb (Or.inr ⟨by rw [hem]; exact eD, rfl⟩) s25 s0 Q fin2
        simp (disch := first | assumption | omega) only [kb_X11_leastSums_70, KL, KB, KC, KI, KJ, KZ, bI_0, bI_n, nI00, nI10, ne_eq, Classical.not_not, not_true_eq_false, not_false_eq_true, if_true, if_false, ite_not, ite_self, Bool.false_eq_true, nIne1, List.cons_append, List.nil_append, kMask, mask, mask_n, O_mo, nIle, hin, el, ed, zt, zf, nI_add]
        exact this
      | true =>
        rw [eD] at ed
        have := m_ls77 (b := b) (v0 := lkW lk i) hLK hf hfi hi eL h2 hFb (Or.inl ⟨by rw [hem]; exact eD, rfl⟩) s25 s0 Q fin2
        simp (disch := first | assumption | omega) only [kb_X11_leastSums_70, KL, KB, KC, KI, KJ, KZ, bI_0, bI_n, nI00, nI10, ne_eq, Classical.not_not, not_true_eq_false, not_false_eq_true, if_true, if_false, ite_not, ite_self, Bool.false_eq_true, nIne1, List.cons_append, List.nil_append, kMask, mask, mask_n, O_mo, nIle, hin, el, ed, ew, zt, nI_add]
        exact this
theorem m_leastSums {g : GG} {m o f : Nat} {lk : LKS} {D : Nat → Nat} (h : LKM g lk) (hf : f < 36) (hfL : isL lk f = true) (hD : SOLM lk 9999 f D) : ∃ (g' : GG), f_X11_leastSums [.ref 188, .int (nI f)] (hp g m o) = some (none, hp g' m o) ∧ (∀ a, a ≠ 209 → g' a = g a) ∧ FIL g' 209 D := by
  have zt : (bW true = 0) = False := eq_false (by decide)
  have zf : (bW false = 0) = True := eq_true rfl
  have rounds : ∀ g1 : GG, (∀ a, a ≠ 209 → g1 a = g a) → FIL g1 209 (fun _ => 9999) → ∃ (g' : GG), kl_X11_leastSums_25 [.ref 188, .int (nI f), .int (bW true)] [] (hp g1 m o) = some (none, hp g' m o) ∧ (∀ a, a ≠ 209 → g' a = g a) ∧ FIL g' 209 D := by
    intro g1 z1 hF1
    unfold kl_X11_leastSums_25
    refine kFor 37 (by unfold FU; omega) (fun i ls h' => ∃ (b : Bool) (g' : GG) (F : Nat → Nat) (u : List Value), ls = [.ref 188, .int (nI f), .int (bW b)] ++ u ∧ h' = hp g' m o ∧ (∀ a, a ≠ 209 → g' a = g a) ∧ FIL g' 209 F ∧ (b = true → EXA D F 9999 i ∧ i ≤ 36) ∧ (b = false → ∀ l, l < 36 → F l = D l)) (fun r => ∃ (g' : GG), r = some (none, hp g' m o) ∧ (∀ a, a ≠ 209 → g' a = g a) ∧ FIL g' 209 D) ?_ ?_ 0 _ _ (by omega) ⟨true, g1, fun _ => 9999, [], rfl, rfl, z1, hF1, fun _ => ⟨EXA.init hD, by omega⟩, fun q => by cases q⟩
    · rintro s0 ls h' ⟨b, g', F, u, rfl, rfl, h1, h2, h3, h4⟩
      cases b with
      | true => have := (h3 rfl).2; omega
      | false =>
        simp (disch := first | assumption | omega) only [KL, KB, KC, KI, KJ, KZ, bI_0, bI_n, nI00, nI10, ne_eq, Classical.not_not, not_true_eq_false, not_false_eq_true, if_true, if_false, ite_not, ite_self, Bool.false_eq_true, nIne1, List.cons_append, List.nil_append, kMask, mask, mask_n, zf]
        exact ⟨g', rfl, h1, fun l hl => by rw [← h4 rfl l hl]; exact h2 l hl⟩
    · rintro s0 i hi ih ls h' ⟨b, g', F, u, rfl, rfl, h1, h2, h3, h4⟩
      cases b with
      | false =>
        simp (disch := first | assumption | omega) only [KL, KB, KC, KI, KJ, KZ, bI_0, bI_n, nI00, nI10, ne_eq, Classical.not_not, not_true_eq_false, not_false_eq_true, if_true, if_false, ite_not, ite_self, Bool.false_eq_true, nIne1, List.cons_append, List.nil_append, kMask, mask, mask_n, zf]
        exact ⟨g', rfl, h1, fun l hl => by rw [← h4 rfl l hl]; exact h2 l hl⟩
      | true =>
        obtain ⟨hE, hi36⟩ := h3 rfl
        have hLK := h.congr (h1 189 (by omega))
        have h33 := m_ls33 (m := m) (o := o) hLK hf hfL hD h2 hE.1 s0 (fun r => ∃ (g' : GG), r = some (none, hp g' m o) ∧ (∀ a, a ≠ 209 → g' a = g a) ∧ FIL g' 209 D) (fun b g2 F2 u p1 p2 p3 => ih _ _ ⟨b, g2, F2, [.int (nI 36)] ++ u, rfl, rfl, fun a ha => by rw [p1 a ha]; exact h1 a ha, p2, fun hb => ⟨hE.next hD (fun l _ => lkW_1 lk l) p3, by
          apply Nat.le_of_not_lt
          intro q
          have hd := hE.done (by omega)
          obtain ⟨l, hl, hlt⟩ := p3.2.2.2 hb
          have := (p3.1 l hl).1
          rw [hd l hl] at hlt
          omega⟩, fun hb => by
          rw [hb] at p3
          exact p3.stop hD (fun l _ => lkW_1 lk l) (fun l hl => (hE.1 l hl).2)⟩)
        simp (disch := first | assumption | omega) only [KL, KB, KC, KI, KJ, KZ, bI_0, bI_n, nI00, nI10, ne_eq, Classical.not_not, not_true_eq_false, not_false_eq_true, if_true, if_false, ite_not, ite_self, Bool.false_eq_true, nIne1, List.cons_append, List.nil_append, kMask, mask, mask_n, zt]
        exact h33
  have key : ∃ (g' : GG), kl_X11_leastSums_2 [.ref 188, .int (nI f), .int (nI 0)] [] (hp g m o) = some (none, hp g' m o) ∧ (∀ a, a ≠ 209 → g' a = g a) ∧ FIL g' 209 D := by
    unfold kl_X11_leastSums_2
    refine kFor 36 (by unfold FU; omega) (fun i ls h' => ∃ (g' : GG), ls = [.ref 188, .int (nI f), .int (nI i)] ∧ h' = hp g' m o ∧ (∀ a, a ≠ 209 → g' a = g a) ∧ ∀ l, l < i → g' 209 l = nI 9999) (fun r => ∃ (g' : GG), r = some (none, hp g' m o) ∧ (∀ a, a ≠ 209 → g' a = g a) ∧ FIL g' 209 D) ?_ ?_ 0 _ _ (by omega) ⟨g, rfl, rfl, fun _ _ => rfl, fun l hl => absurd hl (Nat.not_lt_zero _)⟩
    · rintro s0 ls h' ⟨g', rfl, rfl, h1, h2⟩
      have hin : (36 ≤ 36) = True := eq_true (by omega)
      have := rounds g' h1 h2
      simp (disch := first | assumption | omega) only [KL, KB, KC, KI, KJ, KZ, bI_0, bI_n, nI00, nI10, ne_eq, Classical.not_not, not_true_eq_false, not_false_eq_true, if_true, if_false, ite_not, ite_self, Bool.false_eq_true, nIne1, kMask, mask, mask_n, nIle, hin]
      exact this
    · rintro s0 i hi ih ls h' ⟨g', rfl, rfl, h1, h2⟩
      have hin : (36 ≤ i) = False := eq_false (by omega)
      simp (disch := first | assumption | omega) only [KL, KB, KC, KI, KJ, KZ, bI_0, bI_n, nI00, nI10, ne_eq, Classical.not_not, not_true_eq_false, not_false_eq_true, if_true, if_false, ite_not, ite_self, Bool.false_eq_true, nIne1, kMask, mask, mask_n, O_mo, AR, nIle, hin, nI_add]
      exact ih _ _ ⟨_, rfl, rfl, fun a ha => by rw [uN ha]; exact h1 a ha, fun l hl => by
        by_cases q : l = i
        · rw [q]; exact uS
        · rw [uO (Or.inr q)]; exact h2 l (by omega)⟩
  obtain ⟨g', e, w⟩ := key
  refine ⟨g', ?_, w⟩
  rw [← e]
  simp (disch := first | assumption | omega) only [f_X11_leastSums, kb_X11_leastSums_0, KL, KB, KC, KI, KJ, KZ, bI_0, bI_n, nI00, nI10, ne_eq, Classical.not_not, not_true_eq_false, not_false_eq_true, if_true, if_false, ite_not, ite_self, Bool.false_eq_true, nIne1]
