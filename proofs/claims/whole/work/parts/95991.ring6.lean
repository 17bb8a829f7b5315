-- ===== rings: the model's row, and its search; the agreement =====
theorem m_laysRow {g : GG} {m o f L : Nat} {lk : LKS} {D x : Nat → Nat} (h : LKM g lk) (hf : f < 36) (hfL : isL lk f = true) (hD : SOLM lk 9999 f D) (hF : FIL g 209 D) (hR : ROWS (folM lk f) (endM lk f) (lkW lk) D f L x) (hL : L < 36) (hx : ∀ k, k ≤ L → x k < 36 ∧ D (x k) < 9999) : ∃ (g' : GG), f_X11_laysRow [.ref 188, .int (nI f)] (hp g m o) = some (some (.int (nI (L + 1))), hp g' m o) ∧ (∀ a, a ≠ 210 → g' a = g a) ∧ ∀ k, k ≤ L → g' 210 k = nI (x k) := by
  have zt : (bW true = 0) = False := eq_false (by decide)
  have zf : (bW false = 0) = True := eq_true rfl
  have hge : ∀ k, k ≤ L → f ≤ x k ∧ isL lk (x k) = true := by
    intro k
    cases k with
    | zero => intro _; rw [hR.1]; exact ⟨Nat.le_refl _, hfL⟩
    | succ k =>
      intro hk
      obtain ⟨q1, q2⟩ := nx_lt (hR.2.1 k (by omega)).2.2.1
      unfold folM at q1
      rw [Bool.and_eq_true, Bool.and_eq_true] at q1
      have := of_decide_eq_true q1.2
      exact ⟨by omega, (fol_l q1.1.1).2⟩
  have hem : ∀ k, k ≤ L → ldB lk (x k) f = endM lk f (x k) := fun k hk => by unfold endM; rw [decide_eq_true (hge k hk).1, Bool.and_true, fol_ld, hfL]; rfl
  have key : ∃ (g' : GG), kl_X11_laysRow_9 [.ref 188, .int (nI f), .int (nI 1)] [] (hp (upd2 g 210 0 (nI f)) m o) = some (some (.int (nI (L + 1))), hp g' m o) ∧ (∀ a, a ≠ 210 → g' a = g a) ∧ ∀ k, k ≤ L → g' 210 k = nI (x k) := by
    unfold kl_X11_laysRow_9
    refine kFor L (by unfold FU; omega) (fun k ls h' => ∃ (g' : GG) (u : List Value), ls = [.ref 188, .int (nI f), .int (nI (k + 1))] ++ u ∧ h' = hp g' m o ∧ (∀ a, a ≠ 210 → g' a = g a) ∧ ∀ j, j ≤ k → g' 210 j = nI (x j)) (fun r => ∃ (g' : GG), r = some (some (.int (nI (L + 1))), hp g' m o) ∧ (∀ a, a ≠ 210 → g' a = g a) ∧ ∀ k, k ≤ L → g' 210 k = nI (x k)) ?_ ?_ 0 _ _ (by omega) ⟨_, [], rfl, rfl, fun a ha => uN ha, fun j hj => by rw [show j = 0 by omega, hR.1]; exact uS⟩
    · rintro s0 ls h' ⟨g', u, rfl, rfl, h1, h2⟩
      have hLK := h.congr (h1 189 (by omega))
      have er := h2 L (Nat.le_refl _)
      have ed := m_leadsB (m := m) (o := o) hLK (hx L (Nat.le_refl _)).1 hf (hge L (Nat.le_refl _)).2
      rw [hem L (Nat.le_refl _), hR.2.2] at ed
      simp (disch := first | assumption | omega) only [KL, KB, KC, KI, KJ, KZ, bI_0, bI_n, nI00, nI10, ne_eq, Classical.not_not, not_true_eq_false, not_false_eq_true, if_true, if_false, ite_not, ite_self, Bool.false_eq_true, nIne1, List.cons_append, List.nil_append, kMask, mask, mask_n, O_mo, AR, nI_sub, Nat.add_sub_cancel, er, ed, zt]
      exact ⟨g', rfl, h1, h2⟩
    · rintro s0 k hk ih ls h' ⟨g', u, rfl, rfl, h1, h2⟩
      have hLK := h.congr (h1 189 (by omega))
      have k36 : k < 36 := by omega
      have k361 : k + 1 < 36 := by omega
      have er := h2 k (Nat.le_refl _)
      obtain ⟨x1, x2⟩ := hx k (by omega)
      obtain ⟨y1, y2⟩ := hx (k + 1) (by omega)
      obtain ⟨v1, v2⟩ := hge k (by omega)
      have ed := m_leadsB (m := m) (o := o) hLK x1 hf v2
      obtain ⟨t0, f1, f2, f3⟩ := hR.2.1 k hk
      rw [hem k (by omega), t0] at ed
      obtain ⟨q1, q2⟩ := nx_lt f2
      have hfn : f < x (k + 1) := by
        unfold folM at q1
        rw [Bool.and_eq_true, Bool.and_eq_true] at q1
        exact of_decide_eq_true q1.2
      obtain ⟨ew, hw10⟩ := m_fillsL (m := m) (o := o) hLK x1 v2
      have hF2 : FIL g' 209 D := fun l hl => by rw [h1 209 (by omega)]; exact hF l hl
      have hFk := hF2 (x k) x1
      have hb := fun l hl => hD.1 l hl
      have inn : (fun r => ∃ (g' : GG), r = some (some (.int (nI (L + 1))), hp g' m o) ∧ (∀ a, a ≠ 210 → g' a = g a) ∧ ∀ k, k ≤ L → g' 210 k = nI (x k)) (kl_X11_laysRow_39 s0 [.ref 188, .int (nI f), .int (nI (k + 1)), .int (nI (x k)), .int (nI (f + 1))] [] (hp g' m o)) := by
        unfold kl_X11_laysRow_39
        refine kFor (x (k + 1)) (by unfold FU; omega) (fun i ls h' => ls = [.ref 188, .int (nI f), .int (nI (k + 1)), .int (nI (x k)), .int (nI i)] ∧ h' = hp g' m o ∧ f < i) (fun r => ∃ (g' : GG), r = some (some (.int (nI (L + 1))), hp g' m o) ∧ (∀ a, a ≠ 210 → g' a = g a) ∧ ∀ k, k ≤ L → g' 210 k = nI (x k)) ?_ ?_ (f + 1) _ _ (by omega) ⟨rfl, rfl, by omega⟩
        · rintro s1 ls h' ⟨rfl, rfl, -⟩
          have el := m_isLink (m := m) (o := o) hLK f1
          rw [(hge (k + 1) (by omega)).2] at el
          have ed2 := m_leadsB (m := m) (o := o) hLK x1 f1 v2
          have hld : ldB lk (x k) (x (k + 1)) = true := by
            unfold folM at q1
            rw [Bool.and_eq_true, Bool.and_eq_true, fol_ld, Bool.and_eq_true] at q1
            exact q1.1.1.2
          rw [hld] at ed2
          have hFn := hF2 _ f1
          have hbn := hb _ f1
          have hbk := hb _ x1
          have hq : (D (x k) = lkW lk (x k) + D (x (k + 1))) = True := eq_true q2
          simp (disch := first | assumption | omega) only [kb_X11_laysRow_80, KL, KB, KC, KI, KJ, KZ, bI_0, bI_n, nI00, nI10, ne_eq, Classical.not_not, not_true_eq_false, not_false_eq_true, if_true, if_false, ite_not, ite_self, Bool.false_eq_true, nIne1, kMask, mask, mask_n, O_mo, AR, el, ed2, zt, hFk, ew, hFn, nI_add, nIeq, hq]
          refine ih _ _ ⟨_, [_, _], rfl, rfl, fun a ha => by rw [uN ha]; exact h1 a ha, fun j hj => ?_⟩
          by_cases e : j = k + 1
          · rw [e]; exact uS
          · rw [uO (Or.inr e)]; exact h2 j (by omega)
        · rintro s1 i hi ih2 ls h' ⟨rfl, rfl, hfi⟩
          have i36 : i < 36 := by omega
          have el := m_isLink (m := m) (o := o) hLK i36
          have hp3 := f3 i hi
          have hfm : folM lk f (x k) i = fol lk (x k) i := by unfold folM; rw [decide_eq_true v1, decide_eq_true hfi, Bool.and_true, Bool.and_true]
          unfold nxP at hp3
          rw [hfm, fol_ld] at hp3
          cases eL : isL lk i with
          | false =>
            rw [eL] at el
            simp (disch := first | assumption | omega) only [kb_X11_laysRow_80, KL, KB, KC, KI, KJ, KZ, bI_0, bI_n, nI00, nI10, ne_eq, Classical.not_not, not_true_eq_false, not_false_eq_true, if_true, if_false, ite_not, ite_self, Bool.false_eq_true, nIne1, kMask, mask, mask_n, O_mo, AR, el, zf, nI_add]
            exact ih2 _ _ ⟨rfl, rfl, by omega⟩
          | true =>
            rw [eL] at el
            have ed2 := m_leadsB (m := m) (o := o) hLK x1 i36 v2
            cases eD : ldB lk (x k) i with
            | false =>
              rw [eD] at ed2
              simp (disch := first | assumption | omega) only [kb_X11_laysRow_80, KL, KB, KC, KI, KJ, KZ, bI_0, bI_n, nI00, nI10, ne_eq, Classical.not_not, not_true_eq_false, not_false_eq_true, if_true, if_false, ite_not, ite_self, Bool.false_eq_true, nIne1, kMask, mask, mask_n, O_mo, AR, el, ed2, zt, zf, nI_add]
              exact ih2 _ _ ⟨rfl, rfl, by omega⟩
            | true =>
              rw [eD] at ed2
              rw [eL, eD] at hp3
              have hq : (D (x k) = lkW lk (x k) + D i) = False := eq_false (of_decide_eq_false hp3)
              have hFi := hF2 i i36
              have hbi := hb i i36
              have hbk := hb _ x1
              simp (disch := first | assumption | omega) only [kb_X11_laysRow_80, KL, KB, KC, KI, KJ, KZ, bI_0, bI_n, nI00, nI10, ne_eq, Classical.not_not, not_true_eq_false, not_false_eq_true, if_true, if_false, ite_not, ite_self, Bool.false_eq_true, nIne1, kMask, mask, mask_n, O_mo, AR, el, ed2, zt, hFk, ew, hFi, nI_add, nIeq, hq]
              exact ih2 _ _ ⟨rfl, rfl, by omega⟩
      simp (disch := first | assumption | omega) only [KL, KB, KC, KI, KJ, KZ, bI_0, bI_n, nI00, nI10, ne_eq, Classical.not_not, not_true_eq_false, not_false_eq_true, if_true, if_false, ite_not, ite_self, Bool.false_eq_true, nIne1, List.cons_append, List.nil_append, kMask, mask, mask_n, O_mo, AR, nI_sub, Nat.add_sub_cancel, er, ed, zf, nI_add]
      exact inn
  obtain ⟨g', e, w⟩ := key
  refine ⟨g', ?_, w⟩
  rw [← e]
  simp (disch := first | assumption | omega) only [f_X11_laysRow, kb_X11_laysRow_0, KL, KB, KC, KI, KJ, KZ, bI_0, bI_n, nI00, nI10, ne_eq, Classical.not_not, not_true_eq_false, not_false_eq_true, if_true, if_false, ite_not, ite_self, Bool.false_eq_true, nIne1, O_mo, AR]
/-- what the model has found -/
def MRS (lk : LKS) (M : Nat → Nat → Nat) (i : Nat) (bf bl : Int32) (g : GG) : Prop := (bf = nI 9999 ∧ bl = nI 0 ∧ ∀ f, f < i → isL lk f = true → 9999 ≤ M f f) ∨ ∃ (s mm L : Nat) (x : Nat → Nat), s < i ∧ bf = nI mm ∧ bl = nI (L + 1) ∧ isL lk s = true ∧ M s s = mm ∧ mm < 9999 ∧ (∀ f, f < i → isL lk f = true → mm ≤ M f f) ∧ (∀ f, f < s → isL lk f = true → mm < M f f) ∧ ROWS (folM lk s) (endM lk s) (lkW lk) (M s) s L x ∧ L < 36 ∧ ∀ k, k ≤ L → g 211 k = nI (x k)
theorem m_ring9 {g : GG} {m o : Nat} {lk : LKS} {M : Nat → Nat → Nat} {what : Int32} (h : LKM g lk) (hM : ∀ g, g < 36 → SOLM lk 9999 g (M g)) (Q : RS → Prop) (fin : ∀ (g' : GG) (bf bl : Int32) (u : List Value) (s9 : KK), (∀ a, a ≠ 209 → a ≠ 210 → a ≠ 211 → g' a = g a) → MRS lk M 36 bf bl g' → Q ((kIld 2 (kConst (nI 9999) (kIf2 (fun x y => x ≠ y) (kIld 1 (kIf (fun x => x ≠ 0) (kIld 1 (kConst (nI 1) (kIf2 (fun x y => x ≠ y) (kIld 1 (kConst (nI 10) (kConst (nI 9) (kIld 3 (kBin (fun x y => x + y) (kCall 3 f_X11_isIn (kIf (fun x => x = 0) (kConst (-1) ((kb_X11_ring_150))) (kAld 0 (kGetR 11 49 48 (kIld 1 (kConst (nI 10) (kBin (fun x y => x - y) (kIal ((kb_X11_ring_150))))))))))))))) (kIld 3 ((kb_X11_ring_150)))))) (kIld 2 ((kb_X11_ring_150))))) (kConst (-1) (kRetI))))) [.ref 188, .int what, .int bf, .int bl, .int (nI 36)] [] (hp g' m o))) : Q (kl_X11_ring_9 [.ref 188, .int what, .int (nI 9999), .int (nI 0), .int (nI 0)] [] (hp g m o)) := by
  have zt : (bW true = 0) = False := eq_false (by decide)
  have zf : (bW false = 0) = True := eq_true rfl
  unfold kl_X11_ring_9
  refine kFor 36 (by unfold FU; omega) (fun i ls h' => ∃ (g' : GG) (bf bl : Int32) (u : List Value), ls = [.ref 188, .int what, .int bf, .int bl, .int (nI i)] ++ u ∧ h' = hp g' m o ∧ (∀ a, a ≠ 209 → a ≠ 210 → a ≠ 211 → g' a = g a) ∧ MRS lk M i bf bl g') Q ?_ ?_ 0 _ _ (by omega) ⟨g, _, _, [], rfl, rfl, fun _ _ _ _ => rfl, Or.inl ⟨rfl, rfl, fun f hf => absurd hf (Nat.not_lt_zero _)⟩⟩
  · rintro s0 ls h' ⟨g', bf, bl, u, rfl, rfl, h1, h2⟩
    have hin : (36 ≤ 36) = True := eq_true (by omega)
    have := fin g' bf bl [] s0 h1 h2
    simp (disch := first | assumption | omega) only [KL, KB, KC, KI, KJ, KZ, bI_0, bI_n, nI00, nI10, ne_eq, Classical.not_not, not_true_eq_false, not_false_eq_true, if_true, if_false, ite_not, ite_self, Bool.false_eq_true, nIne1, List.cons_append, List.nil_append, kMask, mask, mask_n, nIle, hin] at this ⊢
    exact this
  · rintro s0 i hi ih ls h' ⟨g', bf, bl, u, rfl, rfl, h1, h2⟩
    have hin : (36 ≤ i) = False := eq_false (by omega)
    have hLK := h.congr (h1 189 (by omega) (by omega) (by omega))
    have el := m_isLink (m := m) (o := o) hLK hi
    cases eL : isL lk i with
    | false =>
      rw [eL] at el
      simp (disch := first | assumption | omega) only [kb_X11_ring_92, KL, KB, KC, KI, KJ, KZ, bI_0, bI_n, nI00, nI10, ne_eq, Classical.not_not, not_true_eq_false, not_false_eq_true, if_true, if_false, ite_not, ite_self, Bool.false_eq_true, nIne1, List.cons_append, List.nil_append, kMask, mask, mask_n, O_mo, nIle, hin, el, zf, nI_add]
      refine ih _ _ ⟨g', bf, bl, [], rfl, rfl, h1, ?_⟩
      rcases h2 with ⟨a, b, c⟩ | ⟨s, mm, L, x, a, b, c, d, e, f, p, q, r⟩
      · exact Or.inl ⟨a, b, fun f hf hl => by
          by_cases w : f = i
          · rw [w, eL] at hl; cases hl
          · exact c f (by omega) hl⟩
      · exact Or.inr ⟨s, mm, L, x, by omega, b, c, d, e, f, fun f hf hl => by
          by_cases w : f = i
          · rw [w, eL] at hl; cases hl
          · exact p f (by omega) hl, q, r⟩
    | true =>
      rw [eL] at el
      obtain ⟨g2, e2, p1, p2⟩ := m_leastSums (m := m) (o := o) hLK hi eL (hM i hi)
      have hFi := p2 i hi
      have hbi := (hM i hi).1 i hi
      have z2 : ∀ a, a ≠ 209 → a ≠ 210 → a ≠ 211 → g2 a = g a := fun a a1 a2 a3 => by rw [p1 a a1]; exact h1 a a1 a2 a3
      have z220 : g2 211 = g' 211 := p1 211 (by omega)
      -- the best so far
      obtain ⟨B, hB, hB2⟩ : ∃ B, bf = nI B ∧ B ≤ 9999 := by
        rcases id h2 with ⟨a, b, c⟩ | ⟨s, mm, L, x, a, b, c, d, e, f, p, q, r⟩
        · exact ⟨9999, a, Nat.le_refl _⟩
        · exact ⟨mm, b, by omega⟩
      subst hB
      by_cases q : M i i < B
      · have q' : (M i i < B) = True := eq_true q
        have hlow : ∀ f, f < i → isL lk f = true → M i i < M f f := fun f hf hl => by
          rcases id h2 with ⟨a, b, c⟩ | ⟨s, mm, L, x, a, b, c, d, e, f', p, q, r⟩
          · have := c f hf hl; omega
          · have := p f hf hl
            rw [nIeq (by omega) (by omega)] at b
            omega
        have hlt : M i i < 9999 := by omega
        obtain ⟨L, x, hR, hL, hx⟩ := ex_rows (hM i hi) (fun l _ => lkW_1 lk l) hi hlt
        have hLK2 := hLK.congr (p1 189 (by omega))
        obtain ⟨g3, e3, w1, w2⟩ := m_laysRow (m := m) (o := o) hLK2 hi eL (hM i hi) p2 hR hL hx
        have cp : ∃ dummy : Nat, Q (kl_X11_ring_66 s0 [.ref 188, .int what, .int (nI (M i i)), .int (nI (L + 1)), .int (nI i), .int (nI 0)] [] (hp g3 m o)) := by
          refine ⟨0, ?_⟩
          unfold kl_X11_ring_66
          refine kFor (L + 1) (by unfold FU; omega) (fun k ls h' => ∃ (g4 : GG), ls = [.ref 188, .int what, .int (nI (M i i)), .int (nI (L + 1)), .int (nI i), .int (nI k)] ∧ h' = hp g4 m o ∧ (∀ a, a ≠ 211 → g4 a = g3 a) ∧ ∀ j, j < k → g4 211 j = nI (x j)) Q ?_ ?_ 0 _ _ (by omega) ⟨g3, rfl, rfl, fun _ _ => rfl, fun j hj => absurd hj (Nat.not_lt_zero _)⟩
          · rintro s1 ls h' ⟨g4, rfl, rfl, v1, v2⟩
            have hin : (L + 1 ≤ L + 1) = True := eq_true (by omega)
            simp (disch := first | assumption | omega) only [kb_X11_ring_92, KL, KB, KC, KI, KJ, KZ, bI_0, bI_n, nI00, nI10, ne_eq, Classical.not_not, not_true_eq_false, not_false_eq_true, if_true, if_false, ite_not, ite_self, Bool.false_eq_true, nIne1, kMask, mask, mask_n, nIle, hin, nI_add]
            exact ih _ _ ⟨g4, _, _, [_], rfl, rfl, fun a a1 a2 a3 => by rw [v1 a a3, w1 a a2]; exact z2 a a1 a2 a3, Or.inr ⟨i, M i i, L, x, by omega, rfl, rfl, eL, rfl, hlt, fun f hf hl => by
              by_cases e : f = i
              · rw [e]; exact Nat.le_refl _
              · exact Nat.le_of_lt (hlow f (by omega) hl), hlow, hR, hL, fun k hk => v2 k (by omega)⟩⟩
          · rintro s1 k hk ih2 ls h' ⟨g4, rfl, rfl, v1, v2⟩
            have hin : (L + 1 ≤ k) = False := eq_false (by omega)
            have k36 : k < 36 := by omega
            have er : g4 210 k = nI (x k) := by rw [v1 210 (by omega)]; exact w2 k (by omega)
            simp (disch := first | assumption | omega) only [KL, KB, KC, KI, KJ, KZ, bI_0, bI_n, nI00, nI10, ne_eq, Classical.not_not, not_true_eq_false, not_false_eq_true, if_true, if_false, ite_not, ite_self, Bool.false_eq_true, nIne1, kMask, mask, mask_n, O_mo, AR, nIle, hin, er, nI_add]
            exact ih2 _ _ ⟨_, rfl, rfl, fun a ha => by rw [uN ha]; exact v1 a ha, fun j hj => by
              by_cases e : j = k
              · rw [e]; exact uS
              · rw [uO (Or.inr e)]; exact v2 j (by omega)⟩
        obtain ⟨-, hcp⟩ := cp
        simp (disch := first | assumption | omega) only [kb_X11_ring_92, KL, KB, KC, KI, KJ, KZ, bI_0, bI_n, nI00, nI10, ne_eq, Classical.not_not, not_true_eq_false, not_false_eq_true, if_true, if_false, ite_not, ite_self, Bool.false_eq_true, nIne1, List.cons_append, List.nil_append, kMask, mask, mask_n, O_mo, AR, nIle, hin, el, zt, e2, hFi, nIlt, q', e3]
        exact hcp
      · have q' : (M i i < B) = False := eq_false q
        simp (disch := first | assumption | omega) only [kb_X11_ring_92, KL, KB, KC, KI, KJ, KZ, bI_0, bI_n, nI00, nI10, ne_eq, Classical.not_not, not_true_eq_false, not_false_eq_true, if_true, if_false, ite_not, ite_self, Bool.false_eq_true, nIne1, List.cons_append, List.nil_append, kMask, mask, mask_n, O_mo, AR, nIle, hin, el, zt, e2, hFi, nIlt, q', nI_add]
        refine ih _ _ ⟨g2, nI B, bl, [], rfl, rfl, z2, ?_⟩
        rcases h2 with ⟨a, b, c⟩ | ⟨s, mm, L, x, a, b, c, d, e, f, p, q2, r1, r2, r3⟩
        · rw [nIeq (by omega) (by omega)] at a
          exact Or.inl ⟨by rw [a], b, fun f hf hl => by
            by_cases w : f = i
            · rw [w]; omega
            · exact c f (by omega) hl⟩
        · have b' := b
          rw [nIeq (by omega) (by omega)] at b'
          exact Or.inr ⟨s, mm, L, x, by omega, b, c, d, e, f, fun f hf hl => by
            by_cases w : f = i
            · rw [w]; omega
            · exact p f (by omega) hl, q2, r1, r2, fun k hk => by rw [z220]; exact r3 k hk⟩
