-- ===== the first line that is so =====
def firstI (F : Nat → Int32) : ARule → Nat → Int32
  | [], _ => -1
  | q :: l, i => if q.2 = [] ∨ lineV F q.2 = nI 1 then nI i else firstI F l (i + 1)
theorem lnB_succ {rl : ARule} {i : Nat} {z : Bool × List (Nat × Nat)} (h : rl[i]? = some z) : lnB rl (i + 1) = lnB rl i + z.2.length := by
  unfold lnB
  rw [List.take_add_one, h]
  simp
theorem allS_at {rl : ARule} {i : Nat} {z : Bool × List (Nat × Nat)} (h : rl[i]? = some z) (t : Nat) (ht : t < z.2.length) : (allS rl)[lnB rl i + t]? = z.2[t]? := by
  have hi := (List.getElem?_eq_some_iff.mp h).1
  have hd : rl = rl.take i ++ z :: rl.drop (i + 1) := by
    have := List.drop_eq_getElem_cons hi
    rw [List.getElem?_eq_getElem hi] at h
    cases h
    rw [← this, List.take_append_drop]
  have hl : ((rl.take i).flatMap (fun q => q.2)).length = lnB rl i := by
    unfold lnB
    rw [List.length_flatMap]
  have e : allS rl = (rl.take i).flatMap (fun q => q.2) ++ (z.2 ++ (rl.drop (i + 1)).flatMap (fun q => q.2)) := by
    unfold allS
    conv => lhs; rw [hd]
    rw [List.flatMap_append, List.flatMap_cons]
  rw [e, List.getElem?_append_right (by omega), hl, show lnB rl i + t - lnB rl i = t by omega, List.getElem?_append_left ht]
theorem c_first (g : GG) (m o X : Nat) (rl : ARule) (F : Nat → Int32) (hX : isR X) (hX8 : X + 2 < 77) (hC : ruleC g X rl) (hw : wfR rl) (hF : ∀ i, i < 16 → g 78 i = F i) : ∃ g', f_X7_firstLine [.ref X, .ref 77] (hp g m o) = some (some (.int (firstI F rl 0)), hp g' m o) ∧ ∀ a, a ≠ 79 → g' a = g a := by
  obtain ⟨s0, s1, s2, sR⟩ := id hX
  have gs2 : ∀ (g : GG) (k : KK) (ls st : List Value), kGetR 7 5 3 k ls (.ref X :: st) (hp g m o) = k ls (.ref (X + 1) :: st) (hp g m o) := fun g k ls st => gr_at s0 (sR m o 1 (by decide) (by decide)) k ls st
  have gi0 : ∀ (g : GG) (k : KK) (ls st : List Value), kGetI 7 5 0 k ls (.ref X :: st) (hp g m o) = k ls (.int (g X 0) :: st) (hp g m o) := fun g k ls st => gi_at s0 k ls st
  have i2 : ∀ (g : GG) (i : Nat), i < 17 → ∀ (k : KK) (ls st : List Value), kIal k ls (.int (nI i) :: .ref (X + 1) :: st) (hp g m o) = k ls (.int (g (X + 1) i) :: st) (hp g m o) := fun g i hi k ls st => ial_at s1 (by decide) hi k ls st
  have rc : ∀ (g : GG) (k : KK) (ls st : List Value) (v0 v1 v2 : Value), kRecv 7 5 3 k ls (v0 :: v1 :: v2 :: .ref X :: st) (hp g m o) = k ls (v0 :: v1 :: v2 :: .ref X :: st) (hp g m o) := fun g k ls st v0 v1 v2 => rc_at s0 rfl
  obtain ⟨c0, c1, c2, c3, c4⟩ := hC
  obtain ⟨w1, w2, w3⟩ := hw
  simp (disch := first | assumption | omega) only [kb_X7_firstLine_0, f_X7_firstLine, KL, KB, KC, KI, KJ, KZ, bI_0, bI_n, nI00, nI10, ne_eq, Classical.not_not, not_true_eq_false, not_false_eq_true, if_true, if_false, ite_not, ite_self, Bool.false_eq_true, nIne1]
  unfold kl_X7_firstLine_2
  refine kFix_rule (fun k ls st h => ∃ (i : Nat) (g1 : GG), i + k = rl.length ∧ ls = [.ref X, .ref 77, .int (nI i)] ∧ st = [] ∧ h = hp g1 m o ∧ (∀ a, a ≠ 79 → g1 a = g a) ∧ firstI F (rl.drop i) i = firstI F rl 0) (fun r => ∃ g', r = some (some (.int (firstI F rl 0)), hp g' m o) ∧ ∀ a, a ≠ 79 → g' a = g a) ?_ FU rl.length (by show rl.length < 10000; omega) _ _ _ ⟨0, g, by omega, rfl, rfl, rfl, fun _ _ => rfl, rfl⟩
  rintro s k ih ls st h ⟨i, g1, hk, rfl, rfl, rfl, h1, h2⟩
  have e0 : g1 X 0 = nI rl.length := by rw [h1 _ (by omega)]; exact c0
  cases k with
  | zero =>
    have hle : (rl.length ≤ i) = True := eq_true (by omega)
    rw [List.drop_eq_nil_of_le (by omega)] at h2
    simp (disch := first | assumption | omega) only [kb_X7_firstLine_43, KL, KB, KC, KI, KJ, KZ, bI_0, bI_n, nI00, nI10, ne_eq, Classical.not_not, not_true_eq_false, not_false_eq_true, if_true, if_false, ite_not, ite_self, Bool.false_eq_true, nIne1, kMask, mask, gi0, e0, nIle, hle]
    exact ⟨g1, by rw [← h2]; rfl, h1⟩
  | succ k =>
    have hi : i < rl.length := by omega
    have hle : (rl.length ≤ i) = False := eq_false (by omega)
    obtain ⟨z, hz⟩ : ∃ z, rl[i]? = some z := ⟨rl[i], List.getElem?_eq_getElem hi⟩
    have hd : rl.drop i = z :: rl.drop (i + 1) := by
      have := List.drop_eq_getElem_cons hi
      rw [this]
      rw [List.getElem?_eq_getElem hi] at hz
      cases hz
      rfl
    have hs := lnB_succ hz
    have hb2 := lnB_le rl (i + 1)
    have l1 : g1 (X + 1) i = nI (lnB rl i) := by rw [h1 _ (by omega)]; exact c3 i (by omega)
    have l2 : g1 (X + 1) (i + 1) = nI (lnB rl i + z.2.length) := by rw [h1 _ (by omega), ← hs]; exact c3 (i + 1) (by omega)
    rw [hd] at h2
    by_cases hz0 : z.2 = []
    · have heq : (nI (lnB rl i) = nI (lnB rl i + z.2.length)) = True := eq_true (by rw [hz0]; rfl)
      simp (disch := first | assumption | omega) only [kb_X7_firstLine_43, KL, KB, KC, KI, KJ, KZ, bI_0, bI_n, nI00, nI10, ne_eq, Classical.not_not, not_true_eq_false, not_false_eq_true, if_true, if_false, ite_not, ite_self, Bool.false_eq_true, nIne1, kMask, mask, gi0, e0, nIle, hle, gs2, i2, nI_add, l1, l2, heq]
      exact ⟨g1, by rw [← h2]; show _ = some (some (Value.int (if _ then _ else _)), _); rw [if_pos (Or.inl hz0)], h1⟩
    · have hpos : 0 < z.2.length := List.length_pos_iff.mpr hz0
      have heq : (nI (lnB rl i) = nI (lnB rl i + z.2.length)) = False := by rw [nIeq (by omega) (by omega)]; exact eq_false (by omega)
      have hr : opRun z.2 [] = true := (w3 z (List.mem_of_getElem? hz)).resolve_left hz0
      obtain ⟨g2, e2, p2⟩ := c_isSo g1 m o X i (lnB rl i) F z.2 hX (by omega) (by omega) l1 l2 (by omega) (fun t y hy => by
        have ht := (List.getElem?_eq_some_iff.mp hy).1
        rw [h1 _ (by omega)]
        exact c4 _ y (by rw [allS_at hz t ht]; exact hy)) (fun i hi => by rw [h1 _ (by omega)]; exact hF i hi) hr
      obtain ⟨v, hv, hv2⟩ := opRun_end (F := F) z.2 [] [] hr trivial
      have hlv : lineV F z.2 = v := by unfold lineV; rw [hv]; rfl
      rw [hlv] at e2
      have kO : ∀ a, a ≠ 79 → g2 a = g a := fun a ha => by rw [p2 a ha, h1 a ha]
      rcases hv2 with rfl | rfl
      · simp (disch := first | assumption | omega) only [kb_X7_firstLine_43, KL, KB, KC, KI, KJ, KZ, bI_0, bI_n, nI00, nI10, ne_eq, Classical.not_not, not_true_eq_false, not_false_eq_true, if_true, if_false, ite_not, ite_self, Bool.false_eq_true, nIne1, kMask, mask, gi0, e0, nIle, hle, gs2, i2, nI_add, l1, l2, heq, O_pr, rc, e2]
        refine ih k (by omega) _ _ _ ⟨i + 1, g2, by omega, rfl, rfl, rfl, kO, ?_⟩
        rw [← h2]
        show _ = (if _ then _ else _)
        rw [if_neg (fun q => q.elim hz0 (fun q => by rw [hlv] at q; exact absurd q (by decide)))]
      · simp (disch := first | assumption | omega) only [kb_X7_firstLine_43, KL, KB, KC, KI, KJ, KZ, bI_0, bI_n, nI00, nI10, ne_eq, Classical.not_not, not_true_eq_false, not_false_eq_true, if_true, if_false, ite_not, ite_self, Bool.false_eq_true, nIne1, kMask, mask, gi0, e0, nIle, hle, gs2, i2, nI_add, l1, l2, heq, O_pr, rc, e2]
        exact ⟨g2, by rw [← h2]; show _ = some (some (Value.int (if _ then _ else _)), _); rw [if_pos (Or.inr hlv)], kO⟩
theorem m_first (g : GG) (m o r : Nat) (rl : ARule) (F : Nat → Int32) (hr4 : r < 4) (hM : ruleM g 189 r rl) (hw : wfR rl) (hF : ∀ i, i < 16 → g 195 (i + 1) = F i) (x y : Value) : ∃ g', kl_X11_firstLine_9 [.ref 188, .int (nI r), x, y, .int (nI 0)] [] (hp g m o) = some (some (.int (firstI F rl 0)), hp g' m o) ∧ ∀ a, a ≠ 194 → g' a = g a := by
  obtain ⟨c0, c1, c2⟩ := hM
  obtain ⟨w1, w2, w3⟩ := hw
  unfold kl_X11_firstLine_9
  refine kFix_rule (fun k ls st h => ∃ (i : Nat) (g1 : GG) (x y : Value) (u : List Value), i + k = rl.length ∧ ls = [.ref 188, .int (nI r), x, y, .int (nI i)] ++ u ∧ st = [] ∧ h = hp g1 m o ∧ (∀ a, a ≠ 194 → g1 a = g a) ∧ firstI F (rl.drop i) i = firstI F rl 0) (fun r => ∃ g', r = some (some (.int (firstI F rl 0)), hp g' m o) ∧ ∀ a, a ≠ 194 → g' a = g a) ?_ FU rl.length (by show rl.length < 10000; omega) _ _ _ ⟨0, g, x, y, [], by omega, rfl, rfl, rfl, fun _ _ => rfl, rfl⟩
  rintro s k ih ls st h ⟨i, g1, x, y, u, hk, rfl, rfl, rfl, h1, h2⟩
  have e0 : g1 189 (3380 + r) = nI rl.length := by rw [h1 _ (by omega)]; exact c0
  cases k with
  | zero =>
    have hle : (rl.length ≤ i) = True := eq_true (by omega)
    rw [List.drop_eq_nil_of_le (by omega)] at h2
    simp (disch := first | assumption | omega) only [kb_X11_firstLine_89, KL, KB, KC, KI, KJ, KZ, bI_0, bI_n, nI00, nI10, ne_eq, Classical.not_not, not_true_eq_false, not_false_eq_true, if_true, if_false, ite_not, ite_self, Bool.false_eq_true, nIne1, List.cons_append, List.nil_append, kMask, mask, O_mo, AR, nI_add, e0, nIle, hle]
    exact ⟨g1, by rw [← h2]; rfl, h1⟩
  | succ k =>
    have hi : i < rl.length := by omega
    have hle : (rl.length ≤ i) = False := eq_false (by omega)
    obtain ⟨z, hz⟩ : ∃ z, rl[i]? = some z := ⟨rl[i], List.getElem?_eq_getElem hi⟩
    have hd : rl.drop i = z :: rl.drop (i + 1) := by
      have := List.drop_eq_getElem_cons hi
      rw [this]
      rw [List.getElem?_eq_getElem hi] at hz
      cases hz
      rfl
    have hs := lnB_succ hz
    have hb2 := lnB_le rl (i + 1)
    obtain ⟨-, l1, l2⟩ := c1 i z hz
    rw [hs] at l2
    rw [← h1 189 (by omega), Nat.add_assoc] at l1 l2
    rw [hd] at h2
    have hlim : 16 * r + i < 64 := by omega
    by_cases hz0 : z.2 = []
    · have heq : (nI (lnB rl i + z.2.length) = nI (lnB rl i)) = True := eq_true (by rw [hz0]; rfl)
      simp (disch := first | assumption | omega) only [kb_X11_firstLine_89, KL, KB, KC, KI, KJ, KZ, bI_0, bI_n, nI00, nI10, ne_eq, Classical.not_not, not_true_eq_false, not_false_eq_true, if_true, if_false, ite_not, ite_self, Bool.false_eq_true, nIne1, List.cons_append, List.nil_append, kMask, mask, O_mo, AR, nI_mul, nI_add, e0, nIle, hle, l1, l2, heq]
      exact ⟨g1, by rw [← h2]; show _ = some (some (Value.int (if _ then _ else _)), _); rw [if_pos (Or.inl hz0)], h1⟩
    · have hpos : 0 < z.2.length := List.length_pos_iff.mpr hz0
      have heq : (nI (lnB rl i + z.2.length) = nI (lnB rl i)) = False := by rw [nIeq (by omega) (by omega)]; exact eq_false (by omega)
      have hr : opRun z.2 [] = true := (w3 z (List.mem_of_getElem? hz)).resolve_left hz0
      obtain ⟨g2, e2, p2⟩ := m_comesTo g1 m o r (lnB rl i) F z.2 hr4 (by omega) (fun t y hy => by
        have ht := (List.getElem?_eq_some_iff.mp hy).1
        rw [h1 189 (by omega)]
        exact c2 _ y (by rw [allS_at hz t ht]; exact hy)) (fun i hi => by rw [h1 _ (by omega)]; exact hF i hi) hr
      obtain ⟨v, hv, hv2⟩ := opRun_end (F := F) z.2 [] [] hr trivial
      have hlv : lineV F z.2 = v := by unfold lineV; rw [hv]; rfl
      rw [hlv] at e2
      have kO : ∀ a, a ≠ 194 → g2 a = g a := fun a ha => by rw [p2 a ha, h1 a ha]
      rcases hv2 with rfl | rfl
      · have h01 : (nI 0 = nI 1) = False := eq_false (by decide)
        simp (disch := first | assumption | omega) only [kb_X11_firstLine_89, KL, KB, KC, KI, KJ, KZ, bI_0, bI_n, nI00, nI10, ne_eq, Classical.not_not, not_true_eq_false, not_false_eq_true, if_true, if_false, ite_not, ite_self, Bool.false_eq_true, nIne1, List.cons_append, List.nil_append, kMask, mask, O_mo, AR, nI_mul, nI_add, e0, nIle, hle, l1, l2, heq, e2, h01]
        refine ih k (by omega) _ _ _ ⟨i + 1, g2, _, _, _, by omega, rfl, rfl, rfl, kO, ?_⟩
        rw [← h2]
        show _ = (if _ then _ else _)
        rw [if_neg (fun q => q.elim hz0 (fun q => by rw [hlv] at q; exact absurd q (by decide)))]
      · simp (disch := first | assumption | omega) only [kb_X11_firstLine_89, KL, KB, KC, KI, KJ, KZ, bI_0, bI_n, nI00, nI10, ne_eq, Classical.not_not, not_true_eq_false, not_false_eq_true, if_true, if_false, ite_not, ite_self, Bool.false_eq_true, nIne1, List.cons_append, List.nil_append, kMask, mask, O_mo, AR, nI_mul, nI_add, e0, nIle, hle, l1, l2, heq, e2, eq_self]
        exact ⟨g2, by rw [← h2]; show _ = some (some (Value.int (if _ then _ else _)), _); rw [if_pos (Or.inr hlv)], kO⟩
