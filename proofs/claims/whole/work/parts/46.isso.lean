-- ===== a line's value: the class's isSo =====
theorem nIdec (n : Nat) : nI (n + 1) + -1 = nI n := by
  rw [← nI_add n 1, Int32.add_assoc, show nI 1 + -1 = 0 by decide, Int32.add_zero]
theorem c_isSo (g : GG) (m o X line b : Nat) (F : Nat → Int32) (ops : List (Nat × Nat)) (hX : isR X) (hX8 : X + 2 ≠ 79 ∧ X + 1 ≠ 79) (hl : line < 16) (hb : g (X + 1) line = nI b) (he : g (X + 1) (line + 1) = nI (b + ops.length)) (hbe : b + ops.length ≤ 400) (hop : ∀ (t : Nat) (z : Nat × Nat), ops[t]? = some z → g (X + 2) (b + t) = opC z) (hF : ∀ i, i < 16 → g 78 i = F i) (hrun : opRun ops [] = true) : ∃ g', f_X7_isSo [.ref X, .int (nI line), .ref 78, .ref 79] (hp g m o) = some (some (.int (lineV F ops)), hp g' m o) ∧ ∀ a, a ≠ 79 → g' a = g a := by
  obtain ⟨s0, s1, s2, sR⟩ := id hX
  have gs2 : ∀ (g : GG) (k : KK) (ls st : List Value), kGetR 7 5 3 k ls (.ref X :: st) (hp g m o) = k ls (.ref (X + 1) :: st) (hp g m o) := fun g k ls st => gr_at s0 (sR m o 1 (by decide) (by decide)) k ls st
  have gs3 : ∀ (g : GG) (k : KK) (ls st : List Value), kGetR 7 5 4 k ls (.ref X :: st) (hp g m o) = k ls (.ref (X + 2) :: st) (hp g m o) := fun g k ls st => gr_at s0 (sR m o 2 (by decide) (by decide)) k ls st
  have i2 : ∀ (g : GG) (i : Nat), i < 17 → ∀ (k : KK) (ls st : List Value), kIal k ls (.int (nI i) :: .ref (X + 1) :: st) (hp g m o) = k ls (.int (g (X + 1) i) :: st) (hp g m o) := fun g i hi k ls st => ial_at s1 (by decide) hi k ls st
  have i3 : ∀ (g : GG) (i : Nat), i < 400 → ∀ (k : KK) (ls st : List Value), kIal k ls (.int (nI i) :: .ref (X + 2) :: st) (hp g m o) = k ls (.int (g (X + 2) i) :: st) (hp g m o) := fun g i hi k ls st => ial_at s2 (by decide) hi k ls st
  simp (disch := first | assumption | omega) only [kb_X7_isSo_0, f_X7_isSo, KL, KB, KC, KI, KJ, KZ, bI_0, bI_n, nI00, nI10, ne_eq, Classical.not_not, not_true_eq_false, not_false_eq_true, if_true, if_false, ite_not, ite_self, Bool.false_eq_true, nIne1, gs2, i2, hb]
  unfold kl_X7_isSo_11
  refine kFix_rule (fun k ls st h => ∃ (t : Nat) (sk : List Int32) (ts : List Bool) (g1 : GG) (u : List Value), t + k = ops.length ∧ ls = [.ref X, .int (nI line), .ref 78, .ref 79, .int (nI sk.length), .int (nI (b + t))] ++ u ∧ st = [] ∧ h = hp g1 m o ∧ (∀ a, a ≠ 79 → g1 a = g a) ∧ SK g1 79 sk ∧ TyS ts sk ∧ ts.length ≤ 60 ∧ opRun (ops.drop t) ts = true ∧ runS F (ops.drop t) sk = runS F ops []) (fun r => ∃ g', r = some (some (.int (lineV F ops)), hp g' m o) ∧ ∀ a, a ≠ 79 → g' a = g a) ?_ FU ops.length (by show ops.length < 10000; omega) _ _ _ ⟨0, [], [], g, [], by omega, rfl, rfl, rfl, fun _ _ => rfl, fun i x hx => by simp at hx, trivial, by decide, hrun, rfl⟩
  rintro s k ih ls st h ⟨t, sk, ts, g1, u, hk, rfl, rfl, rfl, h1, h2, h3, h4, h5, h6⟩
  have e2 : g1 (X + 1) (line + 1) = nI (b + ops.length) := by rw [h1 _ hX8.2]; exact he
  have hlen := h3.len
  cases k with
  | zero =>
    have ht : ops.drop t = [] := List.drop_eq_nil_of_le (by omega)
    rw [ht] at h5 h6
    have hts : ts = [true] := of_decide_eq_true h5
    subst hts
    match sk, h3, h2, h6, hlen with
    | [v], h3, h2, h6, _ =>
      have hv : lineV F ops = v := by unfold lineV; rw [← h6]; rfl
      have hle : (nI (b + ops.length) ≤ nI (b + t)) = True := by rw [nIle (by omega) (by omega)]; exact eq_true (by omega)
      have htop : g1 79 0 = v := h2.top
      have h10 : (nI 1 ≤ (0 : Int32)) = False := eq_false (by decide)
      rw [hv]
      rcases h3.1 rfl with rfl | rfl
      · simp (disch := first | assumption | omega) only [kb_X7_isSo_201, kb_X7_isSo_200, KL, KB, KC, KI, KJ, KZ, bI_0, bI_n, nI00, nI10, ne_eq, Classical.not_not, not_true_eq_false, not_false_eq_true, if_true, if_false, ite_not, ite_self, Bool.false_eq_true, nIne1, List.cons_append, List.nil_append, kMask, mask, gs2, i2, e2, nI_add, hle, List.length_cons, List.length_nil, Nat.zero_add, h10, nI_sub, Nat.sub_self, AR, htop]
        exact ⟨g1, rfl, h1⟩
      · simp (disch := first | assumption | omega) only [kb_X7_isSo_201, kb_X7_isSo_200, KL, KB, KC, KI, KJ, KZ, bI_0, bI_n, nI00, nI10, ne_eq, Classical.not_not, not_true_eq_false, not_false_eq_true, if_true, if_false, ite_not, ite_self, Bool.false_eq_true, nIne1, List.cons_append, List.nil_append, kMask, mask, gs2, i2, e2, nI_add, hle, List.length_cons, List.length_nil, Nat.zero_add, h10, nI_sub, Nat.sub_self, AR, htop]
        exact ⟨g1, rfl, h1⟩
  | succ k =>
    have hlt : t < ops.length := by omega
    obtain ⟨z, hz⟩ : ∃ z, ops[t]? = some z := ⟨ops[t], List.getElem?_eq_getElem hlt⟩
    have hd : ops.drop t = z :: ops.drop (t + 1) := by
      have := List.drop_eq_getElem_cons hlt
      rw [this]
      rw [List.getElem?_eq_getElem hlt] at hz
      cases hz
      rfl
    rw [hd] at h5 h6
    obtain ⟨y1, y2, ts', y3, y4, y5⟩ := opRun_cons h5
    have y6 : TyS ts' (opS F z sk) := h3.step y3
    have hle : (nI (b + ops.length) ≤ nI (b + t)) = False := by rw [nIle (by omega) (by omega)]; exact eq_false (by omega)
    have ho : g1 (X + 2) (b + t) = opC z := by rw [h1 _ hX8.1]; exact hop t z hz
    have go : ∀ (g2 : GG) (u : List Value), (∀ a, a ≠ 79 → g2 a = g a) → SK g2 79 (opS F z sk) → (fun r => ∃ g', r = some (some (.int (lineV F ops)), hp g' m o) ∧ ∀ a, a ≠ 79 → g' a = g a) (s ([.ref X, .int (nI line), .ref 78, .ref 79, .int (nI (opS F z sk).length), .int (nI (b + t + 1))] ++ u) [] (hp g2 m o)) := fun g2 u w1 w2 => ih k (by omega) _ _ _ ⟨t + 1, opS F z sk, ts', g2, u, by omega, rfl, rfl, rfl, w1, w2, y6, y4, y5, h6⟩
    have hsk : sk.length < 61 := by omega
    have h64 : (64 ≤ sk.length) = False := eq_false (by omega)
    rcases opTy_cases y3 with ⟨hs, rfl⟩ | ⟨hs, t', rfl, rfl⟩ | ⟨hs, t', rfl, rfl⟩ | hbin
    · by_cases h0 : z.1 = 0
      · rw [opS_num F z sk h0] at go
        have q1 : (100 ≤ 100 + z.2) = True := eq_true (by omega)
        have q2 : (100 + z.2 < 100) = False := eq_false (by omega)
        rw [opC_num z h0] at ho
        simp (disch := first | assumption | omega) only [kb_X7_isSo_176, kb_X7_isSo_81, kb_X7_isSo_52, KL, KB, KC, KI, KJ, KZ, bI_0, bI_n, nI00, nI10, ne_eq, Classical.not_not, not_true_eq_false, not_false_eq_true, if_true, if_false, ite_not, ite_self, Bool.false_eq_true, nIne1, List.cons_append, List.nil_append, kMask, mask, gs2, gs3, i2, i3, e2, nI_add, hle, ho, nIle, nIlt, q1, q2, h64, nI_sub, Nat.add_sub_cancel_left, AR]
        exact go _ _ (fun a ha => by rw [uN ha]; exact h1 a ha) (h2.put _)
      · rw [opS_word F z sk h0 hs] at go
        have q1 : (100 ≤ z.1 - 1) = False := eq_false (by omega)
        have q2 : (nI (z.1 - 1) < 0) = False := nIlt0 (by omega)
        have q3 : (16 ≤ z.1 - 1) = False := eq_false (by omega)
        have q4 : (z.1 - 1 < 100) = True := eq_true (by omega)
        have hf : g1 78 (z.1 - 1) = F (z.1 - 1) := by rw [h1 _ (by omega)]; exact hF _ (by omega)
        rw [opC_word z h0 hs] at ho
        simp (disch := first | assumption | omega) only [kb_X7_isSo_176, kb_X7_isSo_81, kb_X7_isSo_52, KL, KB, KC, KI, KJ, KZ, bI_0, bI_n, nI00, nI10, ne_eq, Classical.not_not, not_true_eq_false, not_false_eq_true, if_true, if_false, ite_not, ite_self, Bool.false_eq_true, nIne1, List.cons_append, List.nil_append, kMask, mask, gs2, gs3, i2, i3, e2, nI_add, hle, ho, q2, nIle, nIlt, q1, q3, q4, h64, AR, hf]
        exact go _ _ (fun a ha => by rw [uN ha]; exact h1 a ha) (h2.put _)
    · match sk, h3, h2, go, hsk, h64 with
      | a :: sk, h3, h2, go, hsk, h64 =>
        have hv := y1 hs
        rw [opS_part F z a sk hs] at go
        have q2 : (- nI z.2 < 0) = True := eq_true (neg_lt0 hv y2)
        have q3 : (0 ≤ - nI z.2) = False := eq_false (Int32.not_le.mpr (neg_lt0 hv y2))
        have q1 : (nI 100 ≤ - nI z.2) = False := eq_false (fun q => Int32.not_le.mpr (neg_lt0 hv y2) (Int32.le_trans (by decide) q))
        have q5 : (nI (sk.length + 1) ≤ 0) = False := by rw [nIle0 (by rw [List.length_cons] at hsk; omega)]; exact eq_false (by omega)
        have q6 : (nI z.2 = 0) = False := by rw [nIk0 (by omega)]; exact eq_false (by omega)
        have htop : g1 79 sk.length = a := h2.top
        have hb64 : sk.length < 64 := by rw [List.length_cons] at hsk; omega
        rw [opC_part z hs] at ho
        simp (disch := first | assumption | omega) only [kb_X7_isSo_176, kb_X7_isSo_81, kb_X7_isSo_52, kb_X7_isSo_88, KL, KB, KC, KI, KJ, KZ, bI_0, bI_n, nI00, nI10, ne_eq, Classical.not_not, not_true_eq_false, not_false_eq_true, if_true, if_false, ite_not, ite_self, Bool.false_eq_true, nIne1, List.cons_append, List.nil_append, kMask, mask, gs2, gs3, i2, i3, e2, nI_add, hle, ho, q1, q2, q3, List.length_cons, q5, nI_sub, Nat.add_sub_cancel, AR, htop, Int32.neg_neg, q6]
        exact go _ _ (fun a ha => by rw [uN ha]; exact h1 a ha) (h2.tail.put _)
    · match sk, h3, h2, go, hsk, h64 with
      | a :: sk, h3, h2, go, hsk, h64 =>
        rw [opS_not F z a sk hs] at go
        have q1 : (nI 100 ≤ nI 21) = False := eq_false (by decide)
        have q2 : (nI 21 < 0) = False := eq_false (by decide)
        have q3 : (0 ≤ nI 21) = True := eq_true (by decide)
        have q4 : (nI 16 ≤ nI 21) = True := eq_true (by decide)
        have q5 : (nI (sk.length + 1) ≤ 0) = False := by rw [nIle0 (by rw [List.length_cons] at hsk; omega)]; exact eq_false (by omega)
        have htop : g1 79 sk.length = a := h2.top
        have hb64 : sk.length < 64 := by rw [List.length_cons] at hsk; omega
        rw [opC_not z hs] at ho
        simp (disch := first | assumption | omega) only [kb_X7_isSo_176, kb_X7_isSo_81, kb_X7_isSo_52, kb_X7_isSo_88, KL, KB, KC, KI, KJ, KZ, bI_0, bI_n, nI00, nI10, ne_eq, Classical.not_not, not_true_eq_false, not_false_eq_true, if_true, if_false, ite_not, ite_self, Bool.false_eq_true, nIne1, List.cons_append, List.nil_append, kMask, mask, gs2, gs3, i2, i3, e2, nI_add, hle, ho, q1, q2, q3, q4, eq_self, List.length_cons, q5, nI_sub, Nat.add_sub_cancel, AR, htop]
        exact go _ _ (fun a ha => by rw [uN ha]; exact h1 a ha) (h2.tail.put _)
    · have hb : isBin z.1 ∧ ∃ a c sk', sk = a :: c :: sk' := by
        rcases hbin with ⟨hs, t', rfl, rfl⟩ | ⟨hs, t', rfl, rfl⟩ | ⟨hs, t', rfl, rfl⟩
        all_goals
          refine ⟨by unfold isBin; omega, ?_⟩
          match sk, h3 with
          | a :: c :: sk, _ => exact ⟨a, c, sk, rfl⟩
      obtain ⟨hb, a, c, sk, rfl⟩ := hb
      rw [opS_bin F z a c sk hb] at go
      obtain ⟨kk, ek, k1, k2, k3⟩ := opC_bin z hb
      have hj := fun h => c_joined z hb c a h
      rw [ek] at ho hj
      have q1 : (nI 100 ≤ nI kk) = False := by rw [nIle (by omega) (by omega)]; exact eq_false (by omega)
      have q2 : (nI kk < 0) = False := nIlt0 (by omega)
      have q3 : (0 ≤ nI kk) = True := nIge0 (by omega)
      have q4 : (nI 16 ≤ nI kk) = True := by rw [nIle (by omega) (by omega)]; exact eq_true k2
      have q6 : (nI kk = nI 21) = False := by rw [nIeq (by omega) (by omega)]; exact eq_false k3
      have hb64 : sk.length + 1 < 64 := by rw [List.length_cons, List.length_cons] at hsk; omega
      have q5 : (nI (sk.length + 1 + 1) ≤ nI 1) = False := by rw [nIle (by omega) (by omega)]; exact eq_false (by omega)
      have htop : g1 79 (sk.length + 1) = a := h2.top
      have hsec : g1 79 sk.length = c := h2.tail.top
      simp (disch := first | assumption | omega) only [kb_X7_isSo_176, kb_X7_isSo_81, kb_X7_isSo_52, kb_X7_isSo_88, KL, KB, KC, KI, KJ, KZ, bI_0, bI_n, nI00, nI10, ne_eq, Classical.not_not, not_true_eq_false, not_false_eq_true, if_true, if_false, ite_not, ite_self, Bool.false_eq_true, nIne1, List.cons_append, List.nil_append, kMask, mask, gs2, gs3, i2, i3, e2, nI_add, hle, ho, q1, q2, q3, q4, q6, List.length_cons, q5, nIdec, nI_sub, Nat.add_sub_cancel, AR, htop, hsec, hj]
      exact go _ _ (fun a ha => by rw [uN ha]; exact h1 a ha) (h2.tail.tail.put _)
