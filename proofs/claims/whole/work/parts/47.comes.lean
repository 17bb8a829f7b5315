-- ===== a line's value: the model's comesTo =====
theorem m_comesTo (g : GG) (m o k b : Nat) (F : Nat → Int32) (ops : List (Nat × Nat)) (hk4 : k < 4) (hbe : b + ops.length ≤ 400) (hop : ∀ (t : Nat) (z : Nat × Nat), ops[t]? = some z → g 189 (3590 + 820 * k + 2 * (b + t)) = nI z.1 ∧ (z.1 = 0 ∨ z.1 = 20 → g 189 (3590 + 820 * k + 2 * (b + t) + 1) = nI z.2)) (hF : ∀ i, i < 16 → g 195 (i + 1) = F i) (hrun : opRun ops [] = true) : ∃ g', f_X11_comesTo [.ref 188, .int (nI k), .int (nI b), .int (nI (b + ops.length))] (hp g m o) = some (some (.int (lineV F ops)), hp g' m o) ∧ ∀ a, a ≠ 194 → g' a = g a := by
  simp (disch := first | assumption | omega) only [kb_X11_comesTo_0, f_X11_comesTo, KL, KB, KC, KI, KJ, KZ, bI_0, bI_n, nI00, nI10, ne_eq, Classical.not_not, not_true_eq_false, not_false_eq_true, if_true, if_false, ite_not, ite_self, Bool.false_eq_true, nIne1]
  unfold kl_X11_comesTo_6
  refine kFix_rule (fun kk ls st h => ∃ (t : Nat) (sk : List Int32) (ts : List Bool) (g1 : GG) (w : Value) (u : List Value), t + kk = ops.length ∧ ls = [.ref 188, .int (nI k), w, .int (nI (b + ops.length)), .int (nI sk.length), .int (nI (b + t))] ++ u ∧ st = [] ∧ h = hp g1 m o ∧ (∀ a, a ≠ 194 → g1 a = g a) ∧ SK g1 194 sk ∧ TyS ts sk ∧ ts.length ≤ 60 ∧ opRun (ops.drop t) ts = true ∧ runS F (ops.drop t) sk = runS F ops []) (fun r => ∃ g', r = some (some (.int (lineV F ops)), hp g' m o) ∧ ∀ a, a ≠ 194 → g' a = g a) ?_ FU ops.length (by show ops.length < 10000; omega) _ _ _ ⟨0, [], [], g, _, [], by omega, rfl, rfl, rfl, fun _ _ => rfl, fun i x hx => by simp at hx, trivial, by decide, hrun, rfl⟩
  rintro s kk ih ls st h ⟨t, sk, ts, g1, w, u, hk, rfl, rfl, rfl, h1, h2, h3, h4, h5, h6⟩
  have hlen := h3.len
  cases kk with
  | zero =>
    have ht : ops.drop t = [] := List.drop_eq_nil_of_le (by omega)
    rw [ht] at h5 h6
    have hts : ts = [true] := of_decide_eq_true h5
    subst hts
    match sk, h3, h2, h6, hlen with
    | [v], h3, h2, h6, _ =>
      have hv : lineV F ops = v := by unfold lineV; rw [← h6]; rfl
      have hle : (nI (b + ops.length) ≤ nI (b + t)) = True := by rw [nIle (by omega) (by omega)]; exact eq_true (by omega)
      have htop : g1 194 0 = v := h2.top
      rw [hv]
      simp (disch := first | assumption | omega) only [KL, KB, KC, KI, KJ, KZ, bI_0, bI_n, nI00, nI10, ne_eq, Classical.not_not, not_true_eq_false, not_false_eq_true, if_true, if_false, ite_not, ite_self, Bool.false_eq_true, nIne1, List.cons_append, List.nil_append, kMask, mask, hle, O_mo, AR, htop]
      exact ⟨g1, rfl, h1⟩
  | succ kk =>
    have hlt : t < ops.length := by omega
    obtain ⟨z, hz⟩ : ∃ z, ops[t]? = some z := ⟨ops[t], List.getElem?_eq_getElem hlt⟩
    have hd : ops.drop t = z :: ops.drop (t + 1) := by
      have := List.drop_eq_getElem_cons hlt
      rw [this]
      rw [List.getElem?_eq_getElem hlt] at hz
      cases hz
      rfl
    rw [hd] at h5 h6
    obtain ⟨y1, y2, ts', y3, y4, y5⟩ := opRun_cons h5
    have y6 : TyS ts' (opS F z sk) := h3.step y3
    have hle : (nI (b + ops.length) ≤ nI (b + t)) = False := by rw [nIle (by omega) (by omega)]; exact eq_false (by omega)
    obtain ⟨ho, hov⟩ := hop t z hz
    rw [← h1 189 (by omega)] at ho hov
    have go : ∀ (g2 : GG) (w : Value) (u : List Value), (∀ a, a ≠ 194 → g2 a = g a) → SK g2 194 (opS F z sk) → (fun r => ∃ g', r = some (some (.int (lineV F ops)), hp g' m o) ∧ ∀ a, a ≠ 194 → g' a = g a) (s ([.ref 188, .int (nI k), w, .int (nI (b + ops.length)), .int (nI (opS F z sk).length), .int (nI (b + t + 1))] ++ u) [] (hp g2 m o)) := fun g2 w u w1 w2 => ih kk (by omega) _ _ _ ⟨t + 1, opS F z sk, ts', g2, w, u, by omega, rfl, rfl, rfl, w1, w2, y6, y4, y5, h6⟩
    have hsk : sk.length < 61 := by omega
    have hmul : 820 * k + 2 * (b + t) = 820 * k + 2 * (b + t) := rfl
    rcases opTy_cases y3 with ⟨hs, rfl⟩ | ⟨hs, t', rfl, rfl⟩ | ⟨hs, t', rfl, rfl⟩ | hbin
    · have q1 : (nI 17 ≤ nI z.1) = False := by rw [nIle (by omega) (by omega)]; exact eq_false (by omega)
      by_cases h0 : z.1 = 0
      · have hov := hov (Or.inl h0)
        rw [opS_num F z sk h0] at go
        rw [h0] at ho q1
        simp (disch := first | assumption | omega) only [kb_X11_comesTo_180, kb_X11_comesTo_86, kb_X11_comesTo_12, KL, KB, KC, KI, KJ, KZ, bI_0, bI_n, nI00, nI10, ne_eq, Classical.not_not, not_true_eq_false, not_false_eq_true, if_true, if_false, ite_not, ite_self, Bool.false_eq_true, nIne1, List.cons_append, List.nil_append, kMask, mask, hle, O_mo, AR, nI_mul, nI_add, ho, hov, q1]
        exact go _ _ _ (fun a ha => by rw [uN ha]; exact h1 a ha) (h2.put _)
      · have q2 : (nI z.1 = 0) = False := by rw [nIk0 (by omega)]; exact eq_false h0
        have hf : g1 195 z.1 = F (z.1 - 1) := by rw [h1 _ (by omega)]; have := hF (z.1 - 1) (by omega); rwa [show z.1 - 1 + 1 = z.1 by omega] at this
        rw [opS_word F z sk h0 hs] at go
        simp (disch := first | assumption | omega) only [kb_X11_comesTo_180, kb_X11_comesTo_86, kb_X11_comesTo_12, KL, KB, KC, KI, KJ, KZ, bI_0, bI_n, nI00, nI10, ne_eq, Classical.not_not, not_true_eq_false, not_false_eq_true, if_true, if_false, ite_not, ite_self, Bool.false_eq_true, nIne1, List.cons_append, List.nil_append, kMask, mask, hle, O_mo, AR, nI_mul, nI_add, ho, q1, q2, hf]
        exact go _ _ _ (fun a ha => by rw [uN ha]; exact h1 a ha) (h2.put _)
    · match sk, h3, h2, go, hsk with
      | a :: sk, h3, h2, go, hsk =>
        have hov := hov (Or.inr hs)
        have hv := y1 hs
        rw [opS_part F z a sk hs] at go
        rw [hs] at ho
        have q1 : (nI 17 ≤ nI 20) = True := eq_true (by decide)
        have q6 : (nI z.2 = 0) = False := by rw [nIk0 (by omega)]; exact eq_false (by omega)
        have htop : g1 194 sk.length = a := h2.top
        have hb64 : sk.length < 60 := by rw [List.length_cons] at hsk; omega
        simp (disch := first | assumption | omega) only [kb_X11_comesTo_180, kb_X11_comesTo_86, kb_X11_comesTo_12, KL, KB, KC, KI, KJ, KZ, bI_0, bI_n, nI00, nI10, ne_eq, Classical.not_not, not_true_eq_false, not_false_eq_true, if_true, if_false, ite_not, ite_self, Bool.false_eq_true, nIne1, List.cons_append, List.nil_append, kMask, mask, hle, O_mo, AR, nI_mul, nI_add, ho, hov, q1, eq_self, List.length_cons, nI_sub, Nat.add_sub_cancel, htop, q6]
        exact go _ _ _ (fun a ha => by rw [uN ha]; exact h1 a ha) (h2.tail.put _)
    · match sk, h3, h2, go, hsk with
      | a :: sk, h3, h2, go, hsk =>
        rw [opS_not F z a sk hs] at go
        rw [hs] at ho
        have q1 : (nI 17 ≤ nI 24) = True := eq_true (by decide)
        have q2 : (nI 24 = nI 20) = False := eq_false (by decide)
        have htop : g1 194 sk.length = a := h2.top
        have hb64 : sk.length < 60 := by rw [List.length_cons] at hsk; omega
        simp (disch := first | assumption | omega) only [kb_X11_comesTo_180, kb_X11_comesTo_86, kb_X11_comesTo_12, KL, KB, KC, KI, KJ, KZ, bI_0, bI_n, nI00, nI10, ne_eq, Classical.not_not, not_true_eq_false, not_false_eq_true, if_true, if_false, ite_not, ite_self, Bool.false_eq_true, nIne1, List.cons_append, List.nil_append, kMask, mask, hle, O_mo, AR, nI_mul, nI_add, ho, q1, q2, eq_self, List.length_cons, nI_sub, Nat.add_sub_cancel, htop]
        exact go _ _ _ (fun a ha => by rw [uN ha]; exact h1 a ha) (h2.tail.put _)
    · have hb : isBin z.1 ∧ ∃ a c sk', sk = a :: c :: sk' := by
        rcases hbin with ⟨hs, t', rfl, rfl⟩ | ⟨hs, t', rfl, rfl⟩ | ⟨hs, t', rfl, rfl⟩
        all_goals
          refine ⟨by unfold isBin; omega, ?_⟩
          match sk, h3 with
          | a :: c :: sk, _ => exact ⟨a, c, sk, rfl⟩
      obtain ⟨hb, a, c, sk, rfl⟩ := hb
      have hj := fun h => m_both z hb c a h
      rw [opS_bin F z a c sk hb] at go
      unfold isBin at hb
      have q1 : (nI 17 ≤ nI z.1) = True := by rw [nIle (by omega) (by omega)]; exact eq_true (by omega)
      have q2 : (nI z.1 = nI 20) = False := by rw [nIeq (by omega) (by omega)]; exact eq_false (by omega)
      have q3 : (nI z.1 = nI 24) = False := by rw [nIeq (by omega) (by omega)]; exact eq_false (by omega)
      have hb64 : sk.length + 1 < 60 := by rw [List.length_cons, List.length_cons] at hsk; omega
      have htop : g1 194 (sk.length + 1) = a := h2.top
      have hsec : g1 194 sk.length = c := h2.tail.top
      simp (disch := first | assumption | omega) only [kb_X11_comesTo_180, kb_X11_comesTo_86, kb_X11_comesTo_12, KL, KB, KC, KI, KJ, KZ, bI_0, bI_n, nI00, nI10, ne_eq, Classical.not_not, not_true_eq_false, not_false_eq_true, if_true, if_false, ite_not, ite_self, Bool.false_eq_true, nIne1, List.cons_append, List.nil_append, kMask, mask, hle, O_mo, AR, nI_mul, nI_add, ho, q1, q2, q3, List.length_cons, nIdec, nI_sub, Nat.add_sub_cancel, htop, hsec, hj]
      exact go _ _ _ (fun a ha => by rw [uN ha]; exact h1 a ha) (h2.tail.tail.put _)
