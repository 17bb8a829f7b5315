-- ===== judge =====
/-- carts of the set k are taken away on both sides -/
theorem RT.take {j : Nat} {g g' : GG} {m o m' o' c n k : Nat} (hR : RT j g m o) (hc : c < 6) (hx : XRn g (17 + 10 * c) 189 (10 + 560 * c) n j) (h0 : ∀ a, (a < 77 ∨ 81 < a) → (a < 161 ∨ 171 < a) → (a < 184 ∨ 189 < a) → (a < 194 ∨ 211 < a) → a ≠ 17 + 10 * c + 2 → g' a = g a) (h7 : ∀ i, i = 2 ∨ i = 10 ∨ i = 17 ∨ i = 19 ∨ i = 33 ∨ i = 34 ∨ i = 35 → g' 188 i = g 188 i) (h1 : ∀ i, g' (17 + 10 * c + 2) i = if i < n ∧ k.testBit i = true then -1 else g (17 + 10 * c + 2) i) (h2 : ∀ r, r < n → k.testBit r = true → g' 189 (10 + 560 * c + 92 * r + 18) = nI 0) (h3 : ∀ i, (∀ r, r < n → k.testBit r = true → i ≠ 10 + 560 * c + 92 * r + 18) → g' 189 i = g 189 i) : RT (j + 1) g' m' o' := by
  obtain ⟨n3, n6, en, em, fFa, fCa, fCo, fRo, fCt, fTo, fLi⟩ := id hx
  have z : ∀ a, a ≤ 76 → a ≠ 17 + 10 * c + 2 → g' a = g a := fun a p q => h0 a (by omega) (by omega) (by omega) (by omega) q
  have z8 : ∀ i, (i < 10 + 560 * c ∨ 10 + 560 * c + 560 ≤ i) → g' 189 i = g 189 i := fun i hi => h3 i (fun r hr _ => by omega)
  have z8' : ∀ r t, r < 6 → t < 92 → t ≠ 18 → g' 189 (10 + 560 * c + 92 * r + t) = g 189 (10 + 560 * c + 92 * r + t) := fun r t hr ht h18 => h3 _ (fun r' hr' _ => by
    intro q
    rcases Nat.lt_trichotomy r r' with h | h | h
    · omega
    · subst h; omega
    · omega)
  refine hR.put (n := n) hc ⟨n3, n6, by rw [z _ (by omega) (by omega)]; exact en, by rw [h3 _ (fun r hr _ => by omega)]; exact em, fFa.congr (fun i hi => by rw [z _ (by omega) (by omega)]) (fun r2 hr2 t ht => z8' r2 t hr2 (by omega) (by omega)), fun r hr => ?_, fCo.congr (fun i hi => by rw [z _ (by omega) (by omega)]) (fun i hi => by rw [z _ (by omega) (by omega)]) (fun r2 hr2 t _ _ => z8' r2 t hr2 (by omega) (by omega)), fRo.congr (fun i hi => by rw [z _ (by omega) (by omega)]) (fun i hi => by rw [z _ (by omega) (by omega)]) (fun r2 hr2 t _ _ => z8' r2 t hr2 (by omega) (by omega)), fCt.congr (by omega) (fun i hi => by rw [z _ (by omega) (by omega)]) (fun r2 hr2 t _ _ => z8' r2 t hr2 (by omega) (by omega)), fTo.congr (by omega) (fun i hi => by rw [z _ (by omega) (by omega)]) (fun t _ _ => h3 _ (fun r hr _ => by omega)), fLi.congr (fun i hi => by rw [z _ (by omega) (by omega)]) (fun r2 hr2 t _ _ => z8' r2 t hr2 (by omega) (by omega))⟩ (fun a p q => ?_) (fun i _ hi => z8 i (by omega)) (h0 _ (by omega) (by omega) (by omega) (by omega) (by omega)) (h0 _ (by omega) (by omega) (by omega) (by omega) (by omega)) h7
  · by_cases hk : r < n ∧ k.testBit r = true
    · exact ⟨none, by rw [h1, if_pos hk], h2 r hk.1 hk.2⟩
    · obtain ⟨cc, hcc⟩ := fCa r hr
      refine ⟨cc, hcc.congr hr (by omega) (fun t ht => ?_) (fun t h18 h24 => ?_)⟩
      · by_cases ht0 : t = 0
        · subst ht0
          rw [h1, if_neg (by rw [Nat.mul_zero, Nat.zero_add]; exact hk)]
        · rw [h1, if_neg (fun e => by omega)]
      · by_cases ht : t = 18
        · subst ht
          exact h3 _ (fun r' hr' hb => by
            intro q
            have : r' = r := by omega
            subst this
            exact hk ⟨hr', hb⟩)
        · exact z8' r t hr (by omega) ht
  · exact h0 a (by omega) (by omega) (by omega) (by omega) (by omega)
theorem m_judge90 (g : GG) (m o c n k : Nat) (hc : c < 6) (n6 : n ≤ 6) (hk : k < 64) (en : g 188 20 = nI n) (v : Value) : ∃ g', kl_X11_judge_90 [.ref 188, .int (nI c), .int (nI k), v, .int (-1), .int (nI 0)] [] (hp g m o) = some (some (.int (-1)), hp g' m o) ∧ (∀ a, a ≠ 189 → g' a = g a) ∧ (∀ r, r < n → k.testBit r = true → g' 189 (10 + 560 * c + 92 * r + 18) = nI 0) ∧ (∀ i, (∀ r, r < n → k.testBit r = true → i ≠ 10 + 560 * c + 92 * r + 18) → g' 189 i = g 189 i) := by
  unfold kl_X11_judge_90
  refine kFor n (by unfold FU; omega) (fun i ls h => ∃ g' v, ls = [.ref 188, .int (nI c), .int (nI k), v, .int (-1), .int (nI i)] ∧ h = hp g' m o ∧ (∀ a, a ≠ 189 → g' a = g a) ∧ (∀ r, r < i → k.testBit r = true → g' 189 (10 + 560 * c + 92 * r + 18) = nI 0) ∧ (∀ t, (∀ r, r < i → k.testBit r = true → t ≠ 10 + 560 * c + 92 * r + 18) → g' 189 t = g 189 t)) (fun r => ∃ g', r = some (some (.int (-1)), hp g' m o) ∧ (∀ a, a ≠ 189 → g' a = g a) ∧ (∀ r, r < n → k.testBit r = true → g' 189 (10 + 560 * c + 92 * r + 18) = nI 0) ∧ (∀ i, (∀ r, r < n → k.testBit r = true → i ≠ 10 + 560 * c + 92 * r + 18) → g' 189 i = g 189 i)) ?_ ?_ 0 _ _ (by omega) ⟨g, v, rfl, rfl, fun _ _ => rfl, fun r hr => by omega, fun _ _ => rfl⟩
  · rintro s0 ls h ⟨g', v, rfl, rfl, h1, h2, h3⟩
    have e : g' 188 20 = nI n := by rw [h1 188 (by omega)]; exact en
    have hin : (n ≤ n) = True := eq_true (by omega)
    simp (disch := first | assumption | omega) only [f_X11_judge, kb_X11_judge_27, kb_X11_judge_131, kb_X11_judge_125, kb_X11_judge_74, kb_X11_judge_0, KL, KB, KC, KI, KJ, KZ, bI_0, bI_n, nI00, nI10, ne_eq, Classical.not_not, not_true_eq_false, not_false_eq_true, if_true, if_false, ite_not, ite_self, Bool.false_eq_true, nIne1, kMask, mask, O_mo, e, nIle, hin]
    exact ⟨g', rfl, h1, h2, h3⟩
  · rintro s0 i hi ih ls h ⟨g', v, rfl, rfl, h1, h2, h3⟩
    have e : g' 188 20 = nI n := by rw [h1 188 (by omega)]; exact en
    have hin : (n ≤ i) = False := eq_false (by omega)
    cases t : k.testBit i with
    | true =>
      have hb : ((k >>> i).testBit 0 = true) = True := by rw [Nat.testBit_shiftRight, Nat.add_zero, t]; simp
      simp (disch := first | assumption | omega) only [f_X11_judge, kb_X11_judge_27, kb_X11_judge_131, kb_X11_judge_125, kb_X11_judge_74, kb_X11_judge_0, KL, KB, KC, KI, KJ, KZ, bI_0, bI_n, nI00, nI10, ne_eq, Classical.not_not, not_true_eq_false, not_false_eq_true, if_true, if_false, ite_not, ite_self, Bool.false_eq_true, nIne1, kMask, mask, O_mo, e, nIle, hin, nI_shr, nI_and, bit1, hb, m_set0, nI_add]
      refine ih _ _ ⟨upd2 g' 189 (10 + 560 * c + 92 * i + 18) (nI 0), _, rfl, rfl, fun a ha => by rw [uN ha]; exact h1 a ha, fun r hr hb => ?_, fun t ht => ?_⟩
      · by_cases q : r = i
        · subst q; exact uS
        · rw [uO (by omega)]; exact h2 r (by omega) hb
      · rw [uO (Or.inr (ht i (by omega) (by assumption)))]
        exact h3 t (fun r hr hb => ht r (by omega) hb)
    | false =>
      have hb : ((k >>> i).testBit 0 = true) = False := by rw [Nat.testBit_shiftRight, Nat.add_zero, t]; simp
      simp (disch := first | assumption | omega) only [f_X11_judge, kb_X11_judge_27, kb_X11_judge_131, kb_X11_judge_125, kb_X11_judge_74, kb_X11_judge_0, KL, KB, KC, KI, KJ, KZ, bI_0, bI_n, nI00, nI10, ne_eq, Classical.not_not, not_true_eq_false, not_false_eq_true, if_true, if_false, ite_not, ite_self, Bool.false_eq_true, nIne1, kMask, mask, O_mo, e, nIle, hin, nI_shr, nI_and, bit1, hb, nI_add]
      refine ih _ _ ⟨g', _, rfl, rfl, h1, fun r hr hb' => ?_, fun t ht => h3 t (fun r hr hb => ht r (by omega) hb)⟩
      by_cases q : r = i
      · subst q; rw [t] at hb'; cases hb'
      · exact h2 r (by omega) hb'
theorem m_judge90x (g : GG) (m o n : Nat) (c k f : Int32) (n1 : 0 < n) (n6 : n ≤ 6) (en : g 188 20 = nI n) (hf : ¬ f = -1) (v : Value) : kl_X11_judge_90 [.ref 188, .int c, .int k, v, .int f, .int (nI 0)] [] (hp g m o) = some (some (.int f), hp g m o) := by
  unfold kl_X11_judge_90
  refine kFor n (by unfold FU; omega) (fun i ls h => ∃ v, i = 0 ∧ ls = [.ref 188, .int c, .int k, v, .int f, .int (nI 0)] ∧ h = hp g m o) (fun r => r = some (some (.int f), hp g m o)) ?_ ?_ 0 _ _ (by omega) ⟨v, rfl, rfl, rfl⟩
  · rintro s0 ls h ⟨v, hi, rfl, rfl⟩
    omega
  · rintro s0 i hi ih ls h ⟨v, rfl, rfl, rfl⟩
    have hin : (n ≤ 0) = False := eq_false (by omega)
    simp (disch := first | assumption | omega) only [f_X11_judge, kb_X11_judge_27, kb_X11_judge_131, kb_X11_judge_125, kb_X11_judge_74, kb_X11_judge_0, KL, KB, KC, KI, KJ, KZ, bI_0, bI_n, nI00, nI10, ne_eq, Classical.not_not, not_true_eq_false, not_false_eq_true, if_true, if_false, ite_not, ite_self, Bool.false_eq_true, nIne1, kMask, mask, O_mo, en, nIle, hin, hf]
theorem m_judge43 (g : GG) (m o c n k G : Nat) (tt : Nat → Nat) (hc : c < 6) (n6 : n ≤ 6) (hk : k < 64) (hG : G < 64) (en : g 188 20 = nI n) (ht : (∀ r, r < n → k.testBit r = true → G.testBit r = true) → ∀ r, r < n → k.testBit r = true → g 200 r = nI (tt r) ∧ tt r < 6) : (∃ t, t < n ∧ k.testBit t = true ∧ G.testBit t = false ∧ (∀ u, u < t → (k.testBit u && !G.testBit u) = false) ∧ kl_X11_judge_43 [.ref 188, .int (nI c), .int (nI k), .int (nI G), .int (nI 0)] [] (hp g m o) = some (some (.int (nI t)), hp g m o)) ∨ ((∀ r, r < n → k.testBit r = true → G.testBit r = true) ∧ kl_X11_judge_43 [.ref 188, .int (nI c), .int (nI k), .int (nI G), .int (nI 0)] [] (hp g m o) = kl_X11_judge_90 [.ref 188, .int (nI c), .int (nI k), .int (nI G), .int (ffJ n k (fun x y => wayB x (tt x) y (tt y))), .int (nI 0)] [] (hp g m o)) := by
  have key : ∀ (i : Nat), i ≤ n → (∀ u, u < i → (k.testBit u && !G.testBit u) = false) → (fun r : RS => (∃ t, t < n ∧ k.testBit t = true ∧ G.testBit t = false ∧ (∀ u, u < t → (k.testBit u && !G.testBit u) = false) ∧ r = some (some (.int (nI t)), hp g m o)) ∨ ((∀ r, r < n → k.testBit r = true → G.testBit r = true) ∧ r = kl_X11_judge_90 [.ref 188, .int (nI c), .int (nI k), .int (nI G), .int (ffJ n k (fun x y => wayB x (tt x) y (tt y))), .int (nI 0)] [] (hp g m o))) (kl_X11_judge_43 [.ref 188, .int (nI c), .int (nI k), .int (nI G), .int (nI i)] [] (hp g m o)) := by
    intro i0 hi0 hu
    unfold kl_X11_judge_43
    refine kFor n (by unfold FU; omega) (fun i ls h => ls = [.ref 188, .int (nI c), .int (nI k), .int (nI G), .int (nI i)] ∧ h = hp g m o ∧ (∀ u, u < i → (k.testBit u && !G.testBit u) = false)) (fun r : RS => (∃ t, t < n ∧ k.testBit t = true ∧ G.testBit t = false ∧ (∀ u, u < t → (k.testBit u && !G.testBit u) = false) ∧ r = some (some (.int (nI t)), hp g m o)) ∨ ((∀ r, r < n → k.testBit r = true → G.testBit r = true) ∧ r = kl_X11_judge_90 [.ref 188, .int (nI c), .int (nI k), .int (nI G), .int (ffJ n k (fun x y => wayB x (tt x) y (tt y))), .int (nI 0)] [] (hp g m o))) ?_ ?_ i0 _ _ hi0 ⟨rfl, rfl, hu⟩
    · rintro s0 ls h ⟨rfl, rfl, h1⟩
      have hin : (n ≤ n) = True := eq_true (by omega)
      have hsub : ∀ r, r < n → k.testBit r = true → G.testBit r = true := fun r hr hb => by
        have := h1 r hr
        rw [hb, Bool.true_and] at this
        cases h : G.testBit r with
        | true => rfl
        | false => rw [h] at this; cases this
      have e6 := m_firstF (m := m) (o := o) (tt := tt) en n6 hk (ht hsub)
      refine Or.inr ⟨hsub, ?_⟩
      simp (disch := first | assumption | omega) only [f_X11_judge, kb_X11_judge_27, kb_X11_judge_131, kb_X11_judge_125, kb_X11_judge_74, kb_X11_judge_0, KL, KB, KC, KI, KJ, KZ, bI_0, bI_n, nI00, nI10, ne_eq, Classical.not_not, not_true_eq_false, not_false_eq_true, if_true, if_false, ite_not, ite_self, Bool.false_eq_true, nIne1, kMask, mask, O_mo, en, nIle, hin, e6]
    · rintro s0 i hi ih ls h ⟨rfl, rfl, h1⟩
      have hin : (n ≤ i) = False := eq_false (by omega)
      cases t : k.testBit i with
      | false =>
        have hb : ((k >>> i).testBit 0 = true) = False := by rw [Nat.testBit_shiftRight, Nat.add_zero, t]; simp
        simp (disch := first | assumption | omega) only [f_X11_judge, kb_X11_judge_27, kb_X11_judge_131, kb_X11_judge_125, kb_X11_judge_74, kb_X11_judge_0, KL, KB, KC, KI, KJ, KZ, bI_0, bI_n, nI00, nI10, ne_eq, Classical.not_not, not_true_eq_false, not_false_eq_true, if_true, if_false, ite_not, ite_self, Bool.false_eq_true, nIne1, kMask, mask, O_mo, en, nIle, hin, nI_shr, nI_and, bit1, hb, nI_add]
        refine ih _ _ ⟨rfl, rfl, fun u hu => ?_⟩
        by_cases q : u = i
        · subst q; rw [t]; rfl
        · exact h1 u (by omega)
      | true =>
        have hb : ((k >>> i).testBit 0 = true) = True := by rw [Nat.testBit_shiftRight, Nat.add_zero, t]; simp
        cases t2 : G.testBit i with
        | true =>
          have hb2 : ((G >>> i).testBit 0 = false) = False := by rw [Nat.testBit_shiftRight, Nat.add_zero, t2]; simp
          simp (disch := first | assumption | omega) only [f_X11_judge, kb_X11_judge_27, kb_X11_judge_131, kb_X11_judge_125, kb_X11_judge_74, kb_X11_judge_0, KL, KB, KC, KI, KJ, KZ, bI_0, bI_n, nI00, nI10, ne_eq, Classical.not_not, not_true_eq_false, not_false_eq_true, if_true, if_false, ite_not, ite_self, Bool.false_eq_true, nIne1, kMask, mask, O_mo, en, nIle, hin, nI_shr, nI_and, bit1, hb, bit0, hb2, nI_add]
          refine ih _ _ ⟨rfl, rfl, fun u hu => ?_⟩
          by_cases q : u = i
          · subst q; rw [t, t2]; rfl
          · exact h1 u (by omega)
        | false =>
          have hb2 : ((G >>> i).testBit 0 = false) = True := by rw [Nat.testBit_shiftRight, Nat.add_zero, t2]; simp
          refine Or.inl ⟨i, hi, t, t2, h1, ?_⟩
          simp (disch := first | assumption | omega) only [f_X11_judge, kb_X11_judge_27, kb_X11_judge_131, kb_X11_judge_125, kb_X11_judge_74, kb_X11_judge_0, KL, KB, KC, KI, KJ, KZ, bI_0, bI_n, nI00, nI10, ne_eq, Classical.not_not, not_true_eq_false, not_false_eq_true, if_true, if_false, ite_not, ite_self, Bool.false_eq_true, nIne1, kMask, mask, O_mo, en, nIle, hin, nI_shr, nI_and, bit1, hb, bit0, hb2]
  exact key 0 (by omega) (fun u hu => by omega)
theorem shl1 {n : Nat} (n3 : 3 ≤ n) (n6 : n ≤ 6) : ∃ P, 1 <<< n = P ∧ P = 2 ^ n ∧ 8 ≤ P ∧ P ≤ 64 := by
  refine ⟨1 <<< n, rfl, Nat.one_shiftLeft n, ?_, ?_⟩
  · rw [Nat.one_shiftLeft]; exact (Nat.pow_le_pow_right (by omega) n3 : 2 ^ 3 ≤ 2 ^ n)
  · rw [Nat.one_shiftLeft]; exact (Nat.pow_le_pow_right (by omega) n6 : 2 ^ n ≤ 2 ^ 6)
theorem subN_bit (a b i : Nat) : (a ^^^ (a &&& b)).testBit i = (a.testBit i && !b.testBit i) := by
  rw [Nat.testBit_xor, Nat.testBit_and]
  cases a.testBit i <;> cases b.testBit i <;> rfl
theorem subN_lt {a b n : Nat} (h : a < 2 ^ n) : a ^^^ (a &&& b) < 2 ^ n := by
  apply Nat.lt_pow_two_of_testBit
  intro i hi
  rw [subN_bit, Nat.testBit_lt_two_pow (Nat.lt_of_lt_of_le h (Nat.pow_le_pow_right (by omega) hi)), Bool.false_and]
theorem ag_judge (a0 a1 : Int32) : Ag RT f_X10_judge f_X11_judge [.int a0, .int a1] := by
  intro j g m o hj hR
  rcases in_cases a0 5 (by decide) with ⟨c, hc, rfl⟩ | h0
  · have hc6 : c < 6 := by omega
    have hX := isX_live c hc6
    have hyc : (nI 0 ≤ nI c ∧ nI c ≤ nI 5) = True := eq_true (in_yes hc (by omega))
    obtain ⟨n, hx⟩ := hR.at hc6
    obtain ⟨n3, n6, en, em, -⟩ := id hx
    obtain ⟨P, hP, hP2, P8, P64⟩ := shl1 n3 n6
    rcases in_cases a1 (P - 1) (by omega) with ⟨k, hk, rfl⟩ | h1
    · by_cases hk0 : k = 0
      · subst hk0
        have hle : (nI 0 ≤ 0) = True := eq_true (by decide)
        have hno : (nI 1 ≤ nI 0 ∧ nI 0 ≤ nI (P - 1)) = False := eq_false (fun q => absurd q.1 (by decide))
        refine ⟨-2, g, m, o, g, ?_, ?_, RT_mono _ _ _ _ hR⟩
        · simp (disch := first | assumption | omega) only [f_X10_judge, kb_X10_judge_24, kb_X10_judge_75, kb_X10_judge_0, KL, KB, KC, KI, KJ, KZ, bI_0, bI_n, nI00, nI10, ne_eq, Classical.not_not, not_true_eq_false, not_false_eq_true, if_true, if_false, ite_not, ite_self, Bool.false_eq_true, nIne1, O_fp, XO, c_at g m o c hc6, hle]
        · simp (disch := first | assumption | omega) only [f_X11_judge, kb_X11_judge_27, kb_X11_judge_131, kb_X11_judge_125, kb_X11_judge_74, kb_X11_judge_0, KL, KB, KC, KI, KJ, KZ, bI_0, bI_n, nI00, nI10, ne_eq, Classical.not_not, not_true_eq_false, not_false_eq_true, if_true, if_false, ite_not, ite_self, Bool.false_eq_true, nIne1, O_mo, m_isCrossing, m_isIn, hyc, m_own, em, nI_shl, hP, nI_sub, hno]
      · have hle : (nI k ≤ 0) = False := by rw [nIle0 (by omega)]; exact eq_false hk0
        have hlt : (nI k < nI P) = True := by rw [nIlt (by omega) (by omega)]; exact eq_true (by omega)
        have hyes : (nI 1 ≤ nI k ∧ nI k ≤ nI (P - 1)) = True := by rw [nIle (by omega) (by omega), nIle (by omega) (by omega)]; exact eq_true (by omega)
        have k64 : k < 64 := by omega
        have kP : k < 2 ^ n := by omega
        obtain ⟨s, ct, sz, sl, sg, kx, rx, hs, hm, hC, hlay⟩ := hR.snap hj hc6 hx
        have hset := x_cartSet (m := m) (o := o) hX (hC.cl n6) (by omega) n6 hs
        obtain ⟨g1, e1, p1⟩ := c_goers (m := m) (o := o) (mean := 0) hX (fun g' hg => (hC.sc (by omega) hg).1) n6 (lt64 hs n6) (hC.cw (m := m) (o := o) (mean := 0) hX (by omega) (by omega) n3 n6 (by omega)) g SC.rfl'
        have G64 : goS n s (wV n ct sz sl sg rx 0) < 64 := goS_lt64 n6
        have hcl1 := (hC.sc (by omega) p1).cl n6
        generalize hG : goS n s (wV n ct sz sl sg rx 0) = G at *
        have hGs : ∀ r, G.testBit r = true → s.testBit r = true := fun r h => goS_sub r (by rw [hG]; exact h)
        -- the class's way and the model's way, from a state that differs from g in what KEEP leaves free
        have u64 := subN_lt (b := G) kP
        have U64 : k ^^^ (k &&& G) < 64 := lt64 u64 n6
        by_cases hu : k ^^^ (k &&& G) = 0
        · have hsub : ∀ r, k.testBit r = true → G.testBit r = true := fun r hb => by
            have := subN_bit k G r
            rw [hu, Nat.zero_testBit, hb, Bool.true_and] at this
            cases h : G.testBit r with
            | true => rfl
            | false => rw [h] at this; cases this
          have hz : (nI (k ^^^ (k &&& G)) = 0) = True := by rw [hu]; exact eq_true rfl
          have e5 := c_firstF (m := m) (o := o) (tt := fun r => (ct r).1.1) hX (hC.sc (by omega) p1).1 n6 k64 (fun r hr hb => (hcl1.2 r hr).1 (hGs r (hsub r hb)))
          by_cases hf : ffJ n k (fun x y => wayB x (ct x).1.1 y (ct y).1.1) = -1
          · obtain ⟨g1', t1, t2, t3⟩ := x_takeAway (g := g1) (m := m) (o := o) hX (hC.sc (by omega) p1).1 n6 k64
            have z198 : g1' 189 = g 189 := by rw [t2 189 (by omega), p1 189 (by omega) (by omega)]
            have z197 : g1' 188 = g 188 := by rw [t2 188 (by omega), p1 188 (by omega) (by omega)]
            obtain ⟨g2, e2, q1, q2, hML, hMS⟩ := hlay g1' z198
            have z97 : ∀ i, i ≠ 20 → g2 188 i = g 188 i := fun i hi => (q2 i hi).trans (by rw [z197])
            have hM := hMS 0 (by omega) g2 (fun _ _ => rfl) hML.1 (by rw [z97 33 (by omega)]; exact hR.2.2.2.2.2.2.1) (by rw [z97 34 (by omega)]; exact hR.2.2.2.2.2.2.2.1) (by rw [z97 35 (by omega)]; exact hR.2.2.2.2.2.2.2.2)
            obtain ⟨g3, e3, p3⟩ := m_goers (m := m) (o := o) hML n6 (hM.mw (m := m) (o := o) n3 n6 (by omega)) _ SM.rfl'
            rw [hG] at e3
            have hM3 := hM.sm (g' := g3) (fun a h1 h2 _ => p3 a h1 h2)
            rcases m_judge43 g3 m o c n k G (fun r => (ct r).1.1) hc6 n6 k64 G64 hM3.1 (fun hs r hr hb => hM3.tt n6 r hr (hGs r (hs r hr hb))) with ⟨t, -, b1, b2, -⟩ | ⟨-, e7⟩
            · rw [hsub t b1] at b2; cases b2
            · obtain ⟨g4, e8, r1, r2, r3⟩ := m_judge90 g3 m o c n k hc6 n6 k64 hM3.1 (.int (nI G))
              have em1 : g1' 189 (10 + 560 * c + 552) = nI n := by rw [z198]; exact em
              refine ⟨-1, g1', m, o, g4, ?_, ?_, hR.take (k := k) hc6 hx (fun a a1 a2 a3 a4 a5 => ?_) (fun i hi => ?_) (fun i => ?_) r2 (fun i hi => ?_)⟩
              · simp (disch := first | assumption | omega) only [f_X10_judge, kb_X10_judge_24, kb_X10_judge_75, kb_X10_judge_0, KL, KB, KC, KI, KJ, KZ, bI_0, bI_n, nI00, nI10, ne_eq, Classical.not_not, not_true_eq_false, not_false_eq_true, if_true, if_false, ite_not, ite_self, Bool.false_eq_true, nIne1, O_fp, XO, O_st, c_at g m o c hc6, hle, en, nI_shl, hP, hlt, hset, e1, nI_andn, hz, e5, hf, eq_self, t1]
              · simp (disch := first | assumption | omega) only [f_X11_judge, kb_X11_judge_27, kb_X11_judge_131, kb_X11_judge_125, kb_X11_judge_74, kb_X11_judge_0, KL, KB, KC, KI, KJ, KZ, bI_0, bI_n, nI00, nI10, ne_eq, Classical.not_not, not_true_eq_false, not_false_eq_true, if_true, if_false, ite_not, ite_self, Bool.false_eq_true, nIne1, O_mo, m_isCrossing, m_isIn, hyc, m_own, em1, nI_shl, hP, nI_sub, hyes, e2, e3, e7, hf, e8]
              · rw [r1 a (by omega), p3 a (by omega) (by omega), q1 a (by omega) (by omega), t2 a (by omega), p1 a (by omega) (by omega)]
              · rw [r1 188 (by omega), p3 188 (by omega) (by omega)]; exact z97 i (by omega)
              · rw [r1 _ (by omega), p3 _ (by omega) (by omega), q1 _ (by omega) (by omega), t3, p1 _ (by omega) (by omega)]
              · rw [r3 i hi, p3 189 (by omega) (by omega), q1 189 (by omega) (by omega), z198]
          · obtain ⟨g2, e2, q1, q2, hML, hMS⟩ := hlay g1 (p1 189 (by omega) (by omega))
            have z97 : ∀ i, i ≠ 20 → g2 188 i = g 188 i := fun i hi => (q2 i hi).trans (by rw [p1 188 (by omega) (by omega)])
            have hM := hMS 0 (by omega) g2 (fun _ _ => rfl) hML.1 (by rw [z97 33 (by omega)]; exact hR.2.2.2.2.2.2.1) (by rw [z97 34 (by omega)]; exact hR.2.2.2.2.2.2.2.1) (by rw [z97 35 (by omega)]; exact hR.2.2.2.2.2.2.2.2)
            obtain ⟨g3, e3, p3⟩ := m_goers (m := m) (o := o) hML n6 (hM.mw (m := m) (o := o) n3 n6 (by omega)) _ SM.rfl'
            rw [hG] at e3
            have hM3 := hM.sm (g' := g3) (fun a h1 h2 _ => p3 a h1 h2)
            rcases m_judge43 g3 m o c n k G (fun r => (ct r).1.1) hc6 n6 k64 G64 hM3.1 (fun hs r hr hb => hM3.tt n6 r hr (hGs r (hs r hr hb))) with ⟨t, -, b1, b2, -⟩ | ⟨-, e7⟩
            · rw [hsub t b1] at b2; cases b2
            · have e8 := m_judge90x g3 m o n (nI c) (nI k) (ffJ n k (fun x y => wayB x (ct x).1.1 y (ct y).1.1)) (by omega) n6 hM3.1 hf (.int (nI G))
              have em1 : g1 189 (10 + 560 * c + 552) = nI n := by rw [p1 189 (by omega) (by omega)]; exact em
              refine ⟨ffJ n k (fun x y => wayB x (ct x).1.1 y (ct y).1.1), g1, m, o, g3, ?_, ?_, hR.keep (lay_fin p1 q1 q2 p3)⟩
              · simp (disch := first | assumption | omega) only [f_X10_judge, kb_X10_judge_24, kb_X10_judge_75, kb_X10_judge_0, KL, KB, KC, KI, KJ, KZ, bI_0, bI_n, nI00, nI10, ne_eq, Classical.not_not, not_true_eq_false, not_false_eq_true, if_true, if_false, ite_not, ite_self, Bool.false_eq_true, nIne1, O_fp, XO, O_st, c_at g m o c hc6, hle, en, nI_shl, hP, hlt, hset, e1, nI_andn, hz, e5, hf]
              · simp (disch := first | assumption | omega) only [f_X11_judge, kb_X11_judge_27, kb_X11_judge_131, kb_X11_judge_125, kb_X11_judge_74, kb_X11_judge_0, KL, KB, KC, KI, KJ, KZ, bI_0, bI_n, nI00, nI10, ne_eq, Classical.not_not, not_true_eq_false, not_false_eq_true, if_true, if_false, ite_not, ite_self, Bool.false_eq_true, nIne1, O_mo, m_isCrossing, m_isIn, hyc, m_own, em1, nI_shl, hP, nI_sub, hyes, e2, e3, e7, e8]
        · have hz : (nI (k ^^^ (k &&& G)) = 0) = False := by rw [nIk0 (by omega)]; exact eq_false hu
          have e5 := fun h => c_least6 (k ^^^ (k &&& G)) U64 h
          obtain ⟨g2, e2, q1, q2, hML, hMS⟩ := hlay g1 (p1 189 (by omega) (by omega))
          have z97 : ∀ i, i ≠ 20 → g2 188 i = g 188 i := fun i hi => (q2 i hi).trans (by rw [p1 188 (by omega) (by omega)])
          have hM := hMS 0 (by omega) g2 (fun _ _ => rfl) hML.1 (by rw [z97 33 (by omega)]; exact hR.2.2.2.2.2.2.1) (by rw [z97 34 (by omega)]; exact hR.2.2.2.2.2.2.2.1) (by rw [z97 35 (by omega)]; exact hR.2.2.2.2.2.2.2.2)
          obtain ⟨g3, e3, p3⟩ := m_goers (m := m) (o := o) hML n6 (hM.mw (m := m) (o := o) n3 n6 (by omega)) _ SM.rfl'
          rw [hG] at e3
          have hM3 := hM.sm (g' := g3) (fun a h1 h2 _ => p3 a h1 h2)
          have em1 : g1 189 (10 + 560 * c + 552) = nI n := by rw [p1 189 (by omega) (by omega)]; exact em
          rcases m_judge43 g3 m o c n k G (fun r => (ct r).1.1) hc6 n6 k64 G64 hM3.1 (fun hs r hr hb => hM3.tt n6 r hr (hGs r (hs r hr hb))) with ⟨t, ht, b1, b2, b3, e7⟩ | ⟨hs', -⟩
          · have hv : firstJ (fun r => (k ^^^ (k &&& G)).testBit r) 6 0 = nI t := by
              rcases firstJ_cases (fun r => (k ^^^ (k &&& G)).testBit r) 6 0 with ⟨-, f⟩ | ⟨u, -, u2, u3, u4, u5⟩
              · have := f t (by omega) (by omega)
                rw [subN_bit, b1, b2] at this
                cases this
              · rw [u4]
                suffices hut : u = t by rw [hut]
                rcases Nat.lt_trichotomy t u with h | h | h
                · have := u5 t (by omega) h
                  rw [subN_bit, b1, b2] at this
                  cases this
                · exact h.symm
                · have := b3 u h
                  rw [subN_bit, this] at u3
                  cases u3
            refine ⟨nI t, g1, m, o, g3, ?_, ?_, hR.keep (lay_fin p1 q1 q2 p3)⟩
            · simp (disch := first | assumption | omega) only [f_X10_judge, kb_X10_judge_24, kb_X10_judge_75, kb_X10_judge_0, KL, KB, KC, KI, KJ, KZ, bI_0, bI_n, nI00, nI10, ne_eq, Classical.not_not, not_true_eq_false, not_false_eq_true, if_true, if_false, ite_not, ite_self, Bool.false_eq_true, nIne1, O_fp, XO, O_st, c_at g m o c hc6, hle, en, nI_shl, hP, hlt, hset, e1, nI_andn, hz, e5, hv]
            · simp (disch := first | assumption | omega) only [f_X11_judge, kb_X11_judge_27, kb_X11_judge_131, kb_X11_judge_125, kb_X11_judge_74, kb_X11_judge_0, KL, KB, KC, KI, KJ, KZ, bI_0, bI_n, nI00, nI10, ne_eq, Classical.not_not, not_true_eq_false, not_false_eq_true, if_true, if_false, ite_not, ite_self, Bool.false_eq_true, nIne1, O_mo, m_isCrossing, m_isIn, hyc, m_own, em1, nI_shl, hP, nI_sub, hyes, e2, e3, e7]
          · exfalso
            apply hu
            apply Nat.eq_of_testBit_eq
            intro i
            rw [subN_bit, Nat.zero_testBit]
            by_cases hi : i < n
            · cases hb : k.testBit i with
              | false => rfl
              | true => rw [hs' i hi hb]; rfl
            · rw [Nat.testBit_lt_two_pow (Nat.lt_of_lt_of_le kP (Nat.pow_le_pow_right (by omega) (by omega))), Bool.false_and]
    · refine ⟨-2, g, m, o, g, ?_, ?_, RT_mono _ _ _ _ hR⟩
      · by_cases hle0 : a1 ≤ 0
        · have hle : (a1 ≤ 0) = True := eq_true hle0
          simp (disch := first | assumption | omega) only [f_X10_judge, kb_X10_judge_24, kb_X10_judge_75, kb_X10_judge_0, KL, KB, KC, KI, KJ, KZ, bI_0, bI_n, nI00, nI10, ne_eq, Classical.not_not, not_true_eq_false, not_false_eq_true, if_true, if_false, ite_not, ite_self, Bool.false_eq_true, nIne1, O_fp, XO, c_at g m o c hc6, hle]
        · have hle : (a1 ≤ 0) = False := eq_false hle0
          have hlt : (a1 < nI P) = False := eq_false (fun q => h1 ⟨Int32.le_of_lt (Int32.not_le.mp hle0), by
            rw [Int32.le_iff_toInt_le, nI_toInt (by omega)]
            rw [Int32.lt_iff_toInt_lt, nI_toInt (by omega)] at q
            omega⟩)
          simp (disch := first | assumption | omega) only [f_X10_judge, kb_X10_judge_24, kb_X10_judge_75, kb_X10_judge_0, KL, KB, KC, KI, KJ, KZ, bI_0, bI_n, nI00, nI10, ne_eq, Classical.not_not, not_true_eq_false, not_false_eq_true, if_true, if_false, ite_not, ite_self, Bool.false_eq_true, nIne1, O_fp, XO, c_at g m o c hc6, hle, en, nI_shl, hP, hlt]
      · have hno : (nI 1 ≤ a1 ∧ a1 ≤ nI (P - 1)) = False := eq_false (fun q => h1 ⟨Int32.le_trans (show nI 0 ≤ nI 1 by decide) q.1, q.2⟩)
        simp (disch := first | assumption | omega) only [f_X11_judge, kb_X11_judge_27, kb_X11_judge_131, kb_X11_judge_125, kb_X11_judge_74, kb_X11_judge_0, KL, KB, KC, KI, KJ, KZ, bI_0, bI_n, nI00, nI10, ne_eq, Classical.not_not, not_true_eq_false, not_false_eq_true, if_true, if_false, ite_not, ite_self, Bool.false_eq_true, nIne1, O_mo, m_isCrossing, m_isIn, hyc, m_own, em, nI_shl, hP, nI_sub, hno]
  · refine ⟨-2, g, m, o, g, ?_, ?_, RT_mono _ _ _ _ hR⟩
    · simp (disch := first | assumption | omega) only [f_X10_judge, kb_X10_judge_24, kb_X10_judge_75, kb_X10_judge_0, KL, KB, KC, KI, KJ, KZ, bI_0, bI_n, nI00, nI10, ne_eq, Classical.not_not, not_true_eq_false, not_false_eq_true, if_true, if_false, ite_not, ite_self, Bool.false_eq_true, nIne1, O_fp, c_atN g m o a0 h0]
    · simp (disch := first | assumption | omega) only [f_X11_judge, kb_X11_judge_27, kb_X11_judge_131, kb_X11_judge_125, kb_X11_judge_74, kb_X11_judge_0, KL, KB, KC, KI, KJ, KZ, bI_0, bI_n, nI00, nI10, ne_eq, Classical.not_not, not_true_eq_false, not_false_eq_true, if_true, if_false, ite_not, ite_self, Bool.false_eq_true, nIne1, O_mo, m_isCrossing, h0]
