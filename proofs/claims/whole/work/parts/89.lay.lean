-- ===== lay =====
def caL (n k : Nat) (co : Nat → List Goods) (d : Nat → Nat) (r : Nat) : Option ACart := if 0 < d r then some (cG co (xD d r), ordRank n k r, 0, 0) else none
theorem c_putDown {X n k : Nat} {co : Nat → List Goods} {d : Nat → Nat} {g : GG} (hX : isX X) (hX1 : X + 9 < 77) (n3 : 3 ≤ n) (n6 : n ≤ 6) (hC : CO X n co g) (hO : ORD g) (hlen : ∀ r, (co r).length ≤ 2) (hd : DG n co d) (hk : k < ordMany n) : ∃ g', f_X0_putDown [.ref 164, .int (nI (slD d)), .int (nI k)] (hp g X (OO n)) = some (none, hp g' X (OO n)) ∧ (∀ a, a ≠ X + 2 → g' a = g a) ∧ (∀ r, r < n → cartC g' X r (caL n k co d r)) ∧ ∀ i, n ≤ i % 6 → g' (X + 2) i = g (X + 2) i := by
  obtain ⟨o1, o2, o3, o4⟩ := OO_obj n3 n6
  have gr1 : ∀ (g : GG) (k : KK) (ls st : List Value), kGetR 3 3 1 k ls (.ref (OO n) :: st) (hp g X (OO n)) = k ls (.ref (OO n + 1) :: st) (hp g X (OO n)) := fun g k ls st => gr_at o1 (o4 _ _).1 k ls st
  have hk24 := ordMany_le (n := n) n6
  obtain ⟨P, hP, hP2, P8, P64⟩ := shl1 n3 n6
  have en := hC.1
  obtain ⟨g1, t1, t2, t3⟩ := x_takeAway (g := g) (s := P - 1) (m := X) (o := OO n) hX en n6 (by omega)
  have hall : ∀ i, i < n → (P - 1).testBit i = true := fun i hi => by
    rw [hP2, Nat.testBit_two_pow_sub_one]
    exact decide_eq_true hi
  have hs12 : slD d < 4096 := setN_lt12 _
  have hoo : 172 ≤ OO n := by rcases OO_cases n3 n6 with h | h | h | h <;> rw [h] <;> omega
  have key : ∃ g', kl_X0_putDown_20 [.ref 164, .int (nI (slD d)), .int (nI k), .int (nI 0)] [] (hp g1 X (OO n)) = some (none, hp g' X (OO n)) ∧ (∀ a, a ≠ X + 2 → g' a = g1 a) ∧ (∀ r, r < n → cartC g' X r (caL n k co d r)) ∧ ∀ i, n ≤ i % 6 → g' (X + 2) i = g1 (X + 2) i := by
    unfold kl_X0_putDown_20
    refine kFor (2 * n) (by unfold FU; omega) (fun i ls h => ∃ g' : GG, ls = [.ref 164, .int (nI (slD d)), .int (nI k), .int (nI i)] ∧ h = hp g' X (OO n) ∧ (∀ a, a ≠ X + 2 → g' a = g1 a) ∧ (∀ r, r < n → cartC g' X r (if xD d r < i then caL n k co d r else none)) ∧ ∀ i, n ≤ i % 6 → g' (X + 2) i = g1 (X + 2) i) (fun r => ∃ g', r = some (none, hp g' X (OO n)) ∧ (∀ a, a ≠ X + 2 → g' a = g1 a) ∧ (∀ r, r < n → cartC g' X r (caL n k co d r)) ∧ ∀ i, n ≤ i % 6 → g' (X + 2) i = g1 (X + 2) i) ?_ ?_ 0 _ _ (by omega) ⟨g1, rfl, rfl, fun _ _ => rfl, fun r hr => ?_, fun _ _ => rfl⟩
    · rintro s0 ls h ⟨g', rfl, rfl, h1, h2, h3⟩
      have e : g' X 0 = nI n := by rw [h1 X (by omega), t2 X (by omega)]; exact en
      have hin : (2 * n ≤ 2 * n) = True := eq_true (by omega)
      simp (disch := first | assumption | omega) only [KL, KB, KC, KI, KJ, KZ, bI_0, bI_n, nI00, nI10, ne_eq, Classical.not_not, not_true_eq_false, not_false_eq_true, if_true, if_false, ite_not, ite_self, Bool.false_eq_true, nIne1, kMask, mask, O_co, XO, e, nI_mul, nIle, hin]
      refine ⟨g', rfl, h1, fun r hr => ?_, h3⟩
      have := h2 r hr
      have l1 := hd.1 r
      have l2 := hlen r
      rw [if_pos (by unfold xD; omega)] at this
      exact this
    · rintro s0 i hi ih ls h ⟨g', rfl, rfl, h1, h2, h3⟩
      have e : g' X 0 = nI n := by rw [h1 X (by omega), t2 X (by omega)]; exact en
      have hin : (2 * n ≤ i) = False := eq_false (by omega)
      have hb1 : (nI ((slD d >>> i) &&& 1) = 0) = (decide (d (i / 2) = i % 2 + 1) = false) := by
        rw [bit0, Nat.testBit_shiftRight, Nat.add_zero, slD_bit d (by omega)]
      by_cases hb : d (i / 2) = i % 2 + 1
      · have hx' : (decide (d (i / 2) = i % 2 + 1) = false) = False := eq_false (by rw [decide_eq_true hb]; decide)
        have l1 := hd.1 (i / 2)
        have ht : thB co i = true := decide_eq_true (by omega)
        obtain ⟨x1, x2, x3⟩ := thB_lt hC (by omega) ht
        have ex : g' (X + 3) i = nI (goodsN (cG co i)) := by rw [h1 _ (by omega), t2 _ (by omega)]; exact x3
        have i12 : i < 12 := by omega
        have hix : k * 6 + i / 2 < 144 := by omega
        have ia1 : ∀ (kk : KK) (ls st : List Value), kIal kk ls (.int (nI (k * 6 + i / 2)) :: .ref (OO n + 1) :: st) (hp g' X (OO n)) = kk ls (.int (g' (OO n + 1) (k * 6 + i / 2)) :: st) (hp g' X (OO n)) := fun kk ls st => ial_at o2 (by decide) hix kk ls st
        have erk : g' (OO n + 1) (k * 6 + i / 2) = nI (ordRank n k (i / 2)) := by
          rw [h1 _ (by omega), t2 _ (by omega)]
          have := ((hO n n3 n6).2 k hk (i / 2) (by omega)).1
          rw [show OO n + 1 = 173 + 3 * (n - 3) by unfold OO; omega, show k * 6 + i / 2 = 6 * k + i / 2 by omega, this, if_pos x1]
        have ep := x_putCart g' X (OO n) X (i / 2) (cG co i) (nI (ordRank n k (i / 2))) (nI 0) hX (by omega) (by have := x2.1; omega) x2.2.2.1 x2.2.2.2
        simp (disch := first | assumption | omega) only [kb_X0_putDown_77, KL, KB, KC, KI, KJ, KZ, bI_0, bI_n, nI00, nI10, ne_eq, Classical.not_not, not_true_eq_false, not_false_eq_true, if_true, if_false, ite_not, ite_self, Bool.false_eq_true, nIne1, kMask, mask, O_co, XO, AR, e, nI_mul, nIle, hin, nI_shr, nI_and, hb1, hx', nd2, ex, gr1, nI_add, ia1, erk, ep]
        have hxi : xD d (i / 2) = i := slD_x hb
        refine ih _ _ ⟨_, rfl, rfl, fun a ha => by rw [putC_ne ha]; exact h1 a ha, fun r hr => ?_, fun q hq => by rw [putC_at (by omega) (by omega)]; exact h3 q hq⟩
        by_cases q : r = i / 2
        · subst q
          rw [if_pos (by omega)]
          unfold caL
          rw [if_pos (by omega), hxi]
          unfold cartC putC
          simp only []
          refine ⟨?_, ?_, ?_, ?_, ?_, ?_⟩
          all_goals simp (disch := omega) only [upd2_other, upd2_same]
        · have := h2 r hr
          have hne : xD d r ≠ i := fun e => q (by rw [← e]; have := hd.1 r; have := hlen r; unfold xD; omega)
          have hcond : (if xD d r < i + 1 then caL n k co d r else none) = (if xD d r < i then caL n k co d r else none) := by
            by_cases q2 : xD d r < i
            · rw [if_pos q2, if_pos (by omega)]
            · rw [if_neg q2, if_neg (by omega)]
          rw [hcond]
          exact this.congr (fun t ht => by rw [putC_at (by omega) (by omega)])
      · have hx' : (decide (d (i / 2) = i % 2 + 1) = false) = True := eq_true (decide_eq_false hb)
        simp (disch := first | assumption | omega) only [kb_X0_putDown_77, KL, KB, KC, KI, KJ, KZ, bI_0, bI_n, nI00, nI10, ne_eq, Classical.not_not, not_true_eq_false, not_false_eq_true, if_true, if_false, ite_not, ite_self, Bool.false_eq_true, nIne1, kMask, mask, O_co, XO, AR, e, nI_mul, nIle, hin, nI_shr, nI_and, hb1, hx', nI_add]
        refine ih _ _ ⟨g', rfl, rfl, h1, fun r hr => ?_, h3⟩
        have := h2 r hr
        by_cases q : xD d r = i
        · have hd0 : ¬ 0 < d r := fun h0 => hb (by
            have l1 := hd.1 r
            have l2 := hlen r
            have e1 : i / 2 = r := by rw [← q]; unfold xD; omega
            rw [e1, ← q]
            unfold xD
            omega)
          rw [if_neg (by omega)] at this
          rw [if_pos (by omega)]
          unfold caL
          rw [if_neg hd0]
          exact this
        · have hcond : (if xD d r < i + 1 then caL n k co d r else none) = (if xD d r < i then caL n k co d r else none) := by
            by_cases q2 : xD d r < i
            · rw [if_pos q2, if_pos (by omega)]
            · rw [if_neg q2, if_neg (by omega)]
          rw [hcond]
          exact this
    · rw [if_neg (by omega)]
      show g1 (X + 2) r = -1
      rw [t3, if_pos ⟨hr, hall r hr⟩]
  obtain ⟨g', e', w1, w2, w3⟩ := key
  refine ⟨g', ?_, fun a ha => by rw [w1 a ha, t2 a ha], w2, fun i hi => ?_⟩
  · rw [← e']
    simp (disch := first | assumption | omega) only [f_X0_putDown, kb_X0_putDown_0, KL, KB, KC, KI, KJ, KZ, bI_0, bI_n, nI00, nI10, ne_eq, Classical.not_not, not_true_eq_false, not_false_eq_true, if_true, if_false, ite_not, ite_self, Bool.false_eq_true, nIne1, O_co, XO, en, nI_shl, hP, nI_sub, t1]
  · rw [w3 i hi, t3]
    by_cases q : i < n ∧ (P - 1).testBit i = true
    · have := q.1
      omega
    · rw [if_neg q]
theorem m_lay93 {c n k : Nat} {co : Nat → List Goods} {d : Nat → Nat} {g : GG} {m o : Nat} (hc : c < 6) (n3 : 3 ≤ n) (n6 : n ≤ 6) (en : g 188 20 = nI n) (hL : LYK n k co d g) (v : Value) : ∃ g', kl_X11_lay_93 [.ref 188, .int (nI c), v, .int (nI 0)] [] (hp g m o) = some (some (.int (nI 1)), hp g' m o) ∧ (∀ a, a ≠ 189 → g' a = g a) ∧ (∀ r, r < n → cartM g' (10 + 560 * c) r (caL n k co d r)) ∧ ∀ i, (∀ q, q < n → i < 10 + 560 * c + 92 * q + 18 ∨ 10 + 560 * c + 92 * q + 24 < i) → g' 189 i = g 189 i := by
  unfold kl_X11_lay_93
  refine kFor n (by unfold FU; omega) (fun i ls h => ∃ (g' : GG) (v : Value), ls = [.ref 188, .int (nI c), v, .int (nI i)] ∧ h = hp g' m o ∧ (∀ a, a ≠ 189 → g' a = g a) ∧ (∀ r, r < i → cartM g' (10 + 560 * c) r (caL n k co d r)) ∧ ∀ j, (∀ q, q < i → j < 10 + 560 * c + 92 * q + 18 ∨ 10 + 560 * c + 92 * q + 24 < j) → g' 189 j = g 189 j) (fun r => ∃ g', r = some (some (.int (nI 1)), hp g' m o) ∧ (∀ a, a ≠ 189 → g' a = g a) ∧ (∀ r, r < n → cartM g' (10 + 560 * c) r (caL n k co d r)) ∧ ∀ i, (∀ q, q < n → i < 10 + 560 * c + 92 * q + 18 ∨ 10 + 560 * c + 92 * q + 24 < i) → g' 189 i = g 189 i) ?_ ?_ 0 _ _ (by omega) ⟨g, v, rfl, rfl, fun _ _ => rfl, fun r hr => by omega, fun _ _ => rfl⟩
  · rintro s0 ls h ⟨g', v, rfl, rfl, h1, h2, h3⟩
    have e : g' 188 20 = nI n := by rw [h1 188 (by omega)]; exact en
    have hin : (n ≤ n) = True := eq_true (by omega)
    simp (disch := first | assumption | omega) only [KL, KB, KC, KI, KJ, KZ, bI_0, bI_n, nI00, nI10, ne_eq, Classical.not_not, not_true_eq_false, not_false_eq_true, if_true, if_false, ite_not, ite_self, Bool.false_eq_true, nIne1, kMask, mask, O_mo, e, nIle, hin]
    exact ⟨g', rfl, h1, h2, h3⟩
  · rintro s0 i hi ih ls h ⟨g', v, rfl, rfl, h1, h2, h3⟩
    have e : g' 188 20 = nI n := by rw [h1 188 (by omega)]; exact en
    have hin : (n ≤ i) = False := eq_false (by omega)
    have i6 : i < 6 := by omega
    obtain ⟨w1, w2, w3⟩ := hL.1 i (by omega) hi
    have e16 : g' 207 i = bW (decide (0 < d i)) := by rw [h1 207 (by omega)]; exact w1
    by_cases h0 : 0 < d i
    · obtain ⟨w4, w5, w6⟩ := w3 h0
      rw [decide_eq_true h0, bW_t] at e16
      have e9 : g' 200 i = nI (cG co (xD d i)).1 := by rw [h1 200 (by omega)]; exact w4
      have e10 : g' 201 i = nI (cG co (xD d i)).2.1 := by rw [h1 201 (by omega)]; exact w5
      have e11 : g' 202 i = nI (cG co (xD d i)).2.2 := by rw [h1 202 (by omega)]; exact w6
      have e12 : g' 203 i = nI (ordRank n k i) := by rw [h1 203 (by omega)]; exact hL.2 i hi
      have est := m_stands g' m o c i (cG co (xD d i)) (nI (ordRank n k i)) (nI 0) hc i6
      simp (disch := first | assumption | omega) only [kb_X11_lay_153, KL, KB, KC, KI, KJ, KZ, bI_0, bI_n, nI00, nI10, ne_eq, Classical.not_not, not_true_eq_false, not_false_eq_true, if_true, if_false, ite_not, ite_self, Bool.false_eq_true, nIne1, kMask, mask, O_mo, AR, e, nIle, hin, e16, e9, e10, e11, e12, est, nI_add]
      refine ih _ _ ⟨_, _, rfl, rfl, fun a ha => by rw [stdM_ne ha]; exact h1 a ha, fun r hr => ?_, fun j hj => by rw [stdM_at (by have := hj i (by omega); omega)]; exact h3 j (fun q hq => hj q (by omega))⟩
      by_cases q : r = i
      · subst q
        unfold caL
        rw [if_pos h0]
        unfold cartM stdM
        simp only []
        refine ⟨?_, ?_, ?_, ?_, ?_, ?_, ?_⟩
        all_goals simp (disch := omega) only [upd2_other, upd2_same]
      · exact (h2 r (by omega)).congr (fun t a b => stdM_at (by omega))
    · rw [decide_eq_false h0, bW_f] at e16
      have es := m_set0 g' m o c i 18 (nI 0) (by omega)
      simp (disch := first | assumption | omega) only [kb_X11_lay_153, KL, KB, KC, KI, KJ, KZ, bI_0, bI_n, nI00, nI10, ne_eq, Classical.not_not, not_true_eq_false, not_false_eq_true, if_true, if_false, ite_not, ite_self, Bool.false_eq_true, nIne1, kMask, mask, O_mo, AR, e, nIle, hin, e16, es, nI_add]
      refine ih _ _ ⟨_, _, rfl, rfl, fun a ha => by rw [uN ha]; exact h1 a ha, fun r hr => ?_, fun j hj => by rw [uO (Or.inr (by have := hj i (by omega); omega))]; exact h3 j (fun q hq => hj q (by omega))⟩
      by_cases q : r = i
      · subst q
        unfold caL
        rw [if_neg h0]
        exact uS
      · exact (h2 r (by omega)).congr (fun t a b => uO (by omega))
