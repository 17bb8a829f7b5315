-- ===== the class's tick: who goes, who waits =====
theorem mmaxS (k : KK) (ls st : List Value) (h : HP) (x y : Int32) (hl : st.length ≤ 8) : kMmax k ls (.int y :: .int x :: st) h = k ls (.int (if x < y then y else x) :: st) h := by
  show (if st.length ≤ 8 then k ls (.int (if x < y then y else x) :: st) h else none) = _
  rw [if_pos hl]
theorem x_keepWaiting (g : GG) (m o X r w st lo : Nat) (hX : isX X) (hr : r < 6) (e1 : g (X + 7) (6 + r) = nI w) (e2 : g (X + 2) (30 + r) = nI st) (e3 : g (X + 7) (12 + r) = nI lo) (b1 : w < 1000000) (b2 : st < 1000000) (b3 : lo < 1000000) : f_X2_keepWaiting [.ref X, .int (nI r)] (hp g m o) = some (none, hp (upd2 (upd2 (upd2 g (X + 7) (6 + r) (nI (w + 1))) (X + 2) (30 + r) (nI (st + 1))) (X + 7) (12 + r) (nI (max lo (st + 1)))) m o) := by
  have hmx : (if nI lo < nI (st + 1) then nI (st + 1) else nI lo) = nI (max lo (st + 1)) := mmax_nI (by omega) (by omega)
  have e2' : upd2 g (X + 7) (6 + r) (nI (w + 1)) (X + 2) (30 + r) = nI st := by rw [uN (by omega)]; exact e2
  have e3' : upd2 (upd2 g (X + 7) (6 + r) (nI (w + 1))) (X + 2) (30 + r) (nI (st + 1)) (X + 7) (12 + r) = nI lo := by rw [uN (by omega), uO (by omega)]; exact e3
  have hl : ∀ (a b : Value), [a, b].length ≤ 8 := fun _ _ => by show 2 ≤ 8; omega
  simp (disch := first | assumption | exact hl _ _ | omega) only [f_X2_keepWaiting, kb_X2_keepWaiting_0, KL, KB, KC, KI, KJ, KZ, bI_0, bI_n, nI00, nI10, ne_eq, Classical.not_not, not_true_eq_false, not_false_eq_true, if_true, if_false, ite_not, ite_self, Bool.false_eq_true, nIne1, XO, nI_add, e1, e2', e3', mmaxS, hmx]
def stayO : Option ACart → Nat
  | none => 0
  | some a => a.2.2.2
/-- what is counted of a road -/
def ctG (n G s : Nat) (ca : Nat → Option ACart) (ct : Nat → Nat → Nat) (t r : Nat) : Nat :=
  if r < n ∧ G.testBit r = true then (if t = 0 then ct t r + 1 else ct t r)
  else if r < n ∧ s.testBit r = true then (if t = 1 then ct t r + 1 else if t = 2 then max (ct t r) (stayO (ca r) + 1) else ct t r)
  else ct t r
def caG (G : Nat) (ca : Nat → Option ACart) (r : Nat) : Option ACart := if G.testBit r = true then none else (ca r).map (fun c => (c.1, c.2.1, c.2.2.1, c.2.2.2 + 1))
def toG (cr st : Bool) (to : Nat → Nat) (t : Nat) : Nat := if t = 0 then to 0 + 1 else if t = 1 then to 1 + (if cr = true then 1 else 0) else to 2 + (if st = true then 1 else 0)
theorem c_tick66 {X n s G : Nat} {ca : Nat → Option ACart} {ct : Nat → Nat → Nat} {g : GG} {m o tk : Nat} (hX : isX X) (hX1 : X + 9 < 77) (hX2 : 16 < X) (en : g X 0 = nI n) (n6 : n ≤ 6) (hs : s < 64) (hG : G < 64) (hGn : G < 2 ^ n) (hGs : ∀ r, G.testBit r = true → s.testBit r = true) (hca : ∀ r, r < 6 → cartC g X r (ca r) ∧ stayO (ca r) < 100000 ∧ (r < n → s.testBit r = (ca r).isSome) ∧ (n ≤ r → ca r = none)) (hct : ∀ t, t < 3 → ∀ r, r < 6 → ct t r < 100000 ∧ g (X + 7) (6 * t + r) = nI (ct t r)) (et : g (X + 8) 0 = nI tk) (htk : tk < 100000) (v : Value) (u : List Value) : ∃ g', kl_X2_tick_66 ([v, .ref X, .int (nI s), .int (nI G), .int (nI 0)] ++ u) [] (hp g m o) = some (some (.int (nI (popN G))), hp g' m o) ∧ (∀ a, a ≠ X + 2 → a ≠ X + 7 → a ≠ X + 8 → g' a = g a) ∧ (∀ r, r < 6 → cartC g' X r (caG G ca r)) ∧ (∀ t, t < 3 → ∀ r, r < 6 → g' (X + 7) (6 * t + r) = nI (ctG n G s ca ct t r)) ∧ g' (X + 8) 0 = nI (tk + 1) ∧ ∀ i, i ≠ 0 → g' (X + 8) i = g (X + 8) i := by
  unfold kl_X2_tick_66
  refine kFor n (by unfold FU; omega) (fun i ls h => ∃ (g' : GG) (v : Value) (u : List Value), ls = [v, .ref X, .int (nI s), .int (nI G), .int (nI i)] ++ u ∧ h = hp g' m o ∧ (∀ a, a ≠ X + 2 → a ≠ X + 7 → g' a = g a) ∧ (∀ j, j < 30 → g' (X + 2) j = g (X + 2) j) ∧ (∀ r, r < 6 → s.testBit r = true → g' (X + 2) (30 + r) = if r < i ∧ G.testBit r = false then nI (stayO (ca r) + 1) else g (X + 2) (30 + r)) ∧ ∀ t, t < 3 → ∀ r, r < 6 → g' (X + 7) (6 * t + r) = nI (if r < i then ctG n G s ca ct t r else ct t r)) (fun r => ∃ g', r = some (some (.int (nI (popN G))), hp g' m o) ∧ (∀ a, a ≠ X + 2 → a ≠ X + 7 → a ≠ X + 8 → g' a = g a) ∧ (∀ r, r < 6 → cartC g' X r (caG G ca r)) ∧ (∀ t, t < 3 → ∀ r, r < 6 → g' (X + 7) (6 * t + r) = nI (ctG n G s ca ct t r)) ∧ g' (X + 8) 0 = nI (tk + 1) ∧ ∀ i, i ≠ 0 → g' (X + 8) i = g (X + 8) i) ?_ ?_ 0 _ _ (by omega) ⟨g, v, u, rfl, rfl, fun _ _ _ => rfl, fun _ _ => rfl, fun r _ _ => by rw [if_neg (fun q => absurd q.1 (by omega))], fun t ht r hr => by rw [if_neg (by omega)]; exact (hct t ht r hr).2⟩
  · rintro s0 ls h ⟨g', v, u, rfl, rfl, h1, h2, h3, h4⟩
    have e : g' X 0 = nI n := by rw [h1 X (by omega) (by omega)]; exact en
    have hin : (n ≤ n) = True := eq_true (by omega)
    obtain ⟨g2, t1, t2, t3⟩ := x_takeAway (g := g') (m := m) (o := o) hX e n6 hG
    have et2 : g2 (X + 8) 0 = nI tk := by rw [t2 _ (by omega), h1 _ (by omega) (by omega)]; exact et
    have hbc := fun h => c_bitCount G (by omega) h
    simp (disch := first | assumption | omega) only [kb_X2_tick_115, KL, KB, KC, KI, KJ, KZ, bI_0, bI_n, nI00, nI10, ne_eq, Classical.not_not, not_true_eq_false, not_false_eq_true, if_true, if_false, ite_not, ite_self, Bool.false_eq_true, nIne1, List.cons_append, List.nil_append, kMask, mask, XO, e, nIle, hin, t1, et2, nI_add, hbc]
    refine ⟨_, rfl, fun a b1 b2 b3 => ?_, fun r hr => ?_, fun t ht r hr => ?_, uS, fun i hi => ?_⟩
    · rw [uN b3, t2 a b1]; exact h1 a b1 b2
    · obtain ⟨q1, q2, q3, q4⟩ := hca r hr
      unfold caG
      by_cases hg : G.testBit r = true
      · rw [if_pos hg]
        have hrn : r < n := by
          apply Nat.lt_of_not_le
          intro q
          rw [bit_ge hGn r q] at hg
          cases hg
        show upd2 g2 (X + 8) 0 _ (X + 2) r = -1
        rw [uN (by omega), t3, if_pos ⟨hrn, hg⟩]
      · rw [if_neg hg]
        have z : ∀ j, j % 6 = r → g2 (X + 2) j = g' (X + 2) j := fun j hj => by
          rw [t3]
          by_cases hc : j < n ∧ G.testBit j = true
          · have : j = r := by omega
            rw [this] at hc
            exact absurd hc.2 hg
          · rw [if_neg hc]
        cases hcr : ca r with
        | none =>
          rw [hcr] at q1
          show upd2 g2 (X + 8) 0 _ (X + 2) r = -1
          rw [uN (by omega), z r (by omega), h2 r (by omega)]
          exact q1
        | some c =>
          rw [hcr] at q1 q3
          have hrn : r < n := by
            apply Nat.lt_of_not_le
            intro q
            rw [hcr] at q4
            exact absurd (q4 q) (by simp)
          have hs1 : s.testBit r = true := q3 hrn
          obtain ⟨b0, b1, b2, b3, b4, b5⟩ := q1
          have e5 := h3 r hr hs1
          rw [if_pos ⟨hrn, Bool.eq_false_iff.mpr hg⟩, hcr] at e5
          refine ⟨?_, ?_, ?_, ?_, ?_, ?_⟩
          · rw [uN (by omega), z _ (by omega), h2 _ (by omega)]; exact b0
          · rw [uN (by omega), z _ (by omega), h2 _ (by omega)]; exact b1
          · rw [uN (by omega), z _ (by omega), h2 _ (by omega)]; exact b2
          · rw [uN (by omega), z _ (by omega), h2 _ (by omega)]; exact b3
          · rw [uN (by omega), z _ (by omega), h2 _ (by omega)]; exact b4
          · rw [uN (by omega), z _ (by omega)]; exact e5
    · rw [uN (by omega), t2 _ (by omega), h4 t ht r hr]
      by_cases q : r < n
      · rw [if_pos q]
      · rw [if_neg q]
        unfold ctG
        rw [if_neg (fun e => q e.1), if_neg (fun e => q e.1)]
    · rw [uO (Or.inr hi), t2 _ (by omega), h1 _ (by omega) (by omega)]
  · rintro s0 i hi ih ls h ⟨g', v, u, rfl, rfl, h1, h2, h3, h4⟩
    have e : g' X 0 = nI n := by rw [h1 X (by omega) (by omega)]; exact en
    have hin : (n ≤ i) = False := eq_false (by omega)
    have i6 : i < 6 := by omega
    have q4 : ∀ t, t < 3 → g' (X + 7) (6 * t + i) = nI (ct t i) := fun t ht => by have := h4 t ht i i6; rwa [if_neg (by omega)] at this
    cases hg : G.testBit i with
    | true =>
      have hb : ((G >>> i).testBit 0 = false) = False := by rw [Nat.testBit_shiftRight, Nat.add_zero, hg]; simp
      have e0 := q4 0 (by omega)
      rw [Nat.mul_zero, Nat.zero_add] at e0
      simp (disch := first | assumption | omega) only [kb_X2_tick_115, KL, KB, KC, KI, KJ, KZ, bI_0, bI_n, nI00, nI10, ne_eq, Classical.not_not, not_true_eq_false, not_false_eq_true, if_true, if_false, ite_not, ite_self, Bool.false_eq_true, nIne1, List.cons_append, List.nil_append, kMask, mask, XO, e, nIle, hin, nI_shr, nI_and, bit0, hb, nI_add, Nat.zero_add, e0]
      refine ih _ _ ⟨_, _, _, rfl, rfl, fun a b1 b2 => by rw [uN b2]; exact h1 a b1 b2, fun j hj => by rw [uN (by omega)]; exact h2 j hj, fun r hr hs1 => ?_, fun t ht r hr => ?_⟩
      · rw [uN (by omega), h3 r hr hs1]
        by_cases q : r < i ∧ G.testBit r = false
        · rw [if_pos q, if_pos ⟨by omega, q.2⟩]
        · rw [if_neg q, if_neg (fun e => q ⟨by have : r ≠ i := fun w => (by rw [w, hg] at e; cases e.2); omega, e.2⟩)]
      · by_cases q : r = i
        · subst q
          rw [if_pos (by omega)]
          have hc : ctG n G s ca ct t r = if t = 0 then ct t r + 1 else ct t r := by unfold ctG; rw [if_pos ⟨hi, hg⟩]
          rw [hc]
          by_cases ht0 : t = 0
          · subst ht0
            rw [if_pos rfl, Nat.mul_zero, Nat.zero_add, uS]
          · rw [if_neg ht0, uO (by omega)]
            exact q4 t ht
        · rw [uO (by omega), h4 t ht r hr]
          by_cases q2 : r < i
          · rw [if_pos q2, if_pos (by omega)]
          · rw [if_neg q2, if_neg (by omega)]
    | false =>
      have hb : ((G >>> i).testBit 0 = false) = True := by rw [Nat.testBit_shiftRight, Nat.add_zero, hg]; simp
      cases hsb : s.testBit i with
      | false =>
        have hb2 : ((s >>> i).testBit 0 = false) = True := by rw [Nat.testBit_shiftRight, Nat.add_zero, hsb]; simp
        simp (disch := first | assumption | omega) only [kb_X2_tick_115, KL, KB, KC, KI, KJ, KZ, bI_0, bI_n, nI00, nI10, ne_eq, Classical.not_not, not_true_eq_false, not_false_eq_true, if_true, if_false, ite_not, ite_self, Bool.false_eq_true, nIne1, List.cons_append, List.nil_append, kMask, mask, XO, e, nIle, hin, nI_shr, nI_and, bit0, hb, hb2, nI_add]
        refine ih _ _ ⟨_, _, _, rfl, rfl, h1, h2, fun r hr hs1 => ?_, fun t ht r hr => ?_⟩
        · rw [h3 r hr hs1]
          have : r ≠ i := fun w => (by rw [w, hsb] at hs1; cases hs1)
          by_cases q : r < i ∧ G.testBit r = false
          · rw [if_pos q, if_pos ⟨by omega, q.2⟩]
          · rw [if_neg q, if_neg (fun e => q ⟨by omega, e.2⟩)]
        · rw [h4 t ht r hr]
          by_cases q : r = i
          · subst q
            rw [if_neg (by omega), if_pos (by omega)]
            unfold ctG
            rw [if_neg (fun e => by rw [hg] at e; cases e.2), if_neg (fun e => by rw [hsb] at e; cases e.2)]
          · by_cases q2 : r < i
            · rw [if_pos q2, if_pos (by omega)]
            · rw [if_neg q2, if_neg (by omega)]
      | true =>
        have hb2 : ((s >>> i).testBit 0 = false) = False := by rw [Nat.testBit_shiftRight, Nat.add_zero, hsb]; simp
        obtain ⟨q1, qs, q3, -⟩ := hca i i6
        have hso : (ca i).isSome = true := by rw [← q3 hi]; exact hsb
        obtain ⟨c, hcr⟩ := Option.isSome_iff_exists.mp hso
        rw [hcr] at q1 qs
        have est : g' (X + 2) (30 + i) = nI c.2.2.2 := by
          rw [h3 i i6 hsb, if_neg (fun e => absurd e.1 (by omega))]
          exact q1.2.2.2.2.2
        have qs' : c.2.2.2 < 100000 := qs
        have ek := x_keepWaiting g' m o X i (ct 1 i) c.2.2.2 (ct 2 i) hX i6 (q4 1 (by omega)) est (q4 2 (by omega)) (by have := (hct 1 (by omega) i i6).1; omega) (by omega) (by have := (hct 2 (by omega) i i6).1; omega)
        simp (disch := first | assumption | omega) only [kb_X2_tick_115, KL, KB, KC, KI, KJ, KZ, bI_0, bI_n, nI00, nI10, ne_eq, Classical.not_not, not_true_eq_false, not_false_eq_true, if_true, if_false, ite_not, ite_self, Bool.false_eq_true, nIne1, List.cons_append, List.nil_append, kMask, mask, XO, e, nIle, hin, nI_shr, nI_and, bit0, hb, hb2, ek, nI_add]
        refine ih _ _ ⟨_, _, _, rfl, rfl, fun a b1 b2 => by rw [uN b2, uN b1, uN b2]; exact h1 a b1 b2, fun j hj => by rw [uN (by omega), uO (by omega), uN (by omega)]; exact h2 j hj, fun r hr hs1 => ?_, fun t ht r hr => ?_⟩
        · rw [uN (by omega)]
          by_cases q : r = i
          · subst q
            rw [uS, if_pos ⟨by omega, hg⟩, hcr]
            rfl
          · rw [uO (by omega), uN (by omega), h3 r hr hs1]
            by_cases q2 : r < i ∧ G.testBit r = false
            · rw [if_pos q2, if_pos ⟨by omega, q2.2⟩]
            · rw [if_neg q2, if_neg (fun e => q2 ⟨by omega, e.2⟩)]
        · by_cases q : r = i
          · subst q
            rw [if_pos (by omega)]
            have hc : ctG n G s ca ct t r = if t = 1 then ct t r + 1 else if t = 2 then max (ct t r) (stayO (ca r) + 1) else ct t r := by
              unfold ctG
              rw [if_neg (fun e => by rw [hg] at e; cases e.2), if_pos ⟨hi, hsb⟩]
            rw [hc]
            have ht' : t = 0 ∨ t = 1 ∨ t = 2 := by omega
            rcases ht' with rfl | rfl | rfl
            · rw [if_neg (by omega), if_neg (by omega), uO (by omega), uN (by omega), uO (by omega)]
              exact q4 0 (by omega)
            · rw [if_pos rfl, uO (by omega), uN (by omega), uS]
            · rw [if_neg (by omega), if_pos rfl, uS, hcr]
              rfl
          · rw [uO (by omega), uN (by omega), uO (by omega), h4 t ht r hr]
            by_cases q2 : r < i
            · rw [if_pos q2, if_pos (by omega)]
            · rw [if_neg q2, if_neg (by omega)]
