-- ===== the model's tick: who goes, who waits =====
theorem m_tick77 {n s G c : Nat} {ca : Nat → Option ACart} {ct : FA} {to : Nat → Nat} {g : GG} {m o : Nat} (hc : c < 6) (n6 : n ≤ 6) (hs : s < 2 ^ n) (hG : G < 2 ^ n) (hGs : ∀ r, G.testBit r = true → s.testBit r = true) (hL : ML n s g) (hca : ∀ r, r < 6 → cartM g (10 + 560 * c) r (ca r) ∧ stayO (ca r) < 100000 ∧ (r < n → s.testBit r = (ca r).isSome) ∧ (n ≤ r → ca r = none)) (hct : ∀ t, t < 3 → ∀ r, r < 6 → ct t r < 100000 ∧ g 189 (10 + 560 * c + 92 * r + 86 + t) = nI (ct t r)) (v : Value) (hto : ∀ t, t < 3 → to t < 100000) (h0 : g 189 (10 + 560 * c + 553) = nI (to 0)) (h2 : g 189 (10 + 560 * c + 555) = nI (to 2)) : ∃ g', kl_X11_tick_77 [.ref 188, .int (nI c), v, .int (nI G), .int (nI 0)] [] (hp g m o) = some (some (.int (nI (popN G))), hp g' m o) ∧ (∀ a, a ≠ 189 → g' a = g a) ∧ (∀ r, r < 6 → cartM g' (10 + 560 * c) r (caG G ca r)) ∧ (∀ t, t < 3 → ∀ r, r < 6 → g' 189 (10 + 560 * c + 92 * r + 86 + t) = nI (ctG n G s ca ct t r)) ∧ g' 189 (10 + 560 * c + 553) = nI (to 0 + 1) ∧ g' 189 (10 + 560 * c + 555) = nI (to 2 + if decide (s ≠ 0 ∧ G = 0) = true then 1 else 0) ∧ ∀ j, (∀ q, q < 6 → j < 10 + 560 * c + 92 * q + 18 ∨ (10 + 560 * c + 92 * q + 24 < j ∧ j < 10 + 560 * c + 92 * q + 86) ∨ 10 + 560 * c + 92 * q + 88 < j) → j ≠ 10 + 560 * c + 553 → j ≠ 10 + 560 * c + 555 → g' 189 j = g 189 j := by
  have s64 := lt64 hs n6
  have G64 := lt64 hG n6
  unfold kl_X11_tick_77
  refine kFor n (by unfold FU; omega) (fun i ls h => ∃ (g' : GG) (v : Value), ls = [.ref 188, .int (nI c), v, .int (nI G), .int (nI i)] ∧ h = hp g' m o ∧ (∀ a, a ≠ 189 → g' a = g a) ∧ (∀ r, r < 6 → cartM g' (10 + 560 * c) r (if r < i then caG G ca r else ca r)) ∧ (∀ t, t < 3 → ∀ r, r < 6 → g' 189 (10 + 560 * c + 92 * r + 86 + t) = nI (if r < i then ctG n G s ca ct t r else ct t r)) ∧ ∀ j, (∀ q, q < 6 → j < 10 + 560 * c + 92 * q + 18 ∨ (10 + 560 * c + 92 * q + 24 < j ∧ j < 10 + 560 * c + 92 * q + 86) ∨ 10 + 560 * c + 92 * q + 88 < j) → g' 189 j = g 189 j) (fun r => ∃ g', r = some (some (.int (nI (popN G))), hp g' m o) ∧ (∀ a, a ≠ 189 → g' a = g a) ∧ (∀ r, r < 6 → cartM g' (10 + 560 * c) r (caG G ca r)) ∧ (∀ t, t < 3 → ∀ r, r < 6 → g' 189 (10 + 560 * c + 92 * r + 86 + t) = nI (ctG n G s ca ct t r)) ∧ g' 189 (10 + 560 * c + 553) = nI (to 0 + 1) ∧ g' 189 (10 + 560 * c + 555) = nI (to 2 + if decide (s ≠ 0 ∧ G = 0) = true then 1 else 0) ∧ ∀ j, (∀ q, q < 6 → j < 10 + 560 * c + 92 * q + 18 ∨ (10 + 560 * c + 92 * q + 24 < j ∧ j < 10 + 560 * c + 92 * q + 86) ∨ 10 + 560 * c + 92 * q + 88 < j) → j ≠ 10 + 560 * c + 553 → j ≠ 10 + 560 * c + 555 → g' 189 j = g 189 j) ?_ ?_ 0 _ _ (by omega) ⟨g, v, rfl, rfl, fun _ _ => rfl, fun r hr => by rw [if_neg (by omega)]; exact (hca r hr).1, fun t ht r hr => by rw [if_neg (by omega)]; exact (hct t ht r hr).2, fun _ _ => rfl⟩
  · rintro s0 ls h ⟨g', v, rfl, rfl, h1, hcar, hcnt, h4⟩
    have hL' : ML n s g' := ⟨by rw [h1 188 (by omega)]; exact hL.1, fun r hr => by rw [h1 207 (by omega)]; exact hL.2 r hr⟩
    have hin : (n ≤ n) = True := eq_true (by omega)
    have ec := m_carts (m := m) (o := o) hL' n6 hs
    have e0 : g' 189 (10 + 560 * c + 553) = nI (to 0) := by rw [h4 _ (fun q hq => by omega)]; exact h0
    have e2 : g' 189 (10 + 560 * c + 555) = nI (to 2) := by rw [h4 _ (fun q hq => by omega)]; exact h2
    have hsz : (nI s = 0) = (s = 0) := nIk0 (by omega)
    have hgz : (nI G = 0) = (G = 0) := nIk0 (by omega)
    have ecn := fun h => m_count0 G G64 h
    have fin : ∀ (g5 : GG) (x : Nat), (∀ a, a ≠ 189 → g5 a = g' a) → (∀ j, j ≠ 10 + 560 * c + 555 → g5 189 j = g' 189 j) → x < 200000 → g5 189 (10 + 560 * c + 555) = nI x → x = (to 2 + if decide (s ≠ 0 ∧ G = 0) = true then 1 else 0) → ∃ g6, kb_X11_tick_246 [.ref 188, .int (nI c), .long 0, .int (nI G), .int (nI n)] [] (hp g5 m o) = some (some (.int (nI (popN G))), hp g6 m o) ∧ (∀ a, a ≠ 189 → g6 a = g a) ∧ (∀ r, r < 6 → cartM g6 (10 + 560 * c) r (caG G ca r)) ∧ (∀ t, t < 3 → ∀ r, r < 6 → g6 189 (10 + 560 * c + 92 * r + 86 + t) = nI (ctG n G s ca ct t r)) ∧ g6 189 (10 + 560 * c + 553) = nI (to 0 + 1) ∧ g6 189 (10 + 560 * c + 555) = nI (to 2 + if decide (s ≠ 0 ∧ G = 0) = true then 1 else 0) ∧ ∀ j, (∀ q, q < 6 → j < 10 + 560 * c + 92 * q + 18 ∨ (10 + 560 * c + 92 * q + 24 < j ∧ j < 10 + 560 * c + 92 * q + 86) ∨ 10 + 560 * c + 92 * q + 88 < j) → j ≠ 10 + 560 * c + 553 → j ≠ 10 + 560 * c + 555 → g6 189 j = g 189 j := by
      intro g5 x w1 w2 wx w3 w4
      have ea := m_adds g5 m o c 553 (to 0) (by omega) (by rw [w2 _ (by omega)]; exact e0)
      have far : ∀ j, j ≠ 10 + 560 * c + 553 → j ≠ 10 + 560 * c + 555 → upd2 g5 189 (10 + 560 * c + 553) (nI (to 0 + 1)) 189 j = g' 189 j := fun j a b => by rw [uO (Or.inr a), w2 j b]
      refine ⟨upd2 g5 189 (10 + 560 * c + 553) (nI (to 0 + 1)), ?_, fun a ha => by rw [uN ha, w1 a ha]; exact h1 a ha, fun r hr => ?_, fun t ht r hr => ?_, uS, ?_, fun j hj a b => by rw [far j a b]; exact h4 j hj⟩
      · simp (disch := first | assumption | omega) only [kb_X11_tick_246, KL, KB, KC, KI, KJ, KZ, bI_0, bI_n, nI00, nI10, ne_eq, Classical.not_not, not_true_eq_false, not_false_eq_true, if_true, if_false, ite_not, ite_self, Bool.false_eq_true, nIne1, O_mo, ea, ecn]
      · have := hcar r hr
        have hcc : cartM g' (10 + 560 * c) r (caG G ca r) := by
          by_cases q : r < n
          · rw [if_pos q] at this; exact this
          · rw [if_neg q] at this
            have hn := (hca r hr).2.2.2 (by omega)
            have hg : G.testBit r = false := bit_ge hG r (by omega)
            unfold caG
            rw [hg, if_neg (by decide), hn]
            rw [hn] at this
            exact this
        exact hcc.congr (fun t a b => far _ (by omega) (by omega))
      · rw [far _ (by omega) (by omega), hcnt t ht r hr]
        by_cases q : r < n
        · rw [if_pos q]
        · rw [if_neg q]
          unfold ctG
          rw [if_neg (fun e => q e.1), if_neg (fun e => q e.1)]
      · rw [uO (by omega), w3, w4]
    by_cases h : s ≠ 0 ∧ G = 0
    · have hs0 : (s = 0) = False := eq_false h.1
      have hg0 : (G = 0) = True := eq_true h.2
      have ea := m_adds g' m o c 555 (to 2) (by omega) e2
      obtain ⟨g6, e6, w⟩ := fin (upd2 g' 189 (10 + 560 * c + 555) (nI (to 2 + 1))) (to 2 + 1) (fun a ha => uN ha) (fun j hj => uO (Or.inr hj)) (by have := hto 2 (by omega); omega) uS (by rw [decide_eq_true h, if_pos rfl])
      refine ⟨g6, ?_, w⟩
      rw [← e6]
      simp (disch := first | assumption | omega) only [KL, KB, KC, KI, KJ, KZ, bI_0, bI_n, nI00, nI10, ne_eq, Classical.not_not, not_true_eq_false, not_false_eq_true, if_true, if_false, ite_not, ite_self, Bool.false_eq_true, nIne1, kMask, mask, O_mo, hL'.1, nIle, hin, ec, hsz, hs0, hgz, hg0, ea]
    · obtain ⟨g6, e6, w⟩ := fin g' (to 2) (fun a ha => rfl) (fun j hj => rfl) (by have := hto 2 (by omega); omega) e2 (by rw [decide_eq_false h, if_neg (by decide), Nat.add_zero])
      refine ⟨g6, ?_, w⟩
      rw [← e6]
      by_cases h1 : s = 0
      · have h1' : (s = 0) = True := eq_true h1
        simp (disch := first | assumption | omega) only [KL, KB, KC, KI, KJ, KZ, bI_0, bI_n, nI00, nI10, ne_eq, Classical.not_not, not_true_eq_false, not_false_eq_true, if_true, if_false, ite_not, ite_self, Bool.false_eq_true, nIne1, kMask, mask, O_mo, hL'.1, nIle, hin, ec, hsz, h1']
      · have h1' : (s = 0) = False := eq_false h1
        have h2' : (G = 0) = False := eq_false (fun q => h ⟨h1, q⟩)
        simp (disch := first | assumption | omega) only [KL, KB, KC, KI, KJ, KZ, bI_0, bI_n, nI00, nI10, ne_eq, Classical.not_not, not_true_eq_false, not_false_eq_true, if_true, if_false, ite_not, ite_self, Bool.false_eq_true, nIne1, kMask, mask, O_mo, hL'.1, nIle, hin, ec, hsz, h1', hgz, h2']
  · rintro s0 i hi ih ls h ⟨g', v, rfl, rfl, h1, hcar, hcnt, h4⟩
    have e : g' 188 20 = nI n := by rw [h1 188 (by omega)]; exact hL.1
    have ei : g' 207 i = bW (s.testBit i) := by rw [h1 207 (by omega)]; exact hL.2 i hi
    have hin : (n ≤ i) = False := eq_false (by omega)
    have i6 : i < 6 := by omega
    have q4 : ∀ t, t < 3 → g' 189 (10 + 560 * c + 92 * i + 86 + t) = nI (ct t i) := fun t ht => by have := hcnt t ht i i6; rwa [if_neg (by omega)] at this
    have ci : cartM g' (10 + 560 * c) i (ca i) := by have := hcar i i6; rwa [if_neg (by omega)] at this
    obtain ⟨-, cst, csm, -⟩ := hca i i6
    have csm' := csm hi
    -- stepping on, with the road's cells as they are then
    have step : ∀ g2 : GG, (∀ a, a ≠ 189 → g2 a = g' a) → cartM g2 (10 + 560 * c) i (caG G ca i) → (∀ t, t < 3 → g2 189 (10 + 560 * c + 92 * i + 86 + t) = nI (ctG n G s ca ct t i)) → (∀ j, (j < 10 + 560 * c + 92 * i + 18 ∨ (10 + 560 * c + 92 * i + 24 < j ∧ j < 10 + 560 * c + 92 * i + 86) ∨ 10 + 560 * c + 92 * i + 88 < j) → g2 189 j = g' 189 j) → ∃ g'', s0 [.ref 188, .int (nI c), .long 0, .int (nI G), .int (nI (i + 1))] [] (hp g2 m o) = some (some (.int (nI (popN G))), hp g'' m o) ∧ (∀ a, a ≠ 189 → g'' a = g a) ∧ (∀ r, r < 6 → cartM g'' (10 + 560 * c) r (caG G ca r)) ∧ (∀ t, t < 3 → ∀ r, r < 6 → g'' 189 (10 + 560 * c + 92 * r + 86 + t) = nI (ctG n G s ca ct t r)) ∧ g'' 189 (10 + 560 * c + 553) = nI (to 0 + 1) ∧ g'' 189 (10 + 560 * c + 555) = nI (to 2 + if decide (s ≠ 0 ∧ G = 0) = true then 1 else 0) ∧ ∀ j, (∀ q, q < 6 → j < 10 + 560 * c + 92 * q + 18 ∨ (10 + 560 * c + 92 * q + 24 < j ∧ j < 10 + 560 * c + 92 * q + 86) ∨ 10 + 560 * c + 92 * q + 88 < j) → j ≠ 10 + 560 * c + 553 → j ≠ 10 + 560 * c + 555 → g'' 189 j = g 189 j := by
      intro g2 w1 w2 w3 w4
      refine ih _ _ ⟨g2, _, rfl, rfl, fun a ha => by rw [w1 a ha]; exact h1 a ha, fun r hr => ?_, fun t ht r hr => ?_, fun j hj => by rw [w4 j (hj i i6)]; exact h4 j hj⟩
      · by_cases q : r = i
        · subst q; rw [if_pos (by omega)]; exact w2
        · have := hcar r hr
          by_cases q2 : r < i
          · rw [if_pos q2] at this
            rw [if_pos (by omega)]
            exact this.congr (fun t a b => w4 _ (by omega))
          · rw [if_neg q2] at this
            rw [if_neg (by omega)]
            exact this.congr (fun t a b => w4 _ (by omega))
      · by_cases q : r = i
        · subst q; rw [if_pos (by omega)]; exact w3 t ht
        · rw [w4 _ (by omega), hcnt t ht r hr]
          by_cases q2 : r < i
          · rw [if_pos q2, if_pos (by omega)]
          · rw [if_neg q2, if_neg (by omega)]
    have mg := fun (gg : GG) (f : Nat) (hf : f < 92) => m_get gg m o c i f (by omega)
    have ms := fun (gg : GG) (f : Nat) (v : Int32) (hf : f < 92) => m_set0 gg m o c i f v (by omega)
    cases hb : s.testBit i with
    | false =>
      rw [hb, bW_f] at ei
      rw [hb] at csm'
      have hn : ca i = none := by
        cases hh : ca i with
        | none => rfl
        | some a => rw [hh] at csm'; cases csm'
      have hg : G.testBit i = false := by
        cases hh : G.testBit i with
        | false => rfl
        | true => rw [hGs i hh] at hb; cases hb
      have := step g' (fun _ _ => rfl) (by unfold caG; rw [hg, if_neg (by decide), hn]; rw [hn] at ci; exact ci) (fun t ht => by
        rw [q4 t ht]
        unfold ctG
        rw [if_neg (fun e => by rw [hg] at e; cases e.2), if_neg (fun e => by rw [hb] at e; cases e.2)]) (fun _ _ => rfl)
      simp (disch := first | assumption | omega) only [kb_X11_tick_221, KL, KB, KC, KI, KJ, KZ, bI_0, bI_n, nI00, nI10, ne_eq, Classical.not_not, not_true_eq_false, not_false_eq_true, if_true, if_false, ite_not, ite_self, Bool.false_eq_true, nIne1, kMask, mask, O_mo, AR, e, ei, nIle, hin, nI_add]
      exact this
    | true =>
      rw [hb, bW_t] at ei
      rw [hb] at csm'
      obtain ⟨a, ha⟩ := Option.isSome_iff_exists.mp csm'.symm
      rw [ha] at ci cst
      obtain ⟨b0, b1, b2, b3, b4, b5, b6⟩ := ci
      cases hg : G.testBit i with
      | true =>
        have hbb : ((G >>> i).testBit 0 = true) = True := by rw [Nat.testBit_shiftRight, Nat.add_zero, hg]; simp
        have e86 := q4 0 (by omega)
        rw [Nat.add_zero] at e86
        have g86 := mg (upd2 g' 189 (10 + 560 * c + 92 * i + 18) (nI 0)) 86 (by omega)
        rw [uO (by omega), e86] at g86
        have := step (upd2 (upd2 g' 189 (10 + 560 * c + 92 * i + 18) (nI 0)) 189 (10 + 560 * c + 92 * i + 86) (nI (ct 0 i + 1))) (fun a ha => by rw [uN ha, uN ha]) (by unfold caG; rw [hg, if_pos rfl]; show upd2 _ _ _ _ _ _ = _; rw [uO (by omega), uS]) (fun t ht => by
          have hc' : ctG n G s ca ct t i = if t = 0 then ct t i + 1 else ct t i := by unfold ctG; rw [if_pos ⟨hi, hg⟩]
          rw [hc']
          by_cases ht0 : t = 0
          · subst ht0; rw [if_pos rfl, Nat.add_zero, uS]
          · rw [if_neg ht0, uO (by omega), uO (by omega)]; exact q4 t ht) (fun j hj => by rw [uO (by omega), uO (by omega)])
        simp (disch := first | assumption | omega) only [kb_X11_tick_221, KL, KB, KC, KI, KJ, KZ, bI_0, bI_n, nI00, nI10, ne_eq, Classical.not_not, not_true_eq_false, not_false_eq_true, if_true, if_false, ite_not, ite_self, Bool.false_eq_true, nIne1, kMask, mask, O_mo, AR, e, ei, nIle, hin, nI_shr, nI_and, bit1, hbb, ms, g86, nI_add]
        exact this
      | false =>
        have hbb : ((G >>> i).testBit 0 = true) = False := by rw [Nat.testBit_shiftRight, Nat.add_zero, hg]; simp
        have e87 := q4 1 (by omega)
        have e88 := q4 2 (by omega)
        rw [show 10 + 560 * c + 92 * i + 86 + 1 = 10 + 560 * c + 92 * i + 87 by omega] at e87
        rw [show 10 + 560 * c + 92 * i + 86 + 2 = 10 + 560 * c + 92 * i + 88 by omega] at e88
        have g87 := mg g' 87 (by omega)
        rw [e87] at g87
        have g24 := mg (upd2 g' 189 (10 + 560 * c + 92 * i + 87) (nI (ct 1 i + 1))) 24 (by omega)
        rw [uO (by omega), b6] at g24
        have g24b := mg (upd2 (upd2 g' 189 (10 + 560 * c + 92 * i + 87) (nI (ct 1 i + 1))) 189 (10 + 560 * c + 92 * i + 24) (nI (a.2.2.2 + 1))) 24 (by omega)
        rw [uS] at g24b
        have g88 := mg (upd2 (upd2 g' 189 (10 + 560 * c + 92 * i + 87) (nI (ct 1 i + 1))) 189 (10 + 560 * c + 92 * i + 24) (nI (a.2.2.2 + 1))) 88 (by omega)
        rw [uO (by omega), uO (by omega), e88] at g88
        have cst' : a.2.2.2 < 100000 := cst
        have l1 := (hct 1 (by omega) i i6).1
        have l2 := (hct 2 (by omega) i i6).1
        have hcar2 : ∀ g2 : GG, (∀ j, j ≠ 10 + 560 * c + 92 * i + 87 → j ≠ 10 + 560 * c + 92 * i + 88 → j ≠ 10 + 560 * c + 92 * i + 24 → g2 189 j = g' 189 j) → g2 189 (10 + 560 * c + 92 * i + 24) = nI (a.2.2.2 + 1) → cartM g2 (10 + 560 * c) i (caG G ca i) := fun g2 w1 w2 => by
          unfold caG
          rw [hg, if_neg (by decide), ha]
          exact ⟨by rw [w1 _ (by omega) (by omega) (by omega)]; exact b0, by rw [w1 _ (by omega) (by omega) (by omega)]; exact b1, by rw [w1 _ (by omega) (by omega) (by omega)]; exact b2, by rw [w1 _ (by omega) (by omega) (by omega)]; exact b3, by rw [w1 _ (by omega) (by omega) (by omega)]; exact b4, by rw [w1 _ (by omega) (by omega) (by omega)]; exact b5, w2⟩
        have hct2 : ∀ t, ctG n G s ca ct t i = if t = 1 then ct t i + 1 else if t = 2 then max (ct t i) (a.2.2.2 + 1) else ct t i := fun t => by
          unfold ctG
          rw [if_neg (fun e => by rw [hg] at e; cases e.2), if_pos ⟨hi, hb⟩, ha]
          rfl
        by_cases hle : a.2.2.2 + 1 ≤ ct 2 i
        · have hle' : (a.2.2.2 + 1 ≤ ct 2 i) = True := eq_true hle
          have := step (upd2 (upd2 g' 189 (10 + 560 * c + 92 * i + 87) (nI (ct 1 i + 1))) 189 (10 + 560 * c + 92 * i + 24) (nI (a.2.2.2 + 1))) (fun a ha => by rw [uN ha, uN ha]) (hcar2 _ (fun j x y z => by rw [uO (Or.inr z), uO (Or.inr x)]) uS) (fun t ht => by
            rw [hct2 t]
            have ht' : t = 0 ∨ t = 1 ∨ t = 2 := by omega
            rcases ht' with rfl | rfl | rfl
            · rw [if_neg (by omega), if_neg (by omega), uO (by omega), uO (by omega)]; exact q4 0 (by omega)
            · rw [if_pos rfl, uO (by omega), show 10 + 560 * c + 92 * i + 86 + 1 = 10 + 560 * c + 92 * i + 87 by omega, uS]
            · rw [if_neg (by omega), if_pos rfl, uO (by omega), uO (by omega), Nat.max_eq_left hle]; exact q4 2 (by omega)) (fun j hj => by rw [uO (by omega), uO (by omega)])
          simp (disch := first | assumption | omega) only [kb_X11_tick_221, kb_X11_tick_142, KL, KB, KC, KI, KJ, KZ, bI_0, bI_n, nI00, nI10, ne_eq, Classical.not_not, not_true_eq_false, not_false_eq_true, if_true, if_false, ite_not, ite_self, Bool.false_eq_true, nIne1, kMask, mask, O_mo, AR, e, ei, nIle, hin, nI_shr, nI_and, bit1, hbb, ms, g87, nI_add, g24, g24b, g88, hle']
          exact this
        · have hle' : (a.2.2.2 + 1 ≤ ct 2 i) = False := eq_false hle
          have := step (upd2 (upd2 (upd2 g' 189 (10 + 560 * c + 92 * i + 87) (nI (ct 1 i + 1))) 189 (10 + 560 * c + 92 * i + 24) (nI (a.2.2.2 + 1))) 189 (10 + 560 * c + 92 * i + 88) (nI (a.2.2.2 + 1))) (fun a ha => by rw [uN ha, uN ha, uN ha]) (hcar2 _ (fun j x y z => by rw [uO (Or.inr y), uO (Or.inr z), uO (Or.inr x)]) (by rw [uO (by omega), uS])) (fun t ht => by
            rw [hct2 t]
            have ht' : t = 0 ∨ t = 1 ∨ t = 2 := by omega
            rcases ht' with rfl | rfl | rfl
            · rw [if_neg (by omega), if_neg (by omega), uO (by omega), uO (by omega), uO (by omega)]; exact q4 0 (by omega)
            · rw [if_pos rfl, uO (by omega), uO (by omega), show 10 + 560 * c + 92 * i + 86 + 1 = 10 + 560 * c + 92 * i + 87 by omega, uS]
            · rw [if_neg (by omega), if_pos rfl, show 10 + 560 * c + 92 * i + 86 + 2 = 10 + 560 * c + 92 * i + 88 by omega, uS, Nat.max_eq_right (by omega)]) (fun j hj => by rw [uO (by omega), uO (by omega), uO (by omega)])
          simp (disch := first | assumption | omega) only [kb_X11_tick_221, kb_X11_tick_142, KL, KB, KC, KI, KJ, KZ, bI_0, bI_n, nI00, nI10, ne_eq, Classical.not_not, not_true_eq_false, not_false_eq_true, if_true, if_false, ite_not, ite_self, Bool.false_eq_true, nIne1, kMask, mask, O_mo, AR, e, ei, nIle, hin, nI_shr, nI_and, bit1, hbb, ms, g87, nI_add, g24, g24b, g88, hle']
          exact this
