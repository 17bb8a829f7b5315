-- ===== odds: the model's loops; the agreement =====
theorem m_odds60 {c n road i : Nat} {co : Nat → List Goods} {V : Nat → Nat → Bool → Bool} {g0 g : GG} {m o : Nat} (n3 : 3 ≤ n) (n6 : n ≤ 6) (en0 : g0 188 20 = nI n) (hV : MWV n co V g0 m o) (hi : i < nuN co n) (hr : road < n) (hB : BAS g0 g) (hL : LYR n 0 co (dgN n co i) g) (T H N : Nat) (s42 : KK) (Q : RS → Prop) (fin : ∀ (g' : GG) (v : Value), BAS g0 g' → Q (s42 [.ref 188, .int (nI c), .int (nI road), .int (nI (T + hasNN n co road i * ordMany n)), .int (nI (H + hasNN n co road i * sumN (fun k => bN (!mayN n co V road i k)) (ordMany n))), .int (nI N), .int (nI (i + 1)), v] [] (hp g' m o))) : Q (kl_X11_odds_60 s42 [.ref 188, .int (nI c), .int (nI road), .int (nI T), .int (nI H), .int (nI N), .int (nI i), .int (nI 0)] [] (hp g m o)) := by
  obtain ⟨hd, -⟩ := dgN_ok hi
  have eo := fun h => m_orders n n6 h
  have hm24 := ordMany_le (n := n) n6
  have hm0 : 0 < ordMany n := by unfold ordMany; split; omega; split; omega; omega
  have r6 : road < 6 := by omega
  unfold hasNN at fin
  unfold kl_X11_odds_60
  by_cases h0 : 0 < dgN n co i road
  · rw [decide_eq_true h0] at fin
    refine kFor (ordMany n) (by unfold FU; omega) (fun k ls h => ∃ g', ls = [.ref 188, .int (nI c), .int (nI road), .int (nI (T + k)), .int (nI (H + sumN (fun k => bN (!mayN n co V road i k)) k)), .int (nI N), .int (nI i), .int (nI k)] ∧ h = hp g' m o ∧ BAS g0 g' ∧ LYR n 0 co (dgN n co i) g') Q ?_ ?_ 0 _ _ (by omega) ⟨g, rfl, rfl, hB, hL⟩
    · rintro s0 ls h ⟨g', rfl, rfl, h1, h2⟩
      have hin : (ordMany n ≤ ordMany n) = True := eq_true (by omega)
      have e20 : g' 188 20 = nI n := by rw [h1.2 20 (by omega)]; exact en0
      have := fin g' (.int (nI (ordMany n))) h1
      rw [show bN true = 1 from rfl, Nat.one_mul, Nat.one_mul] at this
      simp (disch := first | assumption | omega) only [kb_X11_odds_114, KL, KB, KC, KI, KJ, KZ, bI_0, bI_n, nI00, nI10, ne_eq, Classical.not_not, not_true_eq_false, not_false_eq_true, if_true, if_false, ite_not, ite_self, Bool.false_eq_true, nIne1, kMask, mask, mask_n, O_mo, e20, eo, nIle, hin, nI_add]
      exact this
    · rintro s0 k hk ih ls h ⟨g', rfl, rfl, h1, h2⟩
      have hin : (ordMany n ≤ k) = False := eq_false (by omega)
      have e20 : g' 188 20 = nI n := by rw [h1.2 20 (by omega)]; exact en0
      have eh : g' 207 road = bW true := by rw [(h2 road (by omega) hr).1, decide_eq_true h0]
      have hz : (bW true = 0) = False := eq_false (by decide)
      obtain ⟨g2, e2, q1, q2⟩ := m_ranks g' m o n k n3 n6 e20 hk
      have hB2 : BAS g0 g2 := h1.tr ⟨fun a _ _ _ _ _ _ a7 _ _ => q1 a a7, fun i _ => by rw [q1 188 (by omega)]⟩
      have hL2 : LYR n 0 co (dgN n co i) g2 := h2.congr (fun a ha => q1 a (by omega))
      have e20' : g2 188 20 = nI n := by rw [hB2.2 20 (by omega)]; exact en0
      have hMW := hV g2 (dgN n co i) k hd hk hB2 ⟨hL2, q2⟩
      obtain ⟨g3, e3, q3⟩ := m_mayGo (hL2.ml e20') n6 hMW road hr g2 (SM.rfl')
      have hB3 : BAS g0 g3 := hB2.sm q3
      have hL3 : LYR n 0 co (dgN n co i) g3 := hL2.congr (fun a ha => q3 a (by omega) (by omega))
      have hih := fun v => ih [.ref 188, .int (nI c), .int (nI road), .int (nI (T + (k + 1))), .int (nI (H + sumN (fun k => bN (!mayN n co V road i k)) k + v)), .int (nI N), .int (nI i), .int (nI (k + 1))] (hp g3 m o)
      have hmy : mayN n co V road i k = mayP n (sD n (dgN n co i)) (WD n k co V (dgN n co i)) road := rfl
      have hss : sumN (fun k => bN (!mayN n co V road i k)) (k + 1) = sumN (fun k => bN (!mayN n co V road i k)) k + bN (!mayN n co V road i k) := rfl
      cases hp' : mayP n (sD n (dgN n co i)) (WD n k co V (dgN n co i)) road with
      | true =>
        rw [hp'] at e3 hmy
        have hz' : (bW true = 0) = False := eq_false (by decide)
        have := hih 0 ⟨g3, by rw [hss, hmy]; rfl, rfl, hB3, hL3⟩
        simp (disch := first | assumption | omega) only [kb_X11_odds_114, kb_X11_odds_105, KL, KB, KC, KI, KJ, KZ, bI_0, bI_n, nI00, nI10, ne_eq, Classical.not_not, not_true_eq_false, not_false_eq_true, if_true, if_false, ite_not, ite_self, Bool.false_eq_true, nIne1, kMask, mask, mask_n, O_mo, e20, eo, nIle, hin, AR, eh, hz, e2, e3, nI_add]
        exact this
      | false =>
        rw [hp'] at e3 hmy
        have hz' : (bW false = 0) = True := eq_true rfl
        have := hih 1 ⟨g3, by rw [hss, hmy]; rfl, rfl, hB3, hL3⟩
        simp (disch := first | assumption | omega) only [kb_X11_odds_114, kb_X11_odds_105, KL, KB, KC, KI, KJ, KZ, bI_0, bI_n, nI00, nI10, ne_eq, Classical.not_not, not_true_eq_false, not_false_eq_true, if_true, if_false, ite_not, ite_self, Bool.false_eq_true, nIne1, kMask, mask, mask_n, O_mo, e20, eo, nIle, hin, AR, eh, hz, hz', e2, e3, nI_add]
        exact this
  · rw [decide_eq_false h0] at fin
    have hin : (ordMany n ≤ 0) = False := eq_false (by omega)
    have e20 : g 188 20 = nI n := by rw [hB.2 20 (by omega)]; exact en0
    have eh : g 207 road = bW false := by rw [(hL road (by omega) hr).1, decide_eq_false h0]
    have hz : (bW false = 0) = True := eq_true rfl
    have := fin g (.int (nI 0)) hB
    rw [show bN false = 0 from rfl, Nat.zero_mul, Nat.zero_mul, Nat.add_zero, Nat.add_zero] at this
    have hF : FU = (FU - 1) + 1 := rfl
    rw [hF]
    show Q ((kFix _ ((FU - 1) + 1)) _ _ _)
    unfold kFix
    simp (disch := first | assumption | omega) only [kb_X11_odds_114, kb_X11_odds_105, KL, KB, KC, KI, KJ, KZ, bI_0, bI_n, nI00, nI10, ne_eq, Classical.not_not, not_true_eq_false, not_false_eq_true, if_true, if_false, ite_not, ite_self, Bool.false_eq_true, nIne1, kMask, mask, mask_n, O_mo, e20, eo, nIle, hin, AR, eh, hz, nI_add]
    exact this
theorem nuN_pos1 {n : Nat} {co : Nat → List Goods} : 1 ≤ nuN co n := nuN_pos co n
theorem sum01 {f : Nat → Nat} (h : f 0 = 0) : sumN f 1 = 0 := by show 0 + f 0 = 0; omega
theorem has_zero {n road : Nat} {co : Nat → List Goods} : hasNN n co road 0 = 0 := by
  unfold hasNN
  rw [dgN_zero road]
  rfl
theorem m_odds42 {c n road : Nat} {co : Nat → List Goods} {V : Nat → Nat → Bool → Bool} {g0 : GG} {m o : Nat} (hc : c < 6) (n3 : 3 ≤ n) (n6 : n ≤ 6) (hM : MO c n co g0) (hco : ∀ r, n ≤ r → co r = []) (hV : MWV n co V g0 m o) (hr : road < n) (h1 : 0 < allN n co road) (h2 : allN n co road < 100000) (h3 : heldN n co V road (nuN co n) ≤ allN n co road) : ∃ g', kl_X11_odds_42 [.ref 188, .int (nI c), .int (nI road), .int (nI 0), .int (nI 0), .int (nI (nuN co n)), .int (nI 1)] [] (hp g0 m o) = some (some (.int (nI (1000 * heldN n co V road (nuN co n) / allN n co road))), hp g' m o) ∧ BAS g0 g' := by
  have hlen : ∀ r, (co r).length ≤ 2 := fun r => by
    by_cases q : r < n
    · exact (hM.2 r q).1
    · rw [hco r (by omega)]; show 0 ≤ 2; omega
  have hpos := nuN_pos co n
  have hN2 : nuN co n ≤ 729 := Nat.le_trans (nuN_le co hlen n) (by have : (3 : Nat) ^ n ≤ 3 ^ 6 := Nat.pow_le_pow_right (by omega) n6; omega)
  unfold kl_X11_odds_42
  refine kFor (nuN co n) (by unfold FU; omega) (fun i ls h => ∃ (g' : GG) (u : List Value), ls = [.ref 188, .int (nI c), .int (nI road), .int (nI (thereN n co road i)), .int (nI (heldN n co V road i)), .int (nI (nuN co n)), .int (nI i)] ++ u ∧ h = hp g' m o ∧ BAS g0 g') (fun r => ∃ g', r = some (some (.int (nI (1000 * heldN n co V road (nuN co n) / allN n co road))), hp g' m o) ∧ BAS g0 g') ?_ ?_ 1 _ _ hpos ⟨g0, [], ?_, rfl, BAS.rfl'⟩
  · rintro s0 ls h ⟨g', u, rfl, rfl, hB⟩
    have hin : (nuN co n ≤ nuN co n) = True := eq_true (by omega)
    have ht := there_all (co := co) hr
    have hz : (nI (allN n co road) = 0) = False := by rw [nIk0 (by omega)]; exact eq_false (by omega)
    generalize heldN n co V road (nuN co n) = H at *
    generalize allN n co road = A at *
    simp (disch := first | assumption | omega) only [kb_X11_odds_114, KL, KB, KC, KI, KJ, KZ, bI_0, bI_n, nI00, nI10, ne_eq, Classical.not_not, not_true_eq_false, not_false_eq_true, if_true, if_false, ite_not, ite_self, Bool.false_eq_true, nIne1, List.cons_append, List.nil_append, kMask, mask, mask_n, nIle, hin, ht, hz, nI_mul, nI_div]
    exact ⟨g', rfl, hB⟩
  · rintro s0 i hi ih ls h ⟨g', u, rfl, rfl, hB⟩
    have hin : (nuN co n ≤ i) = False := eq_false (by omega)
    have hMi : MO c n co g' := hM.congr (hB.2 20 (by omega)) (hB.1 206 (by omega) (by omega) (by omega) (by omega) (by omega) (by omega) (by omega) (by omega) (by omega)) (hB.1 189 (by omega) (by omega) (by omega) (by omega) (by omega) (by omega) (by omega) (by omega) (by omega))
    obtain ⟨g2, e2, q1, q2⟩ := m_lays (m := m) (o := o) hc n3 n6 hMi hi hN2
    have hB2 : BAS g0 g2 := hB.tr ⟨fun a a1 a2 a3 a4 a5 a6 a7 a8 a9 => q1 a a4 a5 a6 a8 a9, fun i hi => by rw [q1 188 (by omega) (by omega) (by omega) (by omega) (by omega)]⟩
    have h60 := m_odds60 (c := c) n3 n6 hM.1 hV hi hr hB2 q2 (thereN n co road i) (heldN n co V road i) (nuN co n) s0 (fun r => ∃ g', r = some (some (.int (nI (1000 * heldN n co V road (nuN co n) / allN n co road))), hp g' m o) ∧ BAS g0 g') (fun g3 v hB3 => ih _ _ ⟨g3, [v], rfl, rfl, hB3⟩)
    simp (disch := first | assumption | omega) only [kb_X11_odds_114, KL, KB, KC, KI, KJ, KZ, bI_0, bI_n, nI00, nI10, ne_eq, Classical.not_not, not_true_eq_false, not_false_eq_true, if_true, if_false, ite_not, ite_self, Bool.false_eq_true, nIne1, List.cons_append, List.nil_append, kMask, mask, mask_n, nIle, hin, O_mo, e2]
    exact h60
  · have e1 : thereN n co road 1 = 0 := sum01 (by show hasNN n co road 0 * _ = 0; rw [has_zero, Nat.zero_mul])
    have e2 : heldN n co V road 1 = 0 := sum01 (by show hasNN n co road 0 * _ = 0; rw [has_zero, Nat.zero_mul])
    rw [e1, e2]
    rfl
theorem ag_odds (a0 a1 : Int32) : Ag RT f_X10_odds f_X11_odds [.int a0, .int a1] := by
  intro j g m o hj hR
  rcases in_cases a0 5 (by decide) with ⟨c, hc, rfl⟩ | h0
  · have hc6 : c < 6 := by omega
    have hX := isX_live c hc6
    have hyc : (nI 0 ≤ nI c ∧ nI c ≤ nI 5) = True := eq_true (in_yes hc (by omega))
    obtain ⟨n, hx⟩ := hR.at hc6
    obtain ⟨n3, n6, en, em, -⟩ := id hx
    rcases in_cases a1 (n - 1) (by omega) with ⟨r, hr, rfl⟩ | h1
    · have hyr : (nI 0 ≤ nI r ∧ nI r ≤ nI (n - 1)) = True := eq_true (in_yes hr (by omega))
      have hrn : r < n := by omega
      have r6 : r < 6 := by omega
      obtain ⟨co, fa, U, K, hCK, hMK, hco, hlen, hok⟩ := hR.comeP hc6 hx
      have el : g (17 + 10 * c + 4) r = nI (co r).length := (hCK.co.2 r (by omega)).2.2.2.1
      obtain ⟨g4, e4, r1, r2, r3, r4⟩ := hMK.base (m := m) (o := o) hc6 n6
      have el4 : g4 206 r = nI (co r).length := (r3.2 r hrn).2.2.1
      by_cases hz : (co r).length = 0
      · have hk2 : KEEP g g4 := KEEP.of (fun a x y z w => r1 a (by omega) (by omega)) (fun i hi => r2 i (by omega))
        rw [hz] at el el4
        refine ⟨-1, g, m, o, g4, ?_, ?_, hR.keep hk2⟩
        · simp (disch := first | assumption | omega) only [f_X10_odds, kb_X10_odds_18, kb_X10_odds_0, KL, KB, KC, KI, KJ, KZ, bI_0, bI_n, nI00, nI10, ne_eq, Classical.not_not, not_true_eq_false, not_false_eq_true, if_true, if_false, ite_not, ite_self, Bool.false_eq_true, nIne1, O_fp, O_co, XO, AR, c_at g m o c hc6, x_hasRoad g m o _ n _ hX en, hyr, el]
        · simp (disch := first | assumption | omega) only [f_X11_odds, kb_X11_odds_114, kb_X11_odds_105, kb_X11_odds_0, KL, KB, KC, KI, KJ, KZ, bI_0, bI_n, nI00, nI10, ne_eq, Classical.not_not, not_true_eq_false, not_false_eq_true, if_true, if_false, ite_not, ite_self, Bool.false_eq_true, nIne1, O_mo, AR, m_isRoad _ m o c n _ hc6 em, hyr, e4, el4]
      · have hl0 : 0 < (co r).length := by omega
        have hlz : (nI (co r).length = 0) = False := by rw [nIk0 (by have := hlen r; omega)]; exact eq_false hz
        obtain ⟨b1, b2⟩ := all_bd (road := r) n3 n6 hlen hl0
        obtain ⟨g1, e1, p1, p2, p3, p4⟩ := c_askByRule (m := m) (o := o) hX (by omega) (by omega) n3 n6 hCK (-1) (fun r => K (fa 3 r)) (Or.inl ⟨rfl, fun _ => rfl⟩)
        have z71 : g1 188 = g 188 := p1 188 (by omega) (by omega) (by omega) (by omega) (by omega) (by omega) (by omega)
        have z81 : g1 189 = g 189 := p1 189 (by omega) (by omega) (by omega) (by omega) (by omega) (by omega) (by omega)
        have hMK3 : MK (10 + 560 * c) n co fa U K g1 := hMK.congr (by omega) (by omega) (FR8.of z81)
        clear e4 r1 r2 r3 r4 el4
        obtain ⟨g4, e4, r1, r2, r3, r4⟩ := hMK3.base (m := 17 + 10 * c) (o := OO n) hc6 n6
        have el4 : g4 206 r = nI (co r).length := (r3.2 r hrn).2.2.1
        have h34 : g4 188 34 = -1 := by rw [r2 34 (by omega), z71]; exact hR.2.2.2.2.2.2.2.1
        have h33 : g4 188 33 = -1 := by rw [r2 33 (by omega), z71]; exact hR.2.2.2.2.2.2.1
        have h35 : g4 188 35 = nI 0 := by rw [r2 35 (by omega), z71]; exact hR.2.2.2.2.2.2.2.2
        have hV : MWV n co (VR n co fa (fun r => U (K (fa 3 r)))) g4 (17 + 10 * c) (OO n) := mwv_of (kr := fun r => K (fa 3 r)) n3 n6 hlen hok r3.1 (fun r hr => ⟨(r4 r hr).1, (r4 r hr).2.1, (r4 r hr).2.2.1⟩) h35 h33 (hMK3.rules n6 (r1 189 (by omega) (by omega)) (fun r hr => (r4 r hr).2.2.2) h34)
        have hha := held_all (V := VR n co fa (fun r => U (K (fa 3 r)))) n6 hlen hco hrn
        have hO : ORD g1 := (show ORD g from hR.2.2.2.2.2.1).congr (fun a x y => p1 a (by omega) (by omega) (by omega) (by omega) (by omega) (by omega) (by omega))
        have hC1 : CO (17 + 10 * c) n co g1 := hCK.co.congr (p1 _ (by omega) (by omega) (by omega) (by omega) (by omega) (by omega) (by omega)) (p1 _ (by omega) (by omega) (by omega) (by omega) (by omega) (by omega) (by omega)) (p1 _ (by omega) (by omega) (by omega) (by omega) (by omega) (by omega) (by omega))
        have ec := c_oddsOf (X := 17 + 10 * c) (V := VR n co fa (fun r => U (K (fa 3 r)))) hX n3 n6 hC1 hlen hO p4 hrn b1 b2 (by omega)
        have hnu := m_numbers (m := 17 + 10 * c) (o := OO n) n6 r3
        obtain ⟨g5, e5, w1⟩ := m_odds42 (m := 17 + 10 * c) (o := OO n) hc6 n3 n6 r3 hco hV hrn b1 b2 (by omega)
        rw [show heldN n co (VR n co fa (fun r => U (K (fa 3 r)))) r (nuN co n) = allN n co r - goneN n co (VR n co fa (fun r => U (K (fa 3 r)))) r by omega] at e5
        have hk1 : KEEP g g1 := KEEP.of (fun a x y z w => p1 a (by omega) (by omega) (by omega) (by omega) (by omega) (by omega) (by omega)) (fun i _ => by rw [z71])
        have hk2 : KEEP g1 g4 := KEEP.of (fun a x y z w => r1 a (by omega) (by omega)) (fun i hi => r2 i (by omega))
        have hk3 : KEEP g4 g5 := w1.keep
        refine ⟨nI (1000 * (allN n co r - goneN n co (VR n co fa (fun r => U (K (fa 3 r)))) r) / allN n co r), g1, 17 + 10 * c, OO n, g5, ?_, ?_, hR.keep ((hk1.tr hk2).tr hk3)⟩
        · simp (disch := first | assumption | omega) only [f_X10_odds, kb_X10_odds_18, kb_X10_odds_0, KL, KB, KC, KI, KJ, KZ, bI_0, bI_n, nI00, nI10, ne_eq, Classical.not_not, not_true_eq_false, not_false_eq_true, if_true, if_false, ite_not, ite_self, Bool.false_eq_true, nIne1, O_fp, O_co, XO, AR, c_at g m o c hc6, x_hasRoad g m o _ n _ hX en, hyr, el, hlz, e1, ec]
        · have em1 : g1 189 (10 + 560 * c + 552) = nI n := by rw [z81]; exact em
          simp (disch := first | assumption | omega) only [f_X11_odds, kb_X11_odds_114, kb_X11_odds_105, kb_X11_odds_0, KL, KB, KC, KI, KJ, KZ, bI_0, bI_n, nI00, nI10, ne_eq, Classical.not_not, not_true_eq_false, not_false_eq_true, if_true, if_false, ite_not, ite_self, Bool.false_eq_true, nIne1, O_mo, AR, m_isRoad _ _ _ c n _ hc6 em1, hyr, e4, el4, hlz, hnu, e5]
    · refine ⟨-2, g, m, o, g, ?_, ?_, RT_mono _ _ _ _ hR⟩
      · simp (disch := first | assumption | omega) only [f_X10_odds, kb_X10_odds_18, kb_X10_odds_0, KL, KB, KC, KI, KJ, KZ, bI_0, bI_n, nI00, nI10, ne_eq, Classical.not_not, not_true_eq_false, not_false_eq_true, if_true, if_false, ite_not, ite_self, Bool.false_eq_true, nIne1, O_fp, XO, c_at g m o c hc6, x_hasRoad g m o _ n _ hX en, h1]
      · simp (disch := first | assumption | omega) only [f_X11_odds, kb_X11_odds_114, kb_X11_odds_105, kb_X11_odds_0, KL, KB, KC, KI, KJ, KZ, bI_0, bI_n, nI00, nI10, ne_eq, Classical.not_not, not_true_eq_false, not_false_eq_true, if_true, if_false, ite_not, ite_self, Bool.false_eq_true, nIne1, O_mo, m_isRoad _ m o c n _ hc6 em, h1]
  · refine ⟨-2, g, m, o, g, ?_, ?_, RT_mono _ _ _ _ hR⟩
    · simp (disch := first | assumption | omega) only [f_X10_odds, kb_X10_odds_18, kb_X10_odds_0, KL, KB, KC, KI, KJ, KZ, bI_0, bI_n, nI00, nI10, ne_eq, Classical.not_not, not_true_eq_false, not_false_eq_true, if_true, if_false, ite_not, ite_self, Bool.false_eq_true, nIne1, O_fp, c_atN g m o a0 h0]
    · simp (disch := first | assumption | omega) only [f_X11_odds, kb_X11_odds_114, kb_X11_odds_105, kb_X11_odds_0, KL, KB, KC, KI, KJ, KZ, bI_0, bI_n, nI00, nI10, ne_eq, Classical.not_not, not_true_eq_false, not_false_eq_true, if_true, if_false, ite_not, ite_self, Bool.false_eq_true, nIne1, O_mo, m_isRoadN g m o a0 a1 h0]
