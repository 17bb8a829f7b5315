-- ===== used: the model's loops, the agreement =====
theorem couple_ex {n : Nat} {co : Nat → List Goods} (n3 : 3 ≤ n) (n6 : n ≤ 6) (hco : ∀ r, n ≤ r → co r = []) {x y : Nat} (hxy : x / 2 ≠ y / 2) (tx : thB co x = true) (ty : thB co y = true) (f : Bool) : ∃ nu k, 1 ≤ nu ∧ nu < nuN co n ∧ k < ordMany n ∧ x / 2 < n ∧ y / 2 < n ∧ dgN n co nu (x / 2) = x % 2 + 1 ∧ dgN n co nu (y / 2) = y % 2 + 1 ∧ decide (ordRank n k (y / 2) < ordRank n k (x / 2)) = f := by
  have tx' := of_decide_eq_true tx
  have ty' := of_decide_eq_true ty
  have hxn : x / 2 < n := by
    apply Nat.lt_of_not_le
    intro q
    rw [hco _ q] at tx'
    exact absurd tx' (Nat.not_lt_zero _)
  have hyn : y / 2 < n := by
    apply Nat.lt_of_not_le
    intro q
    rw [hco _ q] at ty'
    exact absurd ty' (Nat.not_lt_zero _)
  have hd : DG n co (fun r => if r = x / 2 then x % 2 + 1 else if r = y / 2 then y % 2 + 1 else 0) := ⟨fun r => by
    simp only []
    split
    · rename_i e; rw [e]; exact tx'
    · split
      · rename_i e; rw [e]; exact ty'
      · exact Nat.zero_le _, fun r hr => by
    simp only []
    rw [if_neg (by omega), if_neg (by omega)]⟩
  have dx : (fun r => if r = x / 2 then x % 2 + 1 else if r = y / 2 then y % 2 + 1 else 0) (x / 2) = x % 2 + 1 := if_pos rfl
  have dy : (fun r => if r = x / 2 then x % 2 + 1 else if r = y / 2 then y % 2 + 1 else 0) (y / 2) = y % 2 + 1 := (if_neg (Ne.symm hxy)).trans (if_pos rfl)
  generalize (fun r => if r = x / 2 then x % 2 + 1 else if r = y / 2 then y % 2 + 1 else 0) = d at *
  have hv1 : 1 ≤ hv co d n := by
    apply Classical.byContradiction
    intro hc
    have h0 : hv co d n = hv co (fun _ => 0) n := by rw [hv_zero]; omega
    have := hv_inj n (fun q _ => hd.1 q) (fun q _ => Nat.zero_le _) h0 (x / 2) hxn
    rw [dx] at this
    omega
  have hvlt : hv co d n < nuN co n := by
    have : ∀ j, hv co d j + 1 ≤ nuN co j := by
      intro j
      induction j with
      | zero => exact Nat.le_refl _
      | succ j ihj =>
        have h2 := hd.1 j
        show hv co d j * ((co j).length + 1) + d j + 1 ≤ nuN co j * ((co j).length + 1)
        have := Nat.mul_le_mul_right ((co j).length + 1) ihj
        rw [Nat.add_mul, Nat.one_mul] at this
        omega
    exact this n
  have hdd := dgN_eq hd rfl
  rw [hdd] at dx dy
  cases f with
  | true =>
    obtain ⟨k, k1, k2⟩ := ord_ex n3 n6 hxn hyn hxy
    exact ⟨hv co d n, k, hv1, hvlt, k1, hxn, hyn, dx, dy, decide_eq_true k2⟩
  | false =>
    obtain ⟨k, k1, k2⟩ := ord_ex n3 n6 hyn hxn (Ne.symm hxy)
    exact ⟨hv co d n, k, hv1, hvlt, k1, hxn, hyn, dx, dy, decide_eq_false (by omega)⟩
theorem BAS.sm {g0 g g' : GG} (h : BAS g0 g) (h1 : SM g g') : BAS g0 g' := h.tr ⟨fun a a1 a2 a3 a4 a5 a6 a7 a8 a9 => h1 a a2 a3, fun i hi => by rw [h1 188 (by omega) (by omega)]⟩
theorem kIst_8 (k : KK) (a0 a1 a2 a3 a4 a5 a6 a7 : Value) (x : Int32) (st : List Value) (h : HP) : kIst 8 k [a0, a1, a2, a3, a4, a5, a6, a7] (.int x :: st) h = k [a0, a1, a2, a3, a4, a5, a6, a7, .int x] st h := rfl
theorem m_used73 {n kk k N i c s : Nat} {co : Nat → List Goods} {fa : FA} {rl : ARule} {d : Nat → Nat} {g : GG} {m o : Nat} (n3 : 3 ≤ n) (n6 : n ≤ 6) (hkk : kk < ordMany n) (h : LYK n kk co d g) (hd : DG n co d) (hlen : ∀ r, (co r).length ≤ 2) (hok : ∀ r, r < n → ∀ z ∈ co r, okGo n r z) (en : g 188 20 = nI n) (h5 : ∀ r, r < n → g 196 r = nI (fa 0 r) ∧ g 197 r = nI (fa 1 r) ∧ g 198 r = nI (fa 2 r)) (h35 : g 188 35 = nI 0) (hk : k < 4) (hw : wfR rl) (hM : ruleM g 189 k rl) (hs : sndU n co fa rl s) (s34 s52 : KK) (Q : RS → Prop) (fin : ∀ (g' : GG) (s' : Nat), SM g g' → SUB s s' → sndU n co fa rl s' → (∀ r, r < n → ∀ q, q < n → hitU n co fa rl d kk r q s') → Q (s52 [.ref 188, .int (nI k), .int (nI c), .int (nI s'), .int (nI N), .int (nI i), .int (nI (kk + 1)), .int (nI n)] [] (hp g' m o))) : Q (kl_X11_used_73 s34 s52 [.ref 188, .int (nI k), .int (nI c), .int (nI s), .int (nI N), .int (nI i), .int (nI kk), .int (nI 0)] [] (hp g m o)) := by
  unfold kl_X11_used_73
  refine kFor n (by unfold FU; omega) (fun r ls h' => ∃ (g' : GG) (s' : Nat) (u : List Value), ls = [.ref 188, .int (nI k), .int (nI c), .int (nI s'), .int (nI N), .int (nI i), .int (nI kk), .int (nI r)] ++ u ∧ h' = hp g' m o ∧ SM g g' ∧ SUB s s' ∧ sndU n co fa rl s' ∧ ∀ r', r' < r → ∀ q, q < n → hitU n co fa rl d kk r' q s') Q ?_ ?_ 0 _ _ (by omega) ⟨g, s, [], rfl, rfl, SM.rfl', SUB.rfl', hs, fun q' h => absurd h (by omega)⟩
  · rintro s0 ls h' ⟨g', s', u, rfl, rfl, h1, h2, h3, h4⟩
    have e : g' 188 20 = nI n := by rw [h1 188 (by omega) (by omega)]; exact en
    have hin : (n ≤ n) = True := eq_true (by omega)
    simp (disch := first | assumption | omega) only [KL, KB, KC, KI, KJ, KZ, bI_0, bI_n, nI00, nI10, ne_eq, Classical.not_not, not_true_eq_false, not_false_eq_true, if_true, if_false, ite_not, ite_self, Bool.false_eq_true, nIne1, List.cons_append, List.nil_append, kMask, mask, mask_n, O_mo, e, nIle, hin, nI_add]
    exact fin g' s' h1 h2 h3 h4
  · rintro s0 r hr ih ls h' ⟨g', s', u, rfl, rfl, h1, h2, h3, h4⟩
    have e : g' 188 20 = nI n := by rw [h1 188 (by omega) (by omega)]; exact en
    have hin : (n ≤ r) = False := eq_false (by omega)
    have h85 := m_used85 (m := m) (o := o) (N := N) (i := i) (c := c) n3 n6 hkk (h.congr h1) hd hlen hok hr e (fun r hr => by rw [h1 196 (by omega) (by omega), h1 197 (by omega) (by omega), h1 198 (by omega) (by omega)]; exact h5 r hr) (by rw [h1 188 (by omega) (by omega)]; exact h35) hk hw (hM.congr hw hk (fun i _ _ => by rw [h1 189 (by omega) (by omega)])) h3 s34 s52 s0 Q (fun g2 s2 w1 w2 w3 w4 => ih [.ref 188, .int (nI k), .int (nI c), .int (nI s2), .int (nI N), .int (nI i), .int (nI kk), .int (nI (r + 1)), .int (nI n)] (hp g2 m o) ⟨g2, s2, [.int (nI n)], rfl, rfl, h1.tr w1, h2.tr w2, w3, fun r' hr' q hq => by
      by_cases e : r' = r
      · subst e; exact w4 q hq
      · exact (h4 r' (by omega) q hq).mono w2⟩)
    simp (disch := first | assumption | omega) only [KL, KB, KC, KI, KJ, KZ, bI_0, bI_n, nI00, nI10, ne_eq, Classical.not_not, not_true_eq_false, not_false_eq_true, if_true, if_false, ite_not, ite_self, Bool.false_eq_true, nIne1, List.cons_append, List.nil_append, kMask, mask, mask_n, kIst_8, O_mo, e, nIle, hin, nI_add]
    exact h85
theorem m_used34 {n k c : Nat} {co : Nat → List Goods} {fa : FA} {rl : ARule} {g0 : GG} {m o : Nat} (hc : c < 6) (n3 : 3 ≤ n) (n6 : n ≤ 6) (hMO : MO c n co g0) (hco : ∀ r, n ≤ r → co r = []) (hok : ∀ r, r < n → ∀ z ∈ co r, okGo n r z) (h5 : ∀ r, r < n → g0 196 r = nI (fa 0 r) ∧ g0 197 r = nI (fa 1 r) ∧ g0 198 r = nI (fa 2 r)) (h35 : g0 188 35 = nI 0) (hk : k < 4) (hw : wfR rl) (hM : ruleM g0 189 k rl) : ∃ (s : Nat) (g' : GG), kl_X11_used_34 [.ref 188, .int (nI k), .int (nI c), .int (nI 0), .int (nI (nuN co n)), .int (nI 1)] [] (hp g0 m o) = some (some (.int (nI s)), hp g' m o) ∧ BAS g0 g' ∧ sndU n co fa rl s ∧ ∀ nu kk r q, 1 ≤ nu → nu < nuN co n → kk < ordMany n → r < n → q < n → hitU n co fa rl (dgN n co nu) kk r q s := by
  have hlen : ∀ r, (co r).length ≤ 2 := fun r => by
    by_cases q : r < n
    · exact (hMO.2 r q).1
    · rw [hco r (by omega)]; show 0 ≤ 2; omega
  have hpos := nuN_pos co n
  have hN2 : nuN co n ≤ 729 := Nat.le_trans (nuN_le co hlen n) (by have : (3 : Nat) ^ n ≤ 3 ^ 6 := Nat.pow_le_pow_right (by omega) n6; omega)
  have hm24 := ordMany_le (n := n) n6
  have eo := fun h => m_orders n n6 h
  unfold kl_X11_used_34
  refine kFor (nuN co n) (by unfold FU; omega) (fun i ls h' => ∃ (g' : GG) (s : Nat) (u : List Value), ls = [.ref 188, .int (nI k), .int (nI c), .int (nI s), .int (nI (nuN co n)), .int (nI i)] ++ u ∧ h' = hp g' m o ∧ 1 ≤ i ∧ BAS g0 g' ∧ sndU n co fa rl s ∧ ∀ nu kk r q, 1 ≤ nu → nu < i → kk < ordMany n → r < n → q < n → hitU n co fa rl (dgN n co nu) kk r q s) (fun r => ∃ (s : Nat) (g' : GG), r = some (some (.int (nI s)), hp g' m o) ∧ BAS g0 g' ∧ sndU n co fa rl s ∧ ∀ nu kk r q, 1 ≤ nu → nu < nuN co n → kk < ordMany n → r < n → q < n → hitU n co fa rl (dgN n co nu) kk r q s) ?_ ?_ 1 _ _ hpos ⟨g0, 0, [], rfl, rfl, Nat.le_refl _, BAS.rfl', sndU.zero, fun nu kk r q h1 h2 => by omega⟩
  · rintro s0 ls h' ⟨g', s, u, rfl, rfl, hi1, h1, h2, h3⟩
    have hin : (nuN co n ≤ nuN co n) = True := eq_true (by omega)
    simp (disch := first | assumption | omega) only [KL, KB, KC, KI, KJ, KZ, bI_0, bI_n, nI00, nI10, ne_eq, Classical.not_not, not_true_eq_false, not_false_eq_true, if_true, if_false, ite_not, ite_self, Bool.false_eq_true, nIne1, List.cons_append, List.nil_append, kMask, mask, mask_n, nIle, hin]
    exact ⟨s, g', rfl, h1, h2, h3⟩
  · rintro s0 i hi ih ls h' ⟨g', s, u, rfl, rfl, hi1, h1, h2, h3⟩
    have hin : (nuN co n ≤ i) = False := eq_false (by omega)
    have hMi : MO c n co g' := hMO.congr (h1.2 20 (by omega)) (h1.1 206 (by omega) (by omega) (by omega) (by omega) (by omega) (by omega) (by omega) (by omega) (by omega)) (h1.1 189 (by omega) (by omega) (by omega) (by omega) (by omega) (by omega) (by omega) (by omega) (by omega))
    obtain ⟨g2, e2, q1, q2⟩ := m_lays (m := m) (o := o) hc n3 n6 hMi hi hN2
    obtain ⟨hd, hdv⟩ := dgN_ok hi
    have hB2 : BAS g0 g2 := h1.tr ⟨fun a a1 a2 a3 a4 a5 a6 a7 a8 a9 => q1 a a4 a5 a6 a8 a9, fun i hi => by rw [q1 188 (by omega) (by omega) (by omega) (by omega) (by omega)]⟩
    have inn : (fun r => ∃ (s : Nat) (g' : GG), r = some (some (.int (nI s)), hp g' m o) ∧ BAS g0 g' ∧ sndU n co fa rl s ∧ ∀ nu kk r q, 1 ≤ nu → nu < nuN co n → kk < ordMany n → r < n → q < n → hitU n co fa rl (dgN n co nu) kk r q s) (kl_X11_used_52 s0 [.ref 188, .int (nI k), .int (nI c), .int (nI s), .int (nI (nuN co n)), .int (nI i), .int (nI 0)] [] (hp g2 m o)) := by
      unfold kl_X11_used_52
      refine kFor (ordMany n) (by unfold FU; omega) (fun kk ls h' => ∃ (g3 : GG) (s' : Nat) (u : List Value), ls = [.ref 188, .int (nI k), .int (nI c), .int (nI s'), .int (nI (nuN co n)), .int (nI i), .int (nI kk)] ++ u ∧ h' = hp g3 m o ∧ BAS g0 g3 ∧ LYR n 0 co (dgN n co i) g3 ∧ SUB s s' ∧ sndU n co fa rl s' ∧ ∀ k', k' < kk → ∀ r, r < n → ∀ q, q < n → hitU n co fa rl (dgN n co i) k' r q s') (fun r => ∃ (s : Nat) (g' : GG), r = some (some (.int (nI s)), hp g' m o) ∧ BAS g0 g' ∧ sndU n co fa rl s ∧ ∀ nu kk r q, 1 ≤ nu → nu < nuN co n → kk < ordMany n → r < n → q < n → hitU n co fa rl (dgN n co nu) kk r q s) ?_ ?_ 0 _ _ (by omega) ⟨g2, s, [], rfl, rfl, hB2, q2, SUB.rfl', h2, fun k' h => absurd h (by omega)⟩
      · rintro s1 ls h' ⟨g3, s', u, rfl, rfl, w1, w2, w3, w4, w5⟩
        have en3 : g3 188 20 = nI n := by rw [w1.2 20 (by omega)]; exact hMO.1
        have hin : (ordMany n ≤ ordMany n) = True := eq_true (by omega)
        have := ih [.ref 188, .int (nI k), .int (nI c), .int (nI s'), .int (nI (nuN co n)), .int (nI (i + 1)), .int (nI (ordMany n))] (hp g3 m o) ⟨g3, s', [.int (nI (ordMany n))], rfl, rfl, by omega, w1, w4, fun nu kk r q b1 b2 b3 b4 b5 => by
          by_cases e : nu = i
          · subst e; exact w5 kk b3 r b4 q b5
          · exact (h3 nu kk r q b1 (by omega) b3 b4 b5).mono w3⟩
        simp (disch := first | assumption | omega) only [KL, KB, KC, KI, KJ, KZ, bI_0, bI_n, nI00, nI10, ne_eq, Classical.not_not, not_true_eq_false, not_false_eq_true, if_true, if_false, ite_not, ite_self, Bool.false_eq_true, nIne1, List.cons_append, List.nil_append, kMask, mask, mask_n, O_mo, en3, eo, nIle, hin, nI_add]
        exact this
      · rintro s1 kk hkk ih2 ls h' ⟨g3, s', u, rfl, rfl, w1, w2, w3, w4, w5⟩
        have en3 : g3 188 20 = nI n := by rw [w1.2 20 (by omega)]; exact hMO.1
        have hin : (ordMany n ≤ kk) = False := eq_false (by omega)
        obtain ⟨g4, e4, r1, r2⟩ := m_ranks g3 m o n kk n3 n6 en3 hkk
        have hL4 : LYK n kk co (dgN n co i) g4 := ⟨w2.congr (fun a ha => r1 a (by omega)), r2⟩
        have hB4 : BAS g0 g4 := w1.tr ⟨fun a a1 a2 a3 a4 a5 a6 a7 a8 a9 => r1 a a7, fun i hi => by rw [r1 188 (by omega)]⟩
        have z := fun a (ha : a = 189 ∨ a = 196 ∨ a = 197 ∨ a = 198) => hB4.1 a (by omega) (by omega) (by omega) (by omega) (by omega) (by omega) (by omega) (by omega) (by omega)
        have h73 := m_used73 (m := m) (o := o) (N := nuN co n) (i := i) (c := c) n3 n6 hkk hL4 hd hlen hok (by rw [hB4.2 20 (by omega)]; exact hMO.1) (fun r hr => by rw [z 196 (by omega), z 197 (by omega), z 198 (by omega)]; exact h5 r hr) (by rw [hB4.2 35 (by omega)]; exact h35) hk hw (hM.congr hw hk (fun i _ _ => by rw [z 189 (by omega)])) w4 s0 s1 (fun r => ∃ (s : Nat) (g' : GG), r = some (some (.int (nI s)), hp g' m o) ∧ BAS g0 g' ∧ sndU n co fa rl s ∧ ∀ nu kk r q, 1 ≤ nu → nu < nuN co n → kk < ordMany n → r < n → q < n → hitU n co fa rl (dgN n co nu) kk r q s) (fun g5 s5 v1 v2 v3 v4 => ih2 [.ref 188, .int (nI k), .int (nI c), .int (nI s5), .int (nI (nuN co n)), .int (nI i), .int (nI (kk + 1)), .int (nI n)] (hp g5 m o) ⟨g5, s5, [.int (nI n)], rfl, rfl, hB4.sm v1, hL4.1.congr (fun a ha => v1 a (by omega) (by omega)), w3.tr v2, v3, fun k' hk' r hr q hq => by
          by_cases e : k' = kk
          · subst e; exact v4 r hr q hq
          · exact (w5 k' (by omega) r hr q hq).mono v2⟩)
        simp (disch := first | assumption | omega) only [KL, KB, KC, KI, KJ, KZ, bI_0, bI_n, nI00, nI10, ne_eq, Classical.not_not, not_true_eq_false, not_false_eq_true, if_true, if_false, ite_not, ite_self, Bool.false_eq_true, nIne1, List.cons_append, List.nil_append, kMask, mask, mask_n, O_mo, en3, eo, nIle, hin, e4]
        exact h73
    simp (disch := first | assumption | omega) only [KL, KB, KC, KI, KJ, KZ, bI_0, bI_n, nI00, nI10, ne_eq, Classical.not_not, not_true_eq_false, not_false_eq_true, if_true, if_false, ite_not, ite_self, Bool.false_eq_true, nIne1, List.cons_append, List.nil_append, kMask, mask, mask_n, O_mo, nIle, hin, e2]
    exact inn
theorem ag_used (a0 a1 : Int32) : Ag RT f_X10_used f_X11_used [.int a0, .int a1] := by
  intro j g m o hj hR
  rcases in_cases a1 5 (by decide) with ⟨c, hc, rfl⟩ | h1
  · have hc6 : c < 6 := by omega
    have hX := isX_live c hc6
    have hyc : (nI 0 ≤ nI c ∧ nI c ≤ nI 5) = True := eq_true (in_yes hc (by omega))
    obtain ⟨n, hx⟩ := hR.at hc6
    obtain ⟨n3, n6, en, em, -⟩ := id hx
    rcases in_cases a0 3 (by decide) with ⟨k, hk, rfl⟩ | h0
    · have hyk : (nI 0 ≤ nI k ∧ nI k ≤ nI 3) = True := eq_true (in_yes hk (by omega))
      have hk4 : k < 4 := by omega
      obtain ⟨co, fa, U, K, hCK, hMK, hco, hlen, hok⟩ := hR.comeP hc6 hx
      obtain ⟨s, g1, e1, p1, p2, p3, p4⟩ := c_usedLines (m := m) (o := o) hX (by omega) (by omega) n3 n6 hCK hco hk4
      have z81 : g1 189 = g 189 := p1 189 (by omega) (by omega) (by omega) (by omega)
      have z71 : g1 188 = g 188 := p1 188 (by omega) (by omega) (by omega) (by omega)
      have hMK3 : MK (10 + 560 * c) n co fa U K g1 := hMK.congr (by omega) (by omega) (FR8.of z81)
      obtain ⟨g4, e4, r1, r2, r3, r4⟩ := hMK3.base (m := 17 + 10 * c) (o := OO n) hc6 n6
      have h35 : g4 188 35 = nI 0 := by rw [r2 35 (by omega), z71]; exact hR.2.2.2.2.2.2.2.2
      obtain ⟨u1, u2⟩ := hMK3.2.2.2.1 k hk4
      have hnu := m_numbers (m := 17 + 10 * c) (o := OO n) n6 r3
      obtain ⟨s2, g5, e5, w1, w2, w3⟩ := m_used34 (m := 17 + 10 * c) (o := OO n) (k := k) (rl := U k) (fa := fa) hc6 n3 n6 r3 hco hok (fun r hr => ⟨(r4 r hr).1, (r4 r hr).2.1, (r4 r hr).2.2.1⟩) h35 hk4 u1 (u2.congr u1 hk4 (fun i _ _ => by rw [r1 189 (by omega) (by omega)]))
      have hss : s2 = s := w2.uniq p3 (fun x y f hf => by
        obtain ⟨t1, t2, t3, t4⟩ := ftB_th hf
        obtain ⟨nu, kk, b1, b2, b3, b4, b5, b6, b7, b8⟩ := couple_ex n3 n6 hco (Ne.symm t3) t1 t2 f
        have ex := slD_x b6
        have ey := slD_x b7
        have := w3 nu kk (x / 2) (y / 2) b1 b2 b3 b4 b5 (by omega) (by omega) (Ne.symm t3) (by rw [ex, ey]; exact t4)
        rw [ex, ey, b8] at this
        exact this) p4
      subst hss
      have hk1 : KEEP g g1 := KEEP.of (fun a x y z w => p1 a (by omega) (by omega) (by omega) (by omega)) (fun i _ => by rw [z71])
      have hk2 : KEEP g1 g4 := KEEP.of (fun a x y z w => r1 a (by omega) (by omega)) (fun i hi => r2 i (by omega))
      refine ⟨nI s2, g1, 17 + 10 * c, OO n, g5, ?_, ?_, hR.keep ((hk1.tr hk2).tr w1.keep)⟩
      · simp (disch := first | assumption | omega) only [f_X10_used, kb_X10_used_18, kb_X10_used_0, KL, KB, KC, KI, KJ, KZ, bI_0, bI_n, nI00, nI10, ne_eq, Classical.not_not, not_true_eq_false, not_false_eq_true, if_true, if_false, ite_not, ite_self, Bool.false_eq_true, nIne1, O_fp, O_co, O_w, XO, aalR, c_at g m o c hc6, c_within, hyk, e1]
      · simp (disch := first | assumption | omega) only [f_X11_used, kb_X11_used_16, kb_X11_used_176, kb_X11_used_174, kb_X11_used_0, KL, KB, KC, KI, KJ, KZ, bI_0, bI_n, nI00, nI10, ne_eq, Classical.not_not, not_true_eq_false, not_false_eq_true, if_true, if_false, ite_not, ite_self, Bool.false_eq_true, nIne1, O_mo, m_isCrossing, m_isIn, hyc, hyk, e4, hnu, e5]
    · refine ⟨-1, g, m, o, g, ?_, ?_, RT_mono _ _ _ _ hR⟩
      · simp (disch := first | assumption | omega) only [f_X10_used, kb_X10_used_18, kb_X10_used_0, KL, KB, KC, KI, KJ, KZ, bI_0, bI_n, nI00, nI10, ne_eq, Classical.not_not, not_true_eq_false, not_false_eq_true, if_true, if_false, ite_not, ite_self, Bool.false_eq_true, nIne1, O_fp, XO, c_at g m o c hc6, c_within, h0]
      · simp (disch := first | assumption | omega) only [f_X11_used, kb_X11_used_16, kb_X11_used_176, kb_X11_used_174, kb_X11_used_0, KL, KB, KC, KI, KJ, KZ, bI_0, bI_n, nI00, nI10, ne_eq, Classical.not_not, not_true_eq_false, not_false_eq_true, if_true, if_false, ite_not, ite_self, Bool.false_eq_true, nIne1, O_mo, m_isCrossing, m_isIn, hyc, h0]
  · refine ⟨-1, g, m, o, g, ?_, ?_, RT_mono _ _ _ _ hR⟩
    · simp (disch := first | assumption | omega) only [f_X10_used, kb_X10_used_18, kb_X10_used_0, KL, KB, KC, KI, KJ, KZ, bI_0, bI_n, nI00, nI10, ne_eq, Classical.not_not, not_true_eq_false, not_false_eq_true, if_true, if_false, ite_not, ite_self, Bool.false_eq_true, nIne1, O_fp, c_atN g m o a1 h1]
    · rcases in_cases a0 3 (by decide) with ⟨k, hk, rfl⟩ | h0
      · have hyk : (nI 0 ≤ nI k ∧ nI k ≤ nI 3) = True := eq_true (in_yes hk (by omega))
        simp (disch := first | assumption | omega) only [f_X11_used, kb_X11_used_16, kb_X11_used_176, kb_X11_used_174, kb_X11_used_0, KL, KB, KC, KI, KJ, KZ, bI_0, bI_n, nI00, nI10, ne_eq, Classical.not_not, not_true_eq_false, not_false_eq_true, if_true, if_false, ite_not, ite_self, Bool.false_eq_true, nIne1, O_mo, m_isCrossing, m_isIn, h1, hyk]
      · simp (disch := first | assumption | omega) only [f_X11_used, kb_X11_used_16, kb_X11_used_176, kb_X11_used_174, kb_X11_used_0, KL, KB, KC, KI, KJ, KZ, bI_0, bI_n, nI00, nI10, ne_eq, Classical.not_not, not_true_eq_false, not_false_eq_true, if_true, if_false, ite_not, ite_self, Bool.false_eq_true, nIne1, O_mo, m_isCrossing, m_isIn, h0]
