-- ===== used: the model =====
/-- what a state laid out in an order adds for two of its roads -/
def hitU (n : Nat) (co : Nat → List Goods) (fa : FA) (rl : ARule) (d : Nat → Nat) (kk r q s : Nat) : Prop := 0 < d r → 0 < d q → r ≠ q → wayB r (cG co (xD d r)).1 q (cG co (xD d q)).1 = true → inU (LNv n co fa rl (xD d r) (xD d q) (decide (ordRank n kk q < ordRank n kk r))) s
theorem hitU.mono {n : Nat} {co : Nat → List Goods} {fa : FA} {rl : ARule} {d : Nat → Nat} {kk r q s t : Nat} (h : hitU n co fa rl d kk r q s) (h2 : SUB s t) : hitU n co fa rl d kk r q t := fun a b c e => (h a b c e).mono h2
theorem LYK.congr {n k : Nat} {co : Nat → List Goods} {d : Nat → Nat} {g g' : GG} (h : LYK n k co d g) (h1 : SM g g') : LYK n k co d g' := ⟨h.1.congr (fun a ha => h1 a (by omega) (by omega)), fun r hr => by rw [h1 203 (by omega) (by omega)]; exact h.2 r hr⟩
theorem LYK.cM {n k : Nat} {co : Nat → List Goods} {d : Nat → Nat} {g : GG} (n3 : 3 ≤ n) (n6 : n ≤ 6) (hk : k < ordMany n) (h : LYK n k co d g) (hd : DG n co d) (hlen : ∀ r, (co r).length ≤ 2) (hok : ∀ r, r < n → ∀ z ∈ co r, okGo n r z) {r : Nat} (hr : r < n) (h0 : 0 < d r) : cM g n r (cG co (xD d r), ordRank n k r, 0, 0) 0 := by
  obtain ⟨w2, w3, w4⟩ := h.1 r (by omega) hr
  obtain ⟨a1, a2, a3⟩ := w4 h0
  have hrk := (ord_p n3 n6 hk hr).2.2.1
  exact ⟨hok r hr _ (List.mem_of_getElem? (cG_x (hd.1 r) (hlen r) h0)), by show ordRank n k r ≤ 99; omega, by show 0 ≤ 2; omega, by show 0 < 1000000; omega, a1, a2, a3, h.2 r hr, w3, fun e => absurd e (by omega)⟩
theorem m_fl {n kk k r q : Nat} {co : Nat → List Goods} {fa : FA} {rl : ARule} {d : Nat → Nat} {g : GG} {m o : Nat} (n3 : 3 ≤ n) (n6 : n ≤ 6) (hkk : kk < ordMany n) (h : LYK n kk co d g) (hd : DG n co d) (hlen : ∀ r, (co r).length ≤ 2) (hok : ∀ r, r < n → ∀ z ∈ co r, okGo n r z) (hr : r < n) (hq : q < n) (r0 : 0 < d r) (q0 : 0 < d q) (en : g 188 20 = nI n) (h5 : ∀ r, r < n → g 196 r = nI (fa 0 r) ∧ g 197 r = nI (fa 1 r) ∧ g 198 r = nI (fa 2 r)) (h35 : g 188 35 = nI 0) (hk : k < 4) (hw : wfR rl) (hM : ruleM g 189 k rl) : ∃ g', f_X11_firstLine [.ref 188, .int (nI k), .int (nI r), .int (nI q)] (hp g m o) = some (some (.int (LNv n co fa rl (xD d r) (xD d q) (decide (ordRank n kk q < ordRank n kk r)))), hp g' m o) ∧ SM g g' := by
  have c1 := h.cM n3 n6 hkk hd hlen hok hr r0
  have c2 := h.cM n3 n6 hkk hd hlen hok hq q0
  obtain ⟨g1, e1, p1, p2⟩ := m_gathers g m o n r q 0 _ _ en n3 n6 hr hq c1 c2 (by omega) h35
  have hM1 : ruleM g1 189 k rl := hM.congr hw hk (fun i _ _ => by rw [p1 189 (by omega)])
  obtain ⟨g2, e2, p3⟩ := m_first g1 m o k rl _ hk hM1 hw p2 (.int (nI r)) (.int (nI q))
  refine ⟨g2, ?_, fun a q r => by rw [p3 a q, p1 a r]⟩
  have l1 := hd.1 r
  have l2 := hd.1 q
  have l3 := hlen r
  have l4 := hlen q
  have ex : xD d r / 2 = r := by unfold xD; omega
  have ey : xD d q / 2 = q := by unfold xD; omega
  have hu : fvec n r q (g 196) (g 197) (g 198) (cG co (xD d r)) (cG co (xD d q)) (firstV 0 (cG co (xD d r), ordRank n kk r, 0, 0) (cG co (xD d q), ordRank n kk q, 0, 0)) = UF n co fa (xD d r) (xD d q) (decide (ordRank n kk q < ordRank n kk r)) := by
    unfold UF
    rw [ex, ey]
    exact fvec_congr (h5 r hr).1 (h5 q hq).1 (h5 r hr).2.1 (h5 q hq).2.1 (h5 r hr).2.2 (h5 q hq).2.2
  have e2' : kl_X11_firstLine_9 [.ref 188, .int (nI k), .int (nI r), .int (nI q), .int (nI 0)] [] (hp g1 m o) = some (some (.int (LNv n co fa rl (xD d r) (xD d q) (decide (ordRank n kk q < ordRank n kk r)))), hp g2 m o) := by
    unfold LNv
    rw [← hu]
    exact e2
  simp (disch := first | assumption | omega) only [f_X11_firstLine, kb_X11_firstLine_0, KL, KB, KC, KI, KJ, KZ, bI_0, bI_n, nI00, nI10, ne_eq, Classical.not_not, not_true_eq_false, not_false_eq_true, if_true, if_false, ite_not, ite_self, Bool.false_eq_true, nIne1, O_mo, e1]
  exact e2'
theorem kIst_9 (k : KK) (a0 a1 a2 a3 a4 a5 a6 a7 a8 : Value) (x : Int32) (st : List Value) (h : HP) : kIst 9 k [a0, a1, a2, a3, a4, a5, a6, a7, a8] (.int x :: st) h = k [a0, a1, a2, a3, a4, a5, a6, a7, a8, .int x] st h := rfl
theorem kIld_9 (k : KK) (a0 a1 a2 a3 a4 a5 a6 a7 a8 : Value) (x : Int32) (l st : List Value) (h : HP) : kIld 9 k (a0 :: a1 :: a2 :: a3 :: a4 :: a5 :: a6 :: a7 :: a8 :: .int x :: l) st h = k (a0 :: a1 :: a2 :: a3 :: a4 :: a5 :: a6 :: a7 :: a8 :: .int x :: l) (.int x :: st) h := rfl
theorem kIst_39 (k : KK) (a0 a1 a2 a3 : Value) (x : Int32) (l st : List Value) (h : HP) : kIst 3 k (a0 :: a1 :: a2 :: a3 :: l) (.int x :: st) h = k (a0 :: a1 :: a2 :: .int x :: l) st h := rfl
theorem kInc_89 (k : KK) (a0 a1 a2 a3 a4 a5 a6 a7 : Value) (x d : Int32) (l st : List Value) (h : HP) : kInc 8 d k (a0 :: a1 :: a2 :: a3 :: a4 :: a5 :: a6 :: a7 :: .int x :: l) st h = k (a0 :: a1 :: a2 :: a3 :: a4 :: a5 :: a6 :: a7 :: .int (x + d) :: l) st h := rfl
theorem m_used85 {n kk k r N i c s : Nat} {co : Nat → List Goods} {fa : FA} {rl : ARule} {d : Nat → Nat} {g : GG} {m o : Nat} (n3 : 3 ≤ n) (n6 : n ≤ 6) (hkk : kk < ordMany n) (h : LYK n kk co d g) (hd : DG n co d) (hlen : ∀ r, (co r).length ≤ 2) (hok : ∀ r, r < n → ∀ z ∈ co r, okGo n r z) (hr : r < n) (en : g 188 20 = nI n) (h5 : ∀ r, r < n → g 196 r = nI (fa 0 r) ∧ g 197 r = nI (fa 1 r) ∧ g 198 r = nI (fa 2 r)) (h35 : g 188 35 = nI 0) (hk : k < 4) (hw : wfR rl) (hM : ruleM g 189 k rl) (hs : sndU n co fa rl s) (s34 s52 s73 : KK) (Q : RS → Prop) (fin : ∀ (g' : GG) (s' : Nat), SM g g' → SUB s s' → sndU n co fa rl s' → (∀ q, q < n → hitU n co fa rl d kk r q s') → Q (s73 [.ref 188, .int (nI k), .int (nI c), .int (nI s'), .int (nI N), .int (nI i), .int (nI kk), .int (nI (r + 1)), .int (nI n)] [] (hp g' m o))) : Q (kl_X11_used_85 s34 s52 s73 [.ref 188, .int (nI k), .int (nI c), .int (nI s), .int (nI N), .int (nI i), .int (nI kk), .int (nI r), .int (nI 0)] [] (hp g m o)) := by
  unfold kl_X11_used_85
  refine kFor n (by unfold FU; omega) (fun q ls h' => ∃ (g' : GG) (s' : Nat) (u : List Value), ls = [.ref 188, .int (nI k), .int (nI c), .int (nI s'), .int (nI N), .int (nI i), .int (nI kk), .int (nI r), .int (nI q)] ++ u ∧ h' = hp g' m o ∧ SM g g' ∧ SUB s s' ∧ sndU n co fa rl s' ∧ ∀ q', q' < q → hitU n co fa rl d kk r q' s') Q ?_ ?_ 0 _ _ (by omega) ⟨g, s, [], rfl, rfl, SM.rfl', SUB.rfl', hs, fun q' h => absurd h (by omega)⟩
  · rintro s0 ls h' ⟨g', s', u, rfl, rfl, h1, h2, h3, h4⟩
    have e : g' 188 20 = nI n := by rw [h1 188 (by omega) (by omega)]; exact en
    have hin : (n ≤ n) = True := eq_true (by omega)
    simp (disch := first | assumption | omega) only [KL, KB, KC, KI, KJ, KZ, bI_0, bI_n, nI00, nI10, ne_eq, Classical.not_not, not_true_eq_false, not_false_eq_true, if_true, if_false, ite_not, ite_self, Bool.false_eq_true, nIne1, List.cons_append, List.nil_append, kMask, mask, mask_n, O_mo, e, nIle, hin, nI_add]
    exact fin g' s' h1 h2 h3 h4
  · rintro s0 q hq ih ls h' ⟨g', s', u, rfl, rfl, h1, h2, h3, h4⟩
    have e : g' 188 20 = nI n := by rw [h1 188 (by omega) (by omega)]; exact en
    have hin : (n ≤ q) = False := eq_false (by omega)
    have r6 : r < 6 := by omega
    have q6 : q < 6 := by omega
    have hL := h.congr h1
    have h16r := (hL.1 r (by omega) hr).1
    have h16q := (hL.1 q (by omega) hq).1
    have z00 : (nI 0 = 0) = True := eq_true rfl
    have z10 : (nI 1 = 0) = False := eq_false (by decide)
    have skip : ∀ (u : List Value), (0 < d r → 0 < d q → r ≠ q → wayB r (cG co (xD d r)).1 q (cG co (xD d q)).1 = true → False) → Q (s0 ([.ref 188, .int (nI k), .int (nI c), .int (nI s'), .int (nI N), .int (nI i), .int (nI kk), .int (nI r), .int (nI (q + 1))] ++ u) [] (hp g' m o)) := fun u hno => ih _ _ ⟨g', s', u, rfl, rfl, h1, h2, h3, fun q' hq' => by
      by_cases e : q' = q
      · subst e; exact fun a b c w => (hno a b c w).elim
      · exact h4 q' (by omega)⟩
    have sk0 := skip []
    simp only [List.cons_append, List.nil_append] at sk0
    by_cases hrq : r = q
    · have hne : (nI r = nI q) = True := eq_true (by rw [hrq])
      simp (disch := first | assumption | omega) only [kb_X11_used_176, KL, KB, KC, KI, KJ, KZ, bI_0, bI_n, nI00, nI10, ne_eq, Classical.not_not, not_true_eq_false, not_false_eq_true, if_true, if_false, ite_not, ite_self, Bool.false_eq_true, nIne1, List.cons_append, List.nil_append, kMask, mask, mask_n, O_mo, e, nIle, hin, hne, nI_add]
      exact sk0 (fun _ _ c _ => c hrq)
    · have hne : (nI r = nI q) = False := by rw [nIeq (by omega) (by omega)]; exact eq_false hrq
      by_cases r0 : 0 < d r
      · rw [decide_eq_true r0, bW_t] at h16r
        by_cases q0 : 0 < d q
        · rw [decide_eq_true q0, bW_t] at h16q
          have c1 := hL.cM n3 n6 hkk hd hlen hok hr r0
          have c2 := hL.cM n3 n6 hkk hd hlen hok hq q0
          have t1 : g' 200 r = nI (cG co (xD d r)).1 := c1.2.2.2.2.1
          have t2 : g' 200 q = nI (cG co (xD d q)).1 := c2.2.2.2.2.1
          have hfi := fun h => m_fights r (cG co (xD d r)).1 q (cG co (xD d q)).1 (by omega) (by have := c1.1.1; have h9 : (cG co (xD d r)).1 < n := this; omega) (by omega) (by have := c2.1.1; have h9 : (cG co (xD d q)).1 < n := this; omega) h
          by_cases hf : wayB r (cG co (xD d r)).1 q (cG co (xD d q)).1 = true
          · simp only [if_pos hf] at hfi
            obtain ⟨g2, e2, w2⟩ := m_fl (m := m) (o := o) n3 n6 hkk hL hd hlen hok hr hq r0 q0 e (fun r hr => by rw [h1 196 (by omega) (by omega), h1 197 (by omega) (by omega), h1 198 (by omega) (by omega)]; exact h5 r hr) (by rw [h1 188 (by omega) (by omega)]; exact h35) hk hw (hM.congr hw hk (fun i _ _ => by rw [h1 189 (by omega) (by omega)]))
            have l1 := hd.1 r
            have l2 := hd.1 q
            have l3 := hlen r
            have l4 := hlen q
            have ex : xD d r / 2 = r := by unfold xD; omega
            have ey : xD d q / 2 = q := by unfold xD; omega
            have hft : ftB co (xD d r) (xD d q) = true := by
              unfold ftB
              rw [thB_dg hd hlen r0, thB_dg hd hlen q0, ex, ey, decide_eq_true (Ne.symm hrq), hf]
              rfl
            rcases LNv_cases (n := n) (co := co) (fa := fa) hw (xD d r) (xD d q) (decide (ordRank n kk q < ordRank n kk r)) with e0 | ⟨t, ht, e0⟩
            · rw [e0] at e2
              have hor : s' ||| 0 = s' := Nat.or_zero s'
              simp (disch := first | assumption | omega) only [kb_X11_used_176, kb_X11_used_174, KL, KB, KC, KI, KJ, KZ, bI_0, bI_n, nI00, nI10, ne_eq, Classical.not_not, not_true_eq_false, not_false_eq_true, if_true, if_false, ite_not, ite_self, Bool.false_eq_true, nIne1, List.cons_append, List.nil_append, kMask, mask, mask_n, kIst_9, kIld_9, kIst_39, kInc_89, O_mo, AR, e, nIle, hin, hne, h16r, h16q, z10, t1, t2, hfi, e2, eq_self, nI_or, hor, nI_add]
              exact ih _ _ ⟨g2, s', _, rfl, rfl, h1.tr w2, h2, h3, fun q' hq' => by
                by_cases e : q' = q
                · subst e; exact fun _ _ _ _ => by rw [e0]; exact inU_none
                · exact h4 q' (by omega)⟩
            · rw [e0] at e2
              obtain ⟨v1, v2⟩ := sndU.put (f := decide (ordRank n kk q < ordRank n kk r)) hft ht e0
              simp (disch := first | assumption | omega) only [kb_X11_used_176, kb_X11_used_174, KL, KB, KC, KI, KJ, KZ, bI_0, bI_n, nI00, nI10, ne_eq, Classical.not_not, not_true_eq_false, not_false_eq_true, if_true, if_false, ite_not, ite_self, Bool.false_eq_true, nIne1, List.cons_append, List.nil_append, kMask, mask, mask_n, kIst_9, kIld_9, kIst_39, kInc_89, O_mo, AR, e, nIle, hin, hne, h16r, h16q, z10, t1, t2, hfi, e2, nI_shl, nI_or, nI_add]
              exact ih _ _ ⟨g2, s' ||| 1 <<< t, _, rfl, rfl, h1.tr w2, h2.tr (SUB.orl _ _), h3.or v1, fun q' hq' => by
                by_cases e : q' = q
                · subst e; exact fun _ _ _ _ => v2.mono (SUB.orr _ _)
                · exact (h4 q' (by omega)).mono (SUB.orl _ _)⟩
          · simp only [if_neg hf] at hfi
            simp (disch := first | assumption | omega) only [kb_X11_used_176, KL, KB, KC, KI, KJ, KZ, bI_0, bI_n, nI00, nI10, ne_eq, Classical.not_not, not_true_eq_false, not_false_eq_true, if_true, if_false, ite_not, ite_self, Bool.false_eq_true, nIne1, List.cons_append, List.nil_append, kMask, mask, mask_n, O_mo, AR, e, nIle, hin, hne, h16r, h16q, z10, z00, t1, t2, hfi, nI_add]
            exact sk0 (fun _ _ _ w => hf w)
        · rw [decide_eq_false q0, bW_f] at h16q
          simp (disch := first | assumption | omega) only [kb_X11_used_176, KL, KB, KC, KI, KJ, KZ, bI_0, bI_n, nI00, nI10, ne_eq, Classical.not_not, not_true_eq_false, not_false_eq_true, if_true, if_false, ite_not, ite_self, Bool.false_eq_true, nIne1, List.cons_append, List.nil_append, kMask, mask, mask_n, O_mo, AR, e, nIle, hin, hne, h16r, h16q, z10, z00, nI_add]
          exact sk0 (fun _ b _ _ => q0 b)
      · rw [decide_eq_false r0, bW_f] at h16r
        simp (disch := first | assumption | omega) only [kb_X11_used_176, KL, KB, KC, KI, KJ, KZ, bI_0, bI_n, nI00, nI10, ne_eq, Classical.not_not, not_true_eq_false, not_false_eq_true, if_true, if_false, ite_not, ite_self, Bool.false_eq_true, nIne1, List.cons_append, List.nil_append, kMask, mask, mask_n, O_mo, AR, e, nIle, hin, hne, h16r, z10, z00, nI_add]
        exact sk0 (fun a _ _ _ => r0 a)
