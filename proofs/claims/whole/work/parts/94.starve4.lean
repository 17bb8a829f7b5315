-- ===== starve: the model's loops; the agreement =====
theorem mask_n : ∀ (u : List Value), mask [] u = []
  | [] => rfl
  | _ :: _ => rfl
theorem pr_lt {a b p q : Nat} (h1 : a < p) (h2 : b < q) : a * q + b < p * q := by
  have h := Nat.mul_le_mul_right q (show a + 1 ≤ p by omega)
  rw [Nat.add_mul, Nat.one_mul] at h
  omega
theorem BST.tr {a b c : GG} (h1 : BST a b) (h2 : BST b c) : BST a c := fun x a1 a2 a3 a4 a5 a6 a7 a8 => (h2 x a1 a2 a3 a4 a5 a6 a7 a8).trans (h1 x a1 a2 a3 a4 a5 a6 a7 a8)
theorem m_st41 {c n : Nat} {co : Nat → List Goods} {fa : FA} {rl : Nat → ARule} {kr : Nat → Nat} {g0 g : GG} {m o r q s : Nat} (hc : c < 6) (n3 : 3 ≤ n) (n6 : n ≤ 6) (hM : MO c n co g0) (h5 : ∀ r, r < n → g0 196 r = nI (fa 0 r) ∧ g0 197 r = nI (fa 1 r) ∧ g0 198 r = nI (fa 2 r)) (h35 : g0 188 35 = nI 0) (h33 : g0 188 33 = -1) (h6 : ∀ r, r < n → kr r < 4 ∧ wfR (rl r) ∧ ruleM g0 189 (kr r) (rl r) ∧ ((g0 188 34 = -1 ∧ ∃ v, v < 2 ∧ g0 199 r = nI v ∧ g0 189 (1 + v) = nI (kr r)) ∨ g0 188 34 = nI (kr r))) (hB : BST g0 g) (hr : r < n) (hq : q < n) (s18 s29 : KK) (hs : svS co (VR n co fa rl) (fun x y => x / 2 < r ∨ (x / 2 = r ∧ y / 2 < q)) s) (Q : RS → Prop) (fin : ∀ (g' : GG) (s' : Nat) (v : Value), BST g0 g' → svS co (VR n co fa rl) (fun x y => x / 2 < r ∨ (x / 2 = r ∧ y / 2 < q + 1)) s' → Q (s29 [.ref 188, .int (nI c), .int (nI s'), .int (nI r), .int (nI (q + 1)), v] [] (hp g' m o))) : Q (kl_X11_starve_41 s18 s29 [.ref 188, .int (nI c), .int (nI s), .int (nI r), .int (nI q), .int (nI 0)] [] (hp g m o)) := by
  obtain ⟨l1, o1, e1, -⟩ := hM.2 r hr
  obtain ⟨l2, o2, e2, -⟩ := hM.2 q hq
  have r6 : r < 6 := by omega
  have q6 : q < 6 := by omega
  have hle4 : (co r).length * (co q).length ≤ 2 * 2 := Nat.mul_le_mul l1 l2
  have b5 : ∀ g', BST g0 g' → g' 206 r = nI (co r).length ∧ g' 206 q = nI (co q).length := fun g' h => by
    rw [h 206 (by omega) (by omega) (by omega) (by omega) (by omega) (by omega) (by omega) (by omega)]
    exact ⟨e1, e2⟩
  by_cases hrq : r = q
  · subst hrq
    have hfin : svS co (VR n co fa rl) (fun x y => x / 2 < r ∨ (x / 2 = r ∧ y / 2 < r + 1)) s := hs.cong (fun x y e => by
      have := (svP_th e).2.2
      omega)
    have e3 := (b5 g hB).1
    unfold kl_X11_starve_41
    have hF : FU = (FU - 1) + 1 := rfl
    rw [hF]
    show Q ((kFix _ ((FU - 1) + 1)) _ _ _)
    unfold kFix
    by_cases h0 : (co r).length * (co r).length ≤ 0
    · have hin : ((co r).length * (co r).length ≤ 0) = True := eq_true h0
      simp (disch := first | assumption | omega) only [kb_X11_starve_150, KL, KB, KC, KI, KJ, KZ, bI_0, bI_n, nI00, nI10, ne_eq, Classical.not_not, not_true_eq_false, not_false_eq_true, if_true, if_false, ite_not, ite_self, Bool.false_eq_true, nIne1, kMask, mask, O_mo, AR, e3, nI_mul, nIle, hin, nI_add]
      exact fin g s _ hB hfin
    · have hin : ((co r).length * (co r).length ≤ 0) = False := eq_false h0
      simp (disch := first | assumption | omega) only [kb_X11_starve_150, KL, KB, KC, KI, KJ, KZ, bI_0, bI_n, nI00, nI10, ne_eq, Classical.not_not, not_true_eq_false, not_false_eq_true, if_true, if_false, ite_not, ite_self, Bool.false_eq_true, nIne1, kMask, mask, O_mo, AR, e3, nI_mul, nIle, hin, nI_add, eq_self]
      exact fin g s _ hB hfin
  · have hne : (nI r = nI q) = False := eq_false (fun e => hrq ((nIeq (by omega) (by omega)).mp e))
    unfold kl_X11_starve_41
    refine kFor ((co r).length * (co q).length) (by unfold FU; omega) (fun i ls h => ∃ (g' : GG) (s' : Nat), ls = [.ref 188, .int (nI c), .int (nI s'), .int (nI r), .int (nI q), .int (nI i)] ∧ h = hp g' m o ∧ BST g0 g' ∧ svS co (VR n co fa rl) (fun x y => x / 2 < r ∨ (x / 2 = r ∧ y / 2 < q) ∨ (x / 2 = r ∧ y / 2 = q ∧ y % 2 < (co q).length ∧ x % 2 * (co q).length + y % 2 < i)) s') Q ?_ ?_ 0 _ _ (Nat.zero_le _) ⟨g, s, rfl, rfl, hB, hs.cong (fun x y _ => by omega)⟩
    · rintro s0 ls h ⟨g', s', rfl, rfl, h1, h2⟩
      obtain ⟨e3, e4⟩ := b5 g' h1
      have hin : ((co r).length * (co q).length ≤ (co r).length * (co q).length) = True := eq_true (Nat.le_refl _)
      simp (disch := first | assumption | omega) only [kb_X11_starve_150, KL, KB, KC, KI, KJ, KZ, bI_0, bI_n, nI00, nI10, ne_eq, Classical.not_not, not_true_eq_false, not_false_eq_true, if_true, if_false, ite_not, ite_self, Bool.false_eq_true, nIne1, kMask, mask, O_mo, AR, e3, e4, nI_mul, nIle, hin, nI_add]
      refine fin g' s' _ h1 (h2.cong (fun x y e => ?_))
      obtain ⟨tx, ty, txy⟩ := svP_th e
      have tx' : x % 2 < (co (x / 2)).length := of_decide_eq_true tx
      have ty' : y % 2 < (co (y / 2)).length := of_decide_eq_true ty
      constructor
      · rintro (h | h | h)
        · exact Or.inl h
        · exact Or.inr ⟨h.1, by omega⟩
        · exact Or.inr ⟨h.1, by omega⟩
      · rintro (h | h)
        · exact Or.inl h
        · by_cases h3 : y / 2 < q
          · exact Or.inr (Or.inl ⟨h.1, h3⟩)
          · have h4 : y / 2 = q := by omega
            rw [h.1] at tx'
            rw [h4] at ty'
            exact Or.inr (Or.inr ⟨h.1, h4, ty', pr_lt tx' ty'⟩)
    · rintro s0 i hi ih ls h ⟨g', s', rfl, rfl, h1, h2⟩
      obtain ⟨e3, e4⟩ := b5 g' h1
      have hin : ((co r).length * (co q).length ≤ i) = False := eq_false (by omega)
      obtain ⟨g3, h3, e5⟩ := m_st66 (g := g') (m := m) (o := o) (s := s') (d := i) hc n3 n6 hM h5 h35 h33 h6 h1 hr hq hrq hi s18 s29 s0
      simp (disch := first | assumption | omega) only [KL, KB, KC, KI, KJ, KZ, bI_0, bI_n, nI00, nI10, ne_eq, Classical.not_not, not_true_eq_false, not_false_eq_true, if_true, if_false, ite_not, ite_self, Bool.false_eq_true, nIne1, kMask, mask, O_mo, AR, e3, e4, nI_mul, nIle, hin, hne]
      rw [e5]
      have hL : 0 < (co q).length := by
        apply Nat.pos_of_ne_zero
        intro h0
        rw [h0] at hi
        omega
      have hD : ∀ x y, (x / 2 < r ∨ (x / 2 = r ∧ y / 2 < q) ∨ (x / 2 = r ∧ y / 2 = q ∧ y % 2 < (co q).length ∧ x % 2 * (co q).length + y % 2 < i + 1)) ↔ ((x / 2 < r ∨ (x / 2 = r ∧ y / 2 < q) ∨ (x / 2 = r ∧ y / 2 = q ∧ y % 2 < (co q).length ∧ x % 2 * (co q).length + y % 2 < i)) ∨ (x = 2 * r + i / (co q).length ∧ y = 2 * q + i % (co q).length)) := fun x y => by
        have hi2 : i < 2 * (co q).length := Nat.lt_of_lt_of_le hi (Nat.mul_le_mul_right _ l1)
        generalize (co q).length = L at *
        have h12 : L = 1 ∨ L = 2 := by omega
        rcases h12 with rfl | rfl <;> omega
      by_cases hP : svP co (VR n co fa rl) (2 * r + i / (co q).length) (2 * q + i % (co q).length) = true
      · rw [if_pos hP]
        have ha : i / (co q).length < (co r).length := (Nat.div_lt_iff_lt_mul hL).mpr hi
        have := h2.or (by omega) hP hD
        rw [show (2 * r + i / (co q).length) >>> 1 = (2 * r + i / (co q).length) / 2 from rfl, (fun (l : Nat) (h : l < 2) => (by omega : (2 * r + l) / 2 = r)) _ (by omega)] at this
        exact ih _ _ ⟨g3, _, rfl, rfl, h3, this⟩
      · rw [if_neg hP]
        exact ih _ _ ⟨g3, s', rfl, rfl, h3, h2.skip (Bool.eq_false_iff.mpr hP) hD⟩
theorem m_st18 {c n : Nat} {co : Nat → List Goods} {fa : FA} {rl : Nat → ARule} {kr : Nat → Nat} {g0 : GG} {m o : Nat} (hc : c < 6) (n3 : 3 ≤ n) (n6 : n ≤ 6) (hco : ∀ r, n ≤ r → co r = []) (hM : MO c n co g0) (h5 : ∀ r, r < n → g0 196 r = nI (fa 0 r) ∧ g0 197 r = nI (fa 1 r) ∧ g0 198 r = nI (fa 2 r)) (h35 : g0 188 35 = nI 0) (h33 : g0 188 33 = -1) (h6 : ∀ r, r < n → kr r < 4 ∧ wfR (rl r) ∧ ruleM g0 189 (kr r) (rl r) ∧ ((g0 188 34 = -1 ∧ ∃ v, v < 2 ∧ g0 199 r = nI v ∧ g0 189 (1 + v) = nI (kr r)) ∨ g0 188 34 = nI (kr r))) : ∃ (s : Nat) (g' : GG), kl_X11_starve_18 [.ref 188, .int (nI c), .int (nI 0), .int (nI 0)] [] (hp g0 m o) = some (some (.int (nI s)), hp g' m o) ∧ BST g0 g' ∧ svS co (VR n co fa rl) (fun x y => x / 2 < n) s := by
  have en : ∀ g', BST g0 g' → g' 188 20 = nI n := fun g' h => by
    rw [h 188 (by omega) (by omega) (by omega) (by omega) (by omega) (by omega) (by omega) (by omega)]
    exact hM.1
  unfold kl_X11_starve_18
  refine kFor n (by unfold FU; omega) (fun i ls h => ∃ (g' : GG) (s : Nat) (u : List Value), ls = [.ref 188, .int (nI c), .int (nI s), .int (nI i)] ++ u ∧ h = hp g' m o ∧ BST g0 g' ∧ svS co (VR n co fa rl) (fun x y => x / 2 < i) s) (fun r => ∃ (s : Nat) (g' : GG), r = some (some (.int (nI s)), hp g' m o) ∧ BST g0 g' ∧ svS co (VR n co fa rl) (fun x y => x / 2 < n) s) ?_ ?_ 0 _ _ (by omega) ⟨g0, 0, [], rfl, rfl, fun _ _ _ _ _ _ _ _ _ => rfl, by omega, fun r => ⟨fun h => (by rw [Nat.zero_testBit] at h; cases h), fun ⟨x, y, a, _⟩ => absurd a (by omega)⟩⟩
  · rintro s0 ls h ⟨g', s, u, rfl, rfl, h1, h2⟩
    have e := en g' h1
    have hin : (n ≤ n) = True := eq_true (by omega)
    simp (disch := first | assumption | omega) only [KL, KB, KC, KI, KJ, KZ, bI_0, bI_n, nI00, nI10, ne_eq, Classical.not_not, not_true_eq_false, not_false_eq_true, if_true, if_false, ite_not, ite_self, Bool.false_eq_true, nIne1, List.cons_append, List.nil_append, kMask, mask, mask_n, O_mo, e, nIle, hin]
    exact ⟨s, g', rfl, h1, h2⟩
  · rintro s0 i hi ih ls h ⟨g', s, u, rfl, rfl, h1, h2⟩
    have e := en g' h1
    have hin : (n ≤ i) = False := eq_false (by omega)
    have inn : ∀ u, (fun r => ∃ (s : Nat) (g' : GG), r = some (some (.int (nI s)), hp g' m o) ∧ BST g0 g' ∧ svS co (VR n co fa rl) (fun x y => x / 2 < n) s) (kl_X11_starve_29 s0 ([.ref 188, .int (nI c), .int (nI s), .int (nI i), .int (nI 0)] ++ u) [] (hp g' m o)) := by
      intro u
      unfold kl_X11_starve_29
      refine kFor n (by unfold FU; omega) (fun j ls h => ∃ (g' : GG) (s : Nat) (u : List Value), ls = [.ref 188, .int (nI c), .int (nI s), .int (nI i), .int (nI j)] ++ u ∧ h = hp g' m o ∧ BST g0 g' ∧ svS co (VR n co fa rl) (fun x y => x / 2 < i ∨ (x / 2 = i ∧ y / 2 < j)) s) (fun r => ∃ (s : Nat) (g' : GG), r = some (some (.int (nI s)), hp g' m o) ∧ BST g0 g' ∧ svS co (VR n co fa rl) (fun x y => x / 2 < n) s) ?_ ?_ 0 _ _ (by omega) ⟨g', s, u, rfl, rfl, h1, h2.cong (fun x y _ => by omega)⟩
      · rintro s1 ls h ⟨g2, s2, u2, rfl, rfl, w1, w2⟩
        have e2 := en g2 w1
        have hin : (n ≤ n) = True := eq_true (by omega)
        simp (disch := first | assumption | omega) only [KL, KB, KC, KI, KJ, KZ, bI_0, bI_n, nI00, nI10, ne_eq, Classical.not_not, not_true_eq_false, not_false_eq_true, if_true, if_false, ite_not, ite_self, Bool.false_eq_true, nIne1, List.cons_append, List.nil_append, kMask, mask, mask_n, O_mo, e2, nIle, hin, nI_add]
        have hge := ih ([.ref 188, .int (nI c), .int (nI s2), .int (nI (i + 1))] ++ [.int (nI n)]) (hp g2 m o) ⟨g2, s2, _, rfl, rfl, w1, w2.cong (fun x y e => by
          have ty' : y % 2 < (co (y / 2)).length := of_decide_eq_true (svP_th e).2.1
          have hy : y / 2 < n := by
            apply Nat.lt_of_not_le
            intro h
            rw [hco _ h] at ty'
            exact absurd ty' (Nat.not_lt_zero _)
          omega)⟩
        simp only [List.cons_append, List.nil_append] at hge
        exact hge
      · rintro s1 k hk ih2 ls h ⟨g2, s2, u2, rfl, rfl, w1, w2⟩
        have e2 := en g2 w1
        have hin : (n ≤ k) = False := eq_false (by omega)
        have h41 := m_st41 (g := g2) (m := m) (o := o) (s := s2) hc n3 n6 hM h5 h35 h33 h6 w1 hi hk s0 s1 w2 (fun r => ∃ (s : Nat) (g' : GG), r = some (some (.int (nI s)), hp g' m o) ∧ BST g0 g' ∧ svS co (VR n co fa rl) (fun x y => x / 2 < n) s) (fun g3 s3 v a1 a2 => ih2 [.ref 188, .int (nI c), .int (nI s3), .int (nI i), .int (nI (k + 1)), v] (hp g3 m o) ⟨g3, s3, [v], rfl, rfl, a1, a2⟩)
        simp (disch := first | assumption | omega) only [KL, KB, KC, KI, KJ, KZ, bI_0, bI_n, nI00, nI10, ne_eq, Classical.not_not, not_true_eq_false, not_false_eq_true, if_true, if_false, ite_not, ite_self, Bool.false_eq_true, nIne1, List.cons_append, List.nil_append, kMask, mask, mask_n, O_mo, e2, nIle, hin, nI_add]
        exact h41
    have h0 := inn []
    simp only [List.cons_append, List.nil_append] at h0
    simp (disch := first | assumption | omega) only [KL, KB, KC, KI, KJ, KZ, bI_0, bI_n, nI00, nI10, ne_eq, Classical.not_not, not_true_eq_false, not_false_eq_true, if_true, if_false, ite_not, ite_self, Bool.false_eq_true, nIne1, List.cons_append, List.nil_append, kMask, mask, mask_n, O_mo, e, nIle, hin]
    exact h0
theorem ag_starve (a0 : Int32) : Ag RT f_X10_starve f_X11_starve [.int a0] := by
  intro j g m o hj hR
  rcases in_cases a0 5 (by decide) with ⟨c, hc, rfl⟩ | h0
  · have hc6 : c < 6 := by omega
    have hX := isX_live c hc6
    have hyc : (nI 0 ≤ nI c ∧ nI c ≤ nI 5) = True := eq_true (in_yes hc (by omega))
    obtain ⟨n, hx⟩ := hR.at hc6
    obtain ⟨n3, n6, en, em, -⟩ := id hx
    obtain ⟨co, fa, U, K, hCK, hMK, hco, hlen, hok⟩ := hR.comeP hc6 hx
    obtain ⟨g1, e1, p1, p2, p3, p4⟩ := c_askByRule (m := m) (o := o) hX (by omega) (by omega) n3 n6 hCK (-1) (fun r => K (fa 3 r)) (Or.inl ⟨rfl, fun _ => rfl⟩)
    obtain ⟨s, es, hs⟩ := c_starving (m := 17 + 10 * c) (o := OO n) p4
    have z71 : g1 188 = g 188 := p1 188 (by omega) (by omega) (by omega) (by omega) (by omega) (by omega) (by omega)
    have z81 : g1 189 = g 189 := p1 189 (by omega) (by omega) (by omega) (by omega) (by omega) (by omega) (by omega)
    have hMK3 : MK (10 + 560 * c) n co fa U K g1 := hMK.congr (by omega) (by omega) (FR8.of z81)
    obtain ⟨g4, e4, r1, r2, r3, r4⟩ := hMK3.base (m := 17 + 10 * c) (o := OO n) hc6 n6
    have h34 : g4 188 34 = -1 := by rw [r2 34 (by omega), z71]; exact hR.2.2.2.2.2.2.2.1
    have h33 : g4 188 33 = -1 := by rw [r2 33 (by omega), z71]; exact hR.2.2.2.2.2.2.1
    have h35 : g4 188 35 = nI 0 := by rw [r2 35 (by omega), z71]; exact hR.2.2.2.2.2.2.2.2
    obtain ⟨s2, g5, e5, w1, w2⟩ := m_st18 (m := 17 + 10 * c) (o := OO n) (rl := fun r => U (K (fa 3 r))) (kr := fun r => K (fa 3 r)) hc6 n3 n6 hco r3 (fun r hr => ⟨(r4 r hr).1, (r4 r hr).2.1, (r4 r hr).2.2.1⟩) h35 h33 (hMK3.rules n6 (r1 189 (by omega) (by omega)) (fun r hr => (r4 r hr).2.2.2) h34)
    have hss : s2 = s := w2.uniq (hs.cong (fun x y e => by
      obtain ⟨tx, ty, txy⟩ := svP_th e
      have hb : ∀ x, thB co x = true → x / 2 < n := fun x tx => by
        have tx' : x % 2 < (co (x / 2)).length := of_decide_eq_true tx
        apply Nat.lt_of_not_le
        intro h
        rw [hco _ h] at tx'
        exact absurd tx' (Nat.not_lt_zero _)
      have h1 := hb x tx
      have h2 := hb y ty
      omega))
    subst hss
    have hk1 : KEEP g g1 := KEEP.of (fun a x y z w => p1 a (by omega) (by omega) (by omega) (by omega) (by omega) (by omega) (by omega)) (fun i _ => by rw [z71])
    have hk2 : KEEP g1 g4 := KEEP.of (fun a x y z w => r1 a (by omega) (by omega)) (fun i hi => r2 i (by omega))
    have hk3 : KEEP g4 g5 := KEEP.of (fun a x y z w => w1 a (by omega) (by omega) (by omega) (by omega) (by omega) (by omega) (by omega) (by omega)) (fun i hi => by rw [w1 188 (by omega) (by omega) (by omega) (by omega) (by omega) (by omega) (by omega) (by omega)])
    refine ⟨nI s2, g1, 17 + 10 * c, OO n, g5, ?_, ?_, hR.keep ((hk1.tr hk2).tr hk3)⟩
    · simp (disch := first | assumption | omega) only [f_X10_starve, kb_X10_starve_0, KL, KB, KC, KI, KJ, KZ, bI_0, bI_n, nI00, nI10, ne_eq, Classical.not_not, not_true_eq_false, not_false_eq_true, if_true, if_false, ite_not, ite_self, Bool.false_eq_true, nIne1, O_fp, O_co, XO, c_at g m o c hc6, e1, es]
    · simp (disch := first | assumption | omega) only [f_X11_starve, kb_X11_starve_150, kb_X11_starve_144, kb_X11_starve_66, kb_X11_starve_0, KL, KB, KC, KI, KJ, KZ, bI_0, bI_n, nI00, nI10, ne_eq, Classical.not_not, not_true_eq_false, not_false_eq_true, if_true, if_false, ite_not, ite_self, Bool.false_eq_true, nIne1, O_mo, m_isCrossing, hyc, e4, e5]
  · refine ⟨-1, g, m, o, g, ?_, ?_, RT_mono _ _ _ _ hR⟩
    · simp (disch := first | assumption | omega) only [f_X10_starve, kb_X10_starve_0, KL, KB, KC, KI, KJ, KZ, bI_0, bI_n, nI00, nI10, ne_eq, Classical.not_not, not_true_eq_false, not_false_eq_true, if_true, if_false, ite_not, ite_self, Bool.false_eq_true, nIne1, O_fp, c_atN g m o a0 h0]
    · simp (disch := first | assumption | omega) only [f_X11_starve, kb_X11_starve_150, kb_X11_starve_144, kb_X11_starve_66, kb_X11_starve_0, KL, KB, KC, KI, KJ, KZ, bI_0, bI_n, nI00, nI10, ne_eq, Classical.not_not, not_true_eq_false, not_false_eq_true, if_true, if_false, ite_not, ite_self, Bool.false_eq_true, nIne1, O_mo, m_isCrossing, h0]
