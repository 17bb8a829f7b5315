-- ===== rings: the class goes round, and seeks =====
theorem ex_rows {E : Nat → Nat → Bool} {T : Nat → Bool} {w D : Nat → Nat} {I s : Nat} (hD : SOL E T w I D) (hw : ∀ l, l < 36 → 1 ≤ w l) (hs : s < 36) (hlt : D s < I) : ∃ (L : Nat) (x : Nat → Nat), ROWS E T w D s L x ∧ L < 36 ∧ ∀ k, k ≤ L → x k < 36 ∧ D (x k) < I := by
  obtain ⟨nx, hnx⟩ := chs (α := Nat) (k := 36) (P := fun l n => D l < I → T l = false → FST (nxP E w D l) n) (fun l hl => by
    by_cases q : D l < I
    · cases t : T l with
      | true => exact ⟨0, fun _ h => by cases h⟩
      | false =>
        obtain ⟨n, hn⟩ := hD.nx hl q t
        exact ⟨n, fun _ _ => hn⟩
    · exact ⟨0, fun h => absurd h q⟩)
  generalize hx : (fun k => Nat.rec (motive := fun _ => Nat) s (fun _ l => nx l) k) = x
  have x0 : x 0 = s := by subst hx; rfl
  have xs : ∀ k, x (k + 1) = nx (x k) := fun k => by subst hx; rfl
  clear hx
  have pre : ∀ L, (∀ k, k < L → T (x k) = false) → ∀ k, k ≤ L → x k < 36 ∧ D (x k) < I ∧ ∀ j, j < k → FST (nxP E w D (x j)) (x (j + 1)) := by
    intro L hL k
    induction k with
    | zero => intro _; rw [x0]; exact ⟨hs, hlt, fun j hj => absurd hj (Nat.not_lt_zero _)⟩
    | succ k ih =>
      intro hk
      obtain ⟨a, b, c⟩ := ih (by omega)
      have hf := hnx (x k) a b (hL k (by omega))
      rw [← xs k] at hf
      obtain ⟨q1, q2⟩ := nx_lt hf.2.1
      have := hw _ a
      exact ⟨hf.1, by omega, fun j hj => by
        by_cases e : j = k
        · rw [e]; exact hf
        · exact c j (by omega)⟩
  have ex : ∃ L, L < 36 ∧ T (x L) = true := by
    apply Classical.byContradiction
    intro hn
    have hall : ∀ k, k < 36 → T (x k) = false := fun k hk => by
      cases t : T (x k) with
      | false => rfl
      | true => exact (hn ⟨k, hk, t⟩).elim
    have := (row_rh hw hs hlt x0 36 (fun k hk => (pre 36 hall 36 (Nat.le_refl _)).2.2 k hk)).2.2
    have := rh_36 (D := D) hs
    omega
  obtain ⟨L0, hL0, hT0⟩ := ex
  obtain ⟨L, hL, hT, hmin⟩ := least_ex (P := fun L => T (x L) = true) L0 hT0
  have hf : ∀ k, k < L → T (x k) = false := fun k hk => by
    cases t : T (x k) with
    | false => rfl
    | true => have := hmin k t; omega
  exact ⟨L, x, ⟨x0, fun k hk => ⟨hf k hk, (pre L hf L (Nat.le_refl _)).2.2 k hk⟩, hT⟩, by omega, fun k hk => ⟨(pre L hf k hk).1, (pre L hf k hk).2.1⟩⟩
theorem c_nextOf {g : GG} {m o l n : Nat} {lk : LKS} {D : Nat → Nat} (h : LKC g lk) (hl : l < 36) (hL : isL lk l = true) (hF : FIL g 186 D) (hb : ∀ l, l < 36 → D l ≤ 1000000) (hn : FST (nxP (fol lk) (lkW lk) D l) n) : f_X6_nextOf [.ref 185, .int (nI l), .int (nI (D l - lkW lk l))] (hp g m o) = some (some (.int (nI n)), hp g m o) := by
  have zt : (bW true = 0) = False := eq_false (by decide)
  have zf : (bW false = 0) = True := eq_true rfl
  obtain ⟨n1, n2, n3⟩ := hn
  obtain ⟨q1, q2⟩ := nx_lt n2
  have hw1 := lkW_1 lk l
  have hbl := hb l hl
  have key : kl_X6_nextOf_2 [.ref 185, .int (nI l), .int (nI (D l - lkW lk l)), .int (nI 0)] [] (hp g m o) = some (some (.int (nI n)), hp g m o) := by
    unfold kl_X6_nextOf_2
    refine kFor n (by unfold FU; omega) (fun i ls h' => ls = [.ref 185, .int (nI l), .int (nI (D l - lkW lk l)), .int (nI i)] ∧ h' = hp g m o) (fun r => r = some (some (.int (nI n)), hp g m o)) ?_ ?_ 0 _ _ (by omega) ⟨rfl, rfl⟩
    · rintro s0 ls h' ⟨rfl, rfl⟩
      have hin : (36 ≤ n) = False := eq_false (by omega)
      have ei := c_follows (m := m) (o := o) h hl n1 hL
      rw [q1] at ei
      have hFi := hF n n1
      have hq : (D n = D l - lkW lk l) = True := eq_true (by omega)
      have hbn := hb n n1
      simp (disch := first | assumption | omega) only [kb_X6_nextOf_29, KL, KB, KC, KI, KJ, KZ, bI_0, bI_n, nI00, nI10, ne_eq, Classical.not_not, not_true_eq_false, not_false_eq_true, if_true, if_false, ite_not, ite_self, Bool.false_eq_true, nIne1, kMask, mask, mask_n, O_rg, AR, nIle, hin, ei, zt, hFi, nIeq, hq]
    · rintro s0 i hi ih ls h' ⟨rfl, rfl⟩
      have i36 : i < 36 := by omega
      have hin : (36 ≤ i) = False := eq_false (by omega)
      have ei := c_follows (m := m) (o := o) h hl i36 hL
      have hp3 := n3 i hi
      unfold nxP at hp3
      have hFi := hF i i36
      have hbi := hb i i36
      cases ef : fol lk l i with
      | false =>
        rw [ef] at ei
        simp (disch := first | assumption | omega) only [kb_X6_nextOf_29, KL, KB, KC, KI, KJ, KZ, bI_0, bI_n, nI00, nI10, ne_eq, Classical.not_not, not_true_eq_false, not_false_eq_true, if_true, if_false, ite_not, ite_self, Bool.false_eq_true, nIne1, kMask, mask, mask_n, O_rg, nIle, hin, ei, zf, nI_add]
        exact ih _ _ ⟨rfl, rfl⟩
      | true =>
        rw [ef] at ei
        rw [ef, Bool.true_and] at hp3
        have hp3 := of_decide_eq_false hp3
        have hq : (D i = D l - lkW lk l) = False := eq_false (by omega)
        simp (disch := first | assumption | omega) only [kb_X6_nextOf_29, KL, KB, KC, KI, KJ, KZ, bI_0, bI_n, nI00, nI10, ne_eq, Classical.not_not, not_true_eq_false, not_false_eq_true, if_true, if_false, ite_not, ite_self, Bool.false_eq_true, nIne1, kMask, mask, mask_n, O_rg, AR, nIle, hin, ei, zt, hFi, nIeq, hq, nI_add]
        exact ih _ _ ⟨rfl, rfl⟩
  rw [← key]
  simp (disch := first | assumption | omega) only [f_X6_nextOf, kb_X6_nextOf_0, KL, KB, KC, KI, KJ, KZ, bI_0, bI_n, nI00, nI10, ne_eq, Classical.not_not, not_true_eq_false, not_false_eq_true, if_true, if_false, ite_not, ite_self, Bool.false_eq_true, nIne1]
theorem SOL.ge1 {E : Nat → Nat → Bool} {T : Nat → Bool} {w D : Nat → Nat} {I l : Nat} (h : SOL E T w I D) (hl : l < 36) (hlt : D l < I) : w l ≤ D l := by
  rcases h.2.2.2 l hl hlt with ⟨a, b⟩ | ⟨n, a, b, c⟩ <;> omega
theorem sol_isL {lk : LKS} {I g l : Nat} {D : Nat → Nat} (h : SOLC lk I g D) (hl : l < 36) (hlt : D l < I) : isL lk l = true := by
  rcases h.2.2.2 l hl hlt with ⟨a, b⟩ | ⟨n, a, b, c⟩
  · exact (fol_l a).1
  · exact (fol_l b).1
theorem c_goRound {g : GG} {m o s L : Nat} {lk : LKS} {D x : Nat → Nat} (h : LKC g lk) (hs : s < 36) (hD : SOLC lk 1000000 s D) (hF : FIL g 186 D) (h0 : g 185 3 = nI 0) (hR : ROWS (fol lk) (fun l => fol lk l s) (lkW lk) D s L x) (hL : L < 36) (hx : ∀ k, k ≤ L → x k < 36 ∧ D (x k) < 1000000) : ∃ (g' : GG), f_X6_goRound [.ref 185, .int (nI s)] (hp g m o) = some (none, hp g' m o) ∧ (∀ a, a ≠ 185 → a ≠ 187 → g' a = g a) ∧ g' 185 3 = nI (L + 1) ∧ g' 185 4 = g 185 4 ∧ ∀ k, k ≤ L → g' 187 k = nI (x k) := by
  have zt : (bW true = 0) = False := eq_false (by decide)
  have zf : (bW false = 0) = True := eq_true rfl
  have key : ∃ (g' : GG), kl_X6_goRound_2 [.ref 185, .int (nI s), .int (nI (x 0))] [] (hp g m o) = some (none, hp g' m o) ∧ (∀ a, a ≠ 185 → a ≠ 187 → g' a = g a) ∧ g' 185 3 = nI (L + 1) ∧ g' 185 4 = g 185 4 ∧ ∀ k, k ≤ L → g' 187 k = nI (x k) := by
    unfold kl_X6_goRound_2
    refine kFor 36 (by unfold FU; omega) (fun k ls h' => ∃ (g' : GG), ls = [.ref 185, .int (nI s), .int (nI (x k))] ∧ h' = hp g' m o ∧ k ≤ L ∧ (∀ a, a ≠ 185 → a ≠ 187 → g' a = g a) ∧ g' 185 3 = nI k ∧ g' 185 4 = g 185 4 ∧ ∀ i, i < k → g' 187 i = nI (x i)) (fun r => ∃ (g' : GG), r = some (none, hp g' m o) ∧ (∀ a, a ≠ 185 → a ≠ 187 → g' a = g a) ∧ g' 185 3 = nI (L + 1) ∧ g' 185 4 = g 185 4 ∧ ∀ k, k ≤ L → g' 187 k = nI (x k)) ?_ ?_ 0 _ _ (by omega) ⟨g, rfl, rfl, Nat.zero_le _, fun _ _ _ => rfl, h0, rfl, fun i hi => absurd hi (Nat.not_lt_zero _)⟩
    · rintro s0 ls h' ⟨g', rfl, rfl, h1, -⟩
      omega
    · rintro s0 k hk ih ls h' ⟨g', rfl, rfl, h1, h2, h3, h4, h5⟩
      have hin : (36 ≤ k) = False := eq_false (by omega)
      obtain ⟨x1, x2⟩ := hx k h1
      -- after the link is put down
      generalize hg2 : upd2 (upd2 g' 187 k (nI (x k))) 185 3 (nI (k + 1)) = g2
      have z2 : ∀ a, a ≠ 185 → a ≠ 187 → g2 a = g a := fun a a1 a2 => by rw [← hg2, uN a1, uN a2]; exact h2 a a1 a2
      have hLK := h.congr (g' := g2) (fun a ha => z2 a (by omega) (by omega))
      have eL : isL lk (x k) = true := sol_isL hD x1 x2
      have ef := c_follows (m := m) (o := o) hLK x1 hs eL
      have hF2 : FIL g2 186 D := fun l hl => by rw [z2 186 (by omega) (by omega)]; exact hF l hl
      have r3 : g2 185 3 = nI (k + 1) := by rw [← hg2]; exact uS
      have r4 : g2 185 4 = g 185 4 := by rw [← hg2, uO (Or.inr (by omega)), uN (by omega)]; exact h4
      have r6 : ∀ i, i < k + 1 → g2 187 i = nI (x i) := fun i hi => by
        rw [← hg2, uN (by omega)]
        by_cases q : i = k
        · rw [q]; exact uS
        · rw [uO (Or.inr q)]; exact h5 i (by omega)
      have hlen : upd2 g' 187 k (nI (x k)) 185 3 = nI k := by rw [uN (by omega)]; exact h3
      by_cases hkL : k = L
      · subst hkL
        rw [show fol lk (x k) s = true from hR.2.2] at ef
        simp (disch := first | assumption | omega) only [KL, KB, KC, KI, KJ, KZ, bI_0, bI_n, nI00, nI10, ne_eq, Classical.not_not, not_true_eq_false, not_false_eq_true, if_true, if_false, ite_not, ite_self, Bool.false_eq_true, nIne1, kMask, mask, mask_n, O_rg, AR, h3, nIle, hin, hlen, nI_add, hg2, ef, zt]
        exact ⟨g2, rfl, z2, r3, r4, fun i hi => r6 i (by omega)⟩
      · obtain ⟨t0, t1⟩ := hR.2.1 k (by omega)
        rw [show fol lk (x k) s = false from t0] at ef
        have hh := c_heldL (g := g2) (m := m) (o := o) (l := x k) (t := 2) x1 (by omega)
        have hw1 := hD.ge1 x1 x2
        have hll := hLK (x k) x1
        have hW : ∃ rm, g2 (26 + 10 * (x k / 6)) (2 * 6 + x k % 6) = nI rm ∧ lkW lk (x k) = rm + 1 := by
          unfold isL at eL
          unfold lkW
          cases e : lk (x k) with
          | none => rw [e] at eL; cases eL
          | some z =>
            rw [e] at hll
            obtain ⟨z1, z2, z3, z4, z5, z6⟩ := hll
            exact ⟨z.2.2, by rw [show 2 * 6 + x k % 6 = 12 + x k % 6 by omega]; exact z6, rfl⟩
        obtain ⟨rm, hW1, hW2⟩ := hW
        rw [hW1] at hh
        have hFk := hF2 (x k) x1
        have en := c_nextOf (m := m) (o := o) hLK x1 eL hF2 (fun l hl => hD.1 l hl) t1
        have hsub : D (x k) - rm - 1 = D (x k) - lkW lk (x k) := by omega
        have s1 : rm ≤ D (x k) := by omega
        have s2 : 1 ≤ D (x k) - rm := by omega
        simp (disch := first | assumption | omega) only [KL, KB, KC, KI, KJ, KZ, bI_0, bI_n, nI00, nI10, ne_eq, Classical.not_not, not_true_eq_false, not_false_eq_true, if_true, if_false, ite_not, ite_self, Bool.false_eq_true, nIne1, kMask, mask, mask_n, O_rg, AR, h3, nIle, hin, hlen, nI_add, hg2, ef, zf, hh, hFk, nI_sub, hsub, en]
        exact ih _ _ ⟨g2, rfl, rfl, by omega, z2, r3, r4, r6⟩
  obtain ⟨g', e, w⟩ := key
  refine ⟨g', ?_, w⟩
  rw [← e, hR.1]
  simp (disch := first | assumption | omega) only [f_X6_goRound, kb_X6_goRound_0, KL, KB, KC, KI, KJ, KZ, bI_0, bI_n, nI00, nI10, ne_eq, Classical.not_not, not_true_eq_false, not_false_eq_true, if_true, if_false, ite_not, ite_self, Bool.false_eq_true, nIne1]
theorem c_seek {g : GG} {m o : Nat} {lk : LKS} {C : Nat → Nat → Nat} (h : LKC g lk) (hC : ∀ g, g < 36 → SOLC lk 1000000 g (C g)) : ∃ (g' : GG), f_X6_seek [.ref 185] (hp g m o) = some (none, hp g' m o) ∧ (∀ a, a ≠ 185 → a ≠ 186 → a ≠ 187 → g' a = g a) ∧ ((g' 185 3 = nI 0 ∧ ∀ f, f < 36 → isL lk f = true → 1000000 ≤ C f f) ∨ ∃ (s mm L : Nat) (x : Nat → Nat), BRG lk C 1000000 s mm ∧ ROWS (fol lk) (fun l => fol lk l s) (lkW lk) (C s) s L x ∧ L < 36 ∧ (∀ k, k ≤ L → x k < 36) ∧ g' 185 3 = nI (L + 1) ∧ g' 185 4 = nI mm ∧ ∀ k, k ≤ L → g' 187 k = nI (x k)) := by
  have zt : (bW true = 0) = False := eq_false (by decide)
  have zf : (bW false = 0) = True := eq_true rfl
  have key : ∃ (g' : GG), kl_X6_seek_15 [.ref 185, .int (-1), .int (nI 0)] [] (hp (upd2 (upd2 g 185 3 (nI 0)) 185 4 (nI 1000000)) m o) = some (none, hp g' m o) ∧ (∀ a, a ≠ 185 → a ≠ 186 → a ≠ 187 → g' a = g a) ∧ ((g' 185 3 = nI 0 ∧ ∀ f, f < 36 → isL lk f = true → 1000000 ≤ C f f) ∨ ∃ (s mm L : Nat) (x : Nat → Nat), BRG lk C 1000000 s mm ∧ ROWS (fol lk) (fun l => fol lk l s) (lkW lk) (C s) s L x ∧ L < 36 ∧ (∀ k, k ≤ L → x k < 36) ∧ g' 185 3 = nI (L + 1) ∧ g' 185 4 = nI mm ∧ ∀ k, k ≤ L → g' 187 k = nI (x k)) := by
    unfold kl_X6_seek_15
    refine kFor 36 (by unfold FU; omega) (fun i ls h' => ∃ (g' : GG) (st : Int32), ls = [.ref 185, .int st, .int (nI i)] ∧ h' = hp g' m o ∧ (∀ a, a ≠ 185 → a ≠ 186 → a ≠ 187 → g' a = g a) ∧ g' 185 3 = nI 0 ∧ ((st = -1 ∧ g' 185 4 = nI 1000000 ∧ ∀ f, f < i → isL lk f = true → 1000000 ≤ C f f) ∨ ∃ s mm, s < i ∧ st = nI s ∧ g' 185 4 = nI mm ∧ isL lk s = true ∧ C s s = mm ∧ mm < 1000000 ∧ (∀ f, f < i → isL lk f = true → mm ≤ C f f) ∧ ∀ f, f < s → isL lk f = true → mm < C f f)) (fun r => ∃ (g' : GG), r = some (none, hp g' m o) ∧ (∀ a, a ≠ 185 → a ≠ 186 → a ≠ 187 → g' a = g a) ∧ ((g' 185 3 = nI 0 ∧ ∀ f, f < 36 → isL lk f = true → 1000000 ≤ C f f) ∨ ∃ (s mm L : Nat) (x : Nat → Nat), BRG lk C 1000000 s mm ∧ ROWS (fol lk) (fun l => fol lk l s) (lkW lk) (C s) s L x ∧ L < 36 ∧ (∀ k, k ≤ L → x k < 36) ∧ g' 185 3 = nI (L + 1) ∧ g' 185 4 = nI mm ∧ ∀ k, k ≤ L → g' 187 k = nI (x k))) ?_ ?_ 0 _ _ (by omega) ⟨_, -1, rfl, rfl, fun a a1 _ _ => by rw [uN a1, uN a1], by rw [uO (Or.inr (by omega))]; exact uS, Or.inl ⟨rfl, uS, fun f hf => absurd hf (Nat.not_lt_zero _)⟩⟩
    · rintro s0 ls h' ⟨g', st, rfl, rfl, h1, h2, h3⟩
      have hin : (36 ≤ 36) = True := eq_true (by omega)
      rcases h3 with ⟨a, b, c⟩ | ⟨s, mm, a, b, c, d, e, f, p, q⟩
      · subst a
        simp (disch := first | assumption | omega) only [kb_X6_seek_80, KL, KB, KC, KI, KJ, KZ, bI_0, bI_n, nI00, nI10, ne_eq, Classical.not_not, not_true_eq_false, not_false_eq_true, if_true, if_false, ite_not, ite_self, Bool.false_eq_true, nIne1, kMask, mask, mask_n, nIle, hin, eq_self]
        exact ⟨g', rfl, h1, Or.inl ⟨h2, c⟩⟩
      · subst b
        have hLK := h.congr (g' := g') (fun a ha => h1 a (by omega) (by omega) (by omega))
        obtain ⟨g2, e2, p1, p2⟩ := c_measure (m := m) (o := o) hLK a (hC s a)
        have hLK2 := hLK.congr (g' := g2) (fun a ha => p1 a (by omega))
        obtain ⟨L, x, hR, hL, hx⟩ := ex_rows (hC s a) (fun l _ => lkW_1 lk l) a (by omega)
        obtain ⟨g3, e3, q1, q2, q3, q4⟩ := c_goRound (m := m) (o := o) hLK2 a (hC s a) p2 (by rw [p1 185 (by omega)]; exact h2) hR hL hx
        simp (disch := first | assumption | omega) only [kb_X6_seek_80, KL, KB, KC, KI, KJ, KZ, bI_0, bI_n, nI00, nI10, ne_eq, Classical.not_not, not_true_eq_false, not_false_eq_true, if_true, if_false, ite_not, ite_self, Bool.false_eq_true, nIne1, kMask, mask, mask_n, nIle, hin, O_rg, e2, e3]
        exact ⟨g3, rfl, fun b a1 a2 a3 => by rw [q1 b a1 a3, p1 b a2]; exact h1 b a1 a2 a3, Or.inr ⟨s, mm, L, x, ⟨a, d, e, f, p, q⟩, hR, hL, fun k hk => (hx k hk).1, q2, by rw [q3, p1 185 (by omega)]; exact c, q4⟩⟩
    · rintro s0 i hi ih ls h' ⟨g', st, rfl, rfl, h1, h2, h3⟩
      have hin : (36 ≤ i) = False := eq_false (by omega)
      have hLK := h.congr (g' := g') (fun a ha => h1 a (by omega) (by omega) (by omega))
      have el := c_leadsL (m := m) (o := o) hLK hi
      cases eL : isL lk i with
      | false =>
        rw [eL] at el
        simp (disch := first | assumption | omega) only [kb_X6_seek_59, KL, KB, KC, KI, KJ, KZ, bI_0, bI_n, nI00, nI10, ne_eq, Classical.not_not, not_true_eq_false, not_false_eq_true, if_true, if_false, ite_not, ite_self, Bool.false_eq_true, nIne1, kMask, mask, mask_n, O_rg, nIle, hin, el, zf, nI_add]
        refine ih _ _ ⟨g', st, rfl, rfl, h1, h2, ?_⟩
        rcases h3 with ⟨a, b, c⟩ | ⟨s, mm, a, b, c, d, e, f, p, q⟩
        · exact Or.inl ⟨a, b, fun f hf hl => by
            by_cases q : f = i
            · rw [q, eL] at hl; cases hl
            · exact c f (by omega) hl⟩
        · exact Or.inr ⟨s, mm, by omega, b, c, d, e, f, fun f hf hl => by
            by_cases q : f = i
            · rw [q, eL] at hl; cases hl
            · exact p f (by omega) hl, q⟩
      | true =>
        rw [eL] at el
        obtain ⟨g2, e2, p1, p2⟩ := c_measure (m := m) (o := o) hLK hi (hC i hi)
        have hFi := p2 i hi
        have hbi := (hC i hi).1 i hi
        have z2 : ∀ a, a ≠ 185 → a ≠ 186 → a ≠ 187 → g2 a = g a := fun a a1 a2 a3 => by rw [p1 a a2]; exact h1 a a1 a2 a3
        have z23 : g2 185 3 = nI 0 := by rw [p1 185 (by omega)]; exact h2
        have take : (∀ f, f < i → isL lk f = true → C i i < C f f) → C i i < 1000000 → ∃ (g'' : GG), s0 [.ref 185, .int (nI i), .int (nI (i + 1))] [] (hp (upd2 g2 185 4 (nI (C i i))) m o) = some (none, hp g'' m o) ∧ (∀ a, a ≠ 185 → a ≠ 186 → a ≠ 187 → g'' a = g a) ∧ ((g'' 185 3 = nI 0 ∧ ∀ f, f < 36 → isL lk f = true → 1000000 ≤ C f f) ∨ ∃ (s mm L : Nat) (x : Nat → Nat), BRG lk C 1000000 s mm ∧ ROWS (fol lk) (fun l => fol lk l s) (lkW lk) (C s) s L x ∧ L < 36 ∧ (∀ k, k ≤ L → x k < 36) ∧ g'' 185 3 = nI (L + 1) ∧ g'' 185 4 = nI mm ∧ ∀ k, k ≤ L → g'' 187 k = nI (x k)) := fun hlt hb => ih _ _ ⟨_, _, rfl, rfl, fun a a1 a2 a3 => by rw [uN a1]; exact z2 a a1 a2 a3, by rw [uO (Or.inr (by omega))]; exact z23, Or.inr ⟨i, C i i, by omega, rfl, uS, eL, rfl, hb, fun f hf hl => by
          by_cases q : f = i
          · rw [q]; exact Nat.le_refl _
          · exact Nat.le_of_lt (hlt f (by omega) hl), fun f hf hl => hlt f hf hl⟩⟩
        rcases id h3 with ⟨a, b, c⟩ | ⟨s, mm, a, b, c, d, e, f, p, q⟩
        · have b2 : g2 185 4 = nI 1000000 := by rw [p1 185 (by omega)]; exact b
          by_cases q : 1000000 ≤ C i i
          · have q' : (1000000 ≤ C i i) = True := eq_true q
            simp (disch := first | assumption | omega) only [kb_X6_seek_59, KL, KB, KC, KI, KJ, KZ, bI_0, bI_n, nI00, nI10, ne_eq, Classical.not_not, not_true_eq_false, not_false_eq_true, if_true, if_false, ite_not, ite_self, Bool.false_eq_true, nIne1, kMask, mask, mask_n, O_rg, AR, nIle, hin, el, zt, e2, hFi, b2, q', nI_add]
            exact ih _ _ ⟨g2, st, rfl, rfl, z2, z23, Or.inl ⟨a, b2, fun f hf hl => by
              by_cases e : f = i
              · rw [e]; exact q
              · exact c f (by omega) hl⟩⟩
          · have q' : (1000000 ≤ C i i) = False := eq_false q
            have := take (fun f hf hl => by have := c f hf hl; omega) (by omega)
            simp (disch := first | assumption | omega) only [kb_X6_seek_59, KL, KB, KC, KI, KJ, KZ, bI_0, bI_n, nI00, nI10, ne_eq, Classical.not_not, not_true_eq_false, not_false_eq_true, if_true, if_false, ite_not, ite_self, Bool.false_eq_true, nIne1, kMask, mask, mask_n, O_rg, AR, nIle, hin, el, zt, e2, hFi, b2, q', nI_add]
            exact this
        · have b2 : g2 185 4 = nI mm := by rw [p1 185 (by omega)]; exact c
          by_cases w : mm ≤ C i i
          · have w' : (mm ≤ C i i) = True := eq_true w
            simp (disch := first | assumption | omega) only [kb_X6_seek_59, KL, KB, KC, KI, KJ, KZ, bI_0, bI_n, nI00, nI10, ne_eq, Classical.not_not, not_true_eq_false, not_false_eq_true, if_true, if_false, ite_not, ite_self, Bool.false_eq_true, nIne1, kMask, mask, mask_n, O_rg, AR, nIle, hin, el, zt, e2, hFi, b2, w', nI_add]
            exact ih _ _ ⟨g2, st, rfl, rfl, z2, z23, Or.inr ⟨s, mm, by omega, b, b2, d, e, f, fun f hf hl => by
              by_cases e : f = i
              · rw [e]; exact w
              · exact p f (by omega) hl, q⟩⟩
          · have w' : (mm ≤ C i i) = False := eq_false w
            have := take (fun f hf hl => by have := p f hf hl; omega) (by omega)
            simp (disch := first | assumption | omega) only [kb_X6_seek_59, KL, KB, KC, KI, KJ, KZ, bI_0, bI_n, nI00, nI10, ne_eq, Classical.not_not, not_true_eq_false, not_false_eq_true, if_true, if_false, ite_not, ite_self, Bool.false_eq_true, nIne1, kMask, mask, mask_n, O_rg, AR, nIle, hin, el, zt, e2, hFi, b2, w', nI_add]
            exact this
  obtain ⟨g', e, w⟩ := key
  refine ⟨g', ?_, w⟩
  rw [← e]
  simp (disch := first | assumption | omega) only [f_X6_seek, kb_X6_seek_0, KL, KB, KC, KI, KJ, KZ, bI_0, bI_n, nI00, nI10, ne_eq, Classical.not_not, not_true_eq_false, not_false_eq_true, if_true, if_false, ite_not, ite_self, Bool.false_eq_true, nIne1, O_rg]
