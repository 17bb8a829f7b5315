-- ===== the constructors: orders, all that can come =====
theorem sa_tab : (List.range 4).all (fun a => (List.range (ordMany (a + 3))).all (fun k => (List.range (a + 3)).all (fun x => saN (ordRank (a + 3) k) x (a + 3) == ordAhead (a + 3) k x && decide (ordRank (a + 3) k x < 100)))) = true := by decide +kernel
theorem sa_eq {r k x : Nat} (r3 : 3 ≤ r) (r6 : r ≤ 6) (hk : k < ordMany r) (hx : x < r) : saN (ordRank r k) x r = ordAhead r k x ∧ ordRank r k x < 100 := by
  have h := sa_tab
  rw [List.all_eq_true] at h
  have h1 := h (r - 3) (List.mem_range.mpr (by omega))
  rw [show r - 3 + 3 = r by omega, List.all_eq_true] at h1
  have h2 := h1 k (List.mem_range.mpr hk)
  rw [List.all_eq_true] at h2
  have h3 := h2 x (List.mem_range.mpr hx)
  rw [Bool.and_eq_true] at h3
  exact ⟨eq_of_beq h3.1, of_decide_eq_true h3.2⟩
def ORQ (g : GG) (q r : Nat) : Prop := g q 0 = nI (ordMany r) ∧ ∀ k, k < ordMany r → ∀ x, x < 6 → g (q + 1) (6 * k + x) = (if x < r then nI (ordRank r k x) else nI 0) ∧ g (q + 2) (6 * k + x) = (if x < r then nI (ordAhead r k x) else nI 0)
theorem i_orders {q z r : Nat} {g : GG} {H : List (Nat × Nat)} (hO : isO q) (hq : q + 3 ≤ 212) (r3 : 3 ≤ r) (r6 : r ≤ 6) (hI : INV q g H) : CTR (q + 1) (q + 3) 288 g H z (f_X3_init [.ref q, .int (nI r)] (HQ (q + 1) z g H)) (fun g' H' => (∀ a, (a < q ∨ q + 2 < a) → g' a = g a) ∧ ORQ g' q r ∧ (q, 1) ∈ H' ∧ (q, 2) ∈ H') := by
  have hO' := hO
  obtain ⟨t0, t1, t2, r1, r2⟩ := hO'
  have hm24 := ordMany_le (n := r) r6
  have hI1 := hI.up (show q ≤ q + 1 by omega)
  generalize hg1 : upd2 g q 0 (nI 0) = g1
  have f1 : ∀ a, a ≠ q → g1 a = g a := fun a ha => by rw [← hg1, uN ha]
  have z1 : ZER g1 (q + 1) := fun i => by rw [f1 _ (by omega)]; exact hI.2 _ _ (by omega)
  have z2 : ZER g1 (q + 2) := fun i => by rw [f1 _ (by omega)]; exact hI.2 _ _ (by omega)
  have z00 : g1 q 0 = nI 0 := by rw [← hg1]; exact uS
  have m1 : (q, 1) ∈ (q, 2) :: (q, 1) :: H := by simp
  have m2 : (q, 2) ∈ (q, 2) :: (q, 1) :: H := by simp
  -- the loop over who is ahead
  have ahead : ∀ (g2 : GG) (z : Nat), RKS g2 q r → (∀ a, a ≠ q → a ≠ q + 1 → g2 a = g1 a) → ∃ g', kb_X3_init_45 [.ref q, .int (nI r)] [] (HQ (q + 3) z g2 ((q, 2) :: (q, 1) :: H)) = some (none, HQ (q + 3) z g' ((q, 2) :: (q, 1) :: H)) ∧ (∀ a, (a < q ∨ q + 2 < a) → g' a = g a) ∧ ORQ g' q r := by
    intro g2 z ⟨k0, k1⟩ hfr
    have zz : ZER g2 (q + 2) := fun i => by rw [hfr _ (by omega) (by omega)]; exact z2 i
    have key : ∃ g', kl_X3_init_47 [.ref q, .int (nI r), .int (nI 0)] [] (HQ (q + 3) z g2 ((q, 2) :: (q, 1) :: H)) = some (none, HQ (q + 3) z g' ((q, 2) :: (q, 1) :: H)) ∧ (∀ a, (a < q ∨ q + 2 < a) → g' a = g a) ∧ ORQ g' q r := by
      unfold kl_X3_init_47
      refine kFor (ordMany r) (by unfold FU; omega) (fun k ls h => ∃ (g' : GG) (u : List Value), ls = [.ref q, .int (nI r), .int (nI k)] ++ u ∧ h = HQ (q + 3) z g' ((q, 2) :: (q, 1) :: H) ∧ (∀ a, a ≠ q + 2 → g' a = g2 a) ∧ (∀ j, j < k → ∀ x, x < r → g' (q + 2) (6 * j + x) = nI (ordAhead r j x)) ∧ ∀ j x, r ≤ x → x < 6 → g' (q + 2) (6 * j + x) = nI 0) (fun r' => ∃ g', r' = some (none, HQ (q + 3) z g' ((q, 2) :: (q, 1) :: H)) ∧ (∀ a, (a < q ∨ q + 2 < a) → g' a = g a) ∧ ORQ g' q r) ?_ ?_ 0 _ _ (by omega) ⟨g2, [], rfl, rfl, fun _ _ => rfl, fun j hj => absurd hj (Nat.not_lt_zero _), fun j x _ _ => zz _⟩
      · rintro s ls h ⟨g', u, rfl, rfl, h1, h2, h3⟩
        have hin : (ordMany r ≤ ordMany r) = True := eq_true (Nat.le_refl _)
        have gi := fun (k : KK) (ls st : List Value) => Q_gi (n := q + 3) (z := z) (g := g') (H := (q, 2) :: (q, 1) :: H) (ci := 3) (N := 3) (kx := 0) (show q < q + 3 by omega) t0 k ls st
        have em : g' q 0 = nI (ordMany r) := by rw [h1 q (by omega)]; exact k0
        simp (disch := first | assumption | omega) only [KL, KB, KC, KI, KJ, KZ, bI_0, bI_n, nI00, nI10, ne_eq, Classical.not_not, not_true_eq_false, not_false_eq_true, if_true, if_false, ite_not, ite_self, Bool.false_eq_true, nIne1, List.cons_append, List.nil_append, kMask, mask, mask_n, nIle, hin, gi, em]
        refine ⟨g', rfl, fun a ha => by rw [h1 a (by omega), hfr a (by omega) (by omega), f1 a (by omega)], em, fun k hk x hx => ⟨by rw [h1 _ (by omega)]; exact k1 k hk x hx, ?_⟩⟩
        by_cases e : x < r
        · rw [if_pos e]; exact h2 k hk x e
        · rw [if_neg e]; exact h3 k x (by omega) hx
      · rintro s k hk ih ls h ⟨g', u, rfl, rfl, h1, h2, h3⟩
        have hin : (ordMany r ≤ k) = False := eq_false (by omega)
        have gi := fun (k : KK) (ls st : List Value) => Q_gi (n := q + 3) (z := z) (g := g') (H := (q, 2) :: (q, 1) :: H) (ci := 3) (N := 3) (kx := 0) (show q < q + 3 by omega) t0 k ls st
        have em : g' q 0 = nI (ordMany r) := by rw [h1 q (by omega)]; exact k0
        have inn : (fun r' => ∃ g', r' = some (none, HQ (q + 3) z g' ((q, 2) :: (q, 1) :: H)) ∧ (∀ a, (a < q ∨ q + 2 < a) → g' a = g a) ∧ ORQ g' q r) (kl_X3_init_57 s [.ref q, .int (nI r), .int (nI k), .int (nI 0)] [] (HQ (q + 3) z g' ((q, 2) :: (q, 1) :: H))) := by
          unfold kl_X3_init_57
          refine kFor r (by unfold FU; omega) (fun x ls h => ∃ (g3 : GG), ls = [.ref q, .int (nI r), .int (nI k), .int (nI x)] ∧ h = HQ (q + 3) z g3 ((q, 2) :: (q, 1) :: H) ∧ (∀ a, a ≠ q + 2 → g3 a = g2 a) ∧ (∀ j, j < k → ∀ x, x < r → g3 (q + 2) (6 * j + x) = nI (ordAhead r j x)) ∧ (∀ j x, r ≤ x → x < 6 → g3 (q + 2) (6 * j + x) = nI 0) ∧ ∀ y, y < x → g3 (q + 2) (6 * k + y) = nI (ordAhead r k y)) (fun r' => ∃ g', r' = some (none, HQ (q + 3) z g' ((q, 2) :: (q, 1) :: H)) ∧ (∀ a, (a < q ∨ q + 2 < a) → g' a = g a) ∧ ORQ g' q r) ?_ ?_ 0 _ _ (by omega) ⟨g', rfl, rfl, h1, h2, h3, fun y hy => absurd hy (Nat.not_lt_zero _)⟩
          · rintro s1 ls h ⟨g3, rfl, rfl, w1, w2, w3, w4⟩
            have hin : (r ≤ r) = True := eq_true (Nat.le_refl _)
            simp (disch := first | assumption | omega) only [KL, KB, KC, KI, KJ, KZ, bI_0, bI_n, nI00, nI10, ne_eq, Classical.not_not, not_true_eq_false, not_false_eq_true, if_true, if_false, ite_not, ite_self, Bool.false_eq_true, nIne1, kMask, mask, mask_n, nIle, hin, nI_add]
            exact ih _ _ ⟨g3, [.int (nI r)], rfl, rfl, w1, fun j hj x hx => by
              by_cases e : j = k
              · rw [e]; exact w4 x hx
              · exact w2 j (by omega) x hx, w3⟩
          · rintro s1 x hx ih2 ls h ⟨g3, rfl, rfl, w1, w2, w3, w4⟩
            have hin : (r ≤ x) = False := eq_false (by omega)
            obtain ⟨a1, a2⟩ := sa_eq r3 r6 hk hx
            have es := i_slots (z := z) (g := g3) (R := ordRank r k) hO (show q + 2 < q + 3 by omega) m1 (show k < 24 by omega) hx r6 (fun y hy => ⟨by
              rw [w1 _ (by omega), k1 k hk y (by omega), if_pos hy], (sa_eq r3 r6 hk hy).2⟩)
            rw [a1] at es
            have gr := fun (k : KK) (ls st : List Value) => Q_gr (n := q + 3) (z := z) (g := g3) (ci := 3) (N := 3) (show q < q + 3 by omega) t0 m2 r2 k ls st
            have rc := fun (k : KK) (ls st : List Value) (v0 v1 v2 : Value) => Q_rc3 (n := q + 3) (z := z) (g := g3) (H := (q, 2) :: (q, 1) :: H) (ci := 3) (N := 3) (show q < q + 3 by omega) t0 k ls st v0 v1 v2
            have ia := fun (k' : KK) (ls st : List Value) (v : Int32) => Q_ias (n := q + 3) (z := z) (g := g3) (H := (q, 2) :: (q, 1) :: H) (a := q + 2) (i := k * 6 + x) (x := v) (by omega) t2 (by decide) (by omega) k' ls st
            simp (disch := first | assumption | omega) only [KL, KB, KC, KI, KJ, KZ, bI_0, bI_n, nI00, nI10, ne_eq, Classical.not_not, not_true_eq_false, not_false_eq_true, if_true, if_false, ite_not, ite_self, Bool.false_eq_true, nIne1, kMask, mask, mask_n, nIle, hin, gr, rc, es, nI_mul, nI_add, ia]
            refine ih2 _ _ ⟨_, rfl, rfl, fun a ha => by rw [uN ha]; exact w1 a ha, fun j hj y hy => by rw [uO (Or.inr (by omega))]; exact w2 j hj y hy, fun j y h1 h2 => by rw [uO (Or.inr (by omega))]; exact w3 j y h1 h2, fun y hy => ?_⟩
            by_cases e : y = x
            · rw [e, show 6 * k + x = k * 6 + x by omega, uS]
            · rw [uO (Or.inr (by omega))]; exact w4 y (by omega)
        simp (disch := first | assumption | omega) only [KL, KB, KC, KI, KJ, KZ, bI_0, bI_n, nI00, nI10, ne_eq, Classical.not_not, not_true_eq_false, not_false_eq_true, if_true, if_false, ite_not, ite_self, Bool.false_eq_true, nIne1, List.cons_append, List.nil_append, kMask, mask, mask_n, nIle, hin, gi, em]
        exact inn
    obtain ⟨g', e, w⟩ := key
    refine ⟨g', ?_, w⟩
    rw [← e]
    simp (disch := first | assumption | omega) only [kb_X3_init_45, KL, KB, KC, KI, KJ, KZ, bI_0, bI_n, nI00, nI10, ne_eq, Classical.not_not, not_true_eq_false, not_false_eq_true, if_true, if_false, ite_not, ite_self, Bool.false_eq_true, nIne1]
  have hI3 : INV (q + 3) g1 ((q, 2) :: (q, 1) :: H) := hI.of (by omega) (fun a ha => f1 a (by omega)) (fun p hp => by
    simp only [List.mem_cons] at hp
    rcases hp with h | h | h
    · right; rw [h]; show q < q + 3; omega
    · right; rw [h]; show q < q + 3; omega
    · left; exact h)
  have rc := fun (k : KK) (ls st : List Value) (v0 : Value) (z : Nat) => Q_rc1 (n := q + 3) (z := z) (g := g1) (H := (q, 2) :: (q, 1) :: H) (ci := 3) (N := 3) (show q < q + 3 by omega) t0 k ls st v0
  have body : ∃ (g' : GG), f_X3_init [.ref q, .int (nI r)] (HQ (q + 1) z g H) = some (none, HQ (q + 3) (z + 288) g' ((q, 2) :: (q, 1) :: H)) ∧ (∀ a, (a < q ∨ q + 2 < a) → g' a = g a) ∧ ORQ g' q r := by
    by_cases c : r ≤ 4
    · have c' : (4 < r) = False := eq_false (by omega)
      obtain ⟨g2, e2, w1, w2⟩ := i_all (n := q + 3) (z := z + 288) (g := g1) hO (by omega) m1 r3 c z1 z00
      obtain ⟨g3, e3, v⟩ := ahead g2 (z + 288) w2 w1
      refine ⟨g3, ?_, v⟩
      rw [← hg1] at e2
      simp (disch := first | assumption | omega | (repeat first | assumption | omega | apply INV.pi | apply INV.pr | (refine INV.up (by assumption) ?_))) only [f_X3_init, kb_X3_init_0, KL, KB, KC, KI, KJ, KZ, bI_0, bI_n, nI00, nI10, ne_eq, Classical.not_not, not_true_eq_false, not_false_eq_true, if_true, if_false, ite_not, ite_self, Bool.false_eq_true, nIne1, Q_obj, Q_pi, Q_newA, Q_pr, nIlt, c', Q_rc1, Nat.add_assoc, Nat.reduceAdd, e2, e3]
    · have c' : (4 < r) = True := eq_true (by omega)
      obtain ⟨g2, e2, w1, w2⟩ := i_rounds (n := q + 3) (z := z + 288) (g := g1) hO (by omega) m1 (by omega) r6 z1
      obtain ⟨g3, e3, v⟩ := ahead g2 (z + 288) w2 w1
      refine ⟨g3, ?_, v⟩
      rw [← hg1] at e2
      simp (disch := first | assumption | omega | (repeat first | assumption | omega | apply INV.pi | apply INV.pr | (refine INV.up (by assumption) ?_))) only [f_X3_init, kb_X3_init_0, KL, KB, KC, KI, KJ, KZ, bI_0, bI_n, nI00, nI10, ne_eq, Classical.not_not, not_true_eq_false, not_false_eq_true, if_true, if_false, ite_not, ite_self, Bool.false_eq_true, nIne1, Q_obj, Q_pi, Q_newA, Q_pr, nIlt, c', Q_rc1, Nat.add_assoc, Nat.reduceAdd, e2, e3]
  obtain ⟨g', e, w1, w2⟩ := body
  exact ⟨g', _, e, hI3.of (Nat.le_refl _) (fun a ha => by rw [w1 a (by omega), f1 a (by omega)]) (fun p hp => Or.inl hp), fun p hp => List.mem_cons_of_mem _ (List.mem_cons_of_mem _ hp), w1, w2, m1, m2⟩
