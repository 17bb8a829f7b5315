-- ===== crossing =====
def flA (g : GG) (a n : Nat) (v : Int32) : GG := fun b i => if b = a ∧ i < n then v else g b i
theorem flA_ne {g : GG} {a n b : Nat} {v : Int32} (h : b ≠ a) : flA g a n v b = g b := by
  funext i
  exact if_neg (fun q => h q.1)
theorem flA_in {g : GG} {a n i : Nat} {v : Int32} (h : i < n) : flA g a n v a i = v := if_pos ⟨rfl, h⟩
theorem fill_at {a n : Nat} {g : GG} {m o : Nat} {v : Int32} (hs : SH a = (1, n)) (hn : n < 9999) : f_J7_fill_53178 [.ref a, .int v] (hp g m o) = some (none, hp (flA g a n v) m o) := by
  have le : ∀ (k : KK) (ls st : List Value) (g : GG), kLen k ls (.ref a :: st) (hp g m o) = k ls (.int (nI n) :: st) (hp g m o) := fun k ls st g => le_at hs (by decide) (by decide) k ls st
  simp only [f_J7_fill_53178, kb_J7_fill_53178_0, KL, KB, KC, KI, KJ, KZ, bI_0, bI_n, nI00, nI10, ne_eq, Classical.not_not, not_true_eq_false, not_false_eq_true, if_true, if_false, ite_not, ite_self, Bool.false_eq_true, nIne1, le]
  unfold kl_J7_fill_53178_5
  refine kFix_rule (fun k ls st h => ∃ (i : Nat), i + k = n ∧ ls = [.ref a, .int v, .int (nI i), .int (nI n)] ∧ st = [] ∧ h = hp (flA g a i v) m o) (fun r => r = some (none, hp (flA g a n v) m o)) ?_ FU n (by show n < 10000; omega) _ _ _ ⟨0, by omega, rfl, rfl, by congr 1; funext b i; exact (if_neg (fun q => by omega)).symm⟩
  rintro s k ih ls st h ⟨i, hk, rfl, rfl, rfl⟩
  cases k with
  | zero =>
    have hin : (n ≤ i) = True := eq_true (by omega)
    simp (disch := first | assumption | omega) only [KL, KB, KC, KI, KJ, KZ, bI_0, bI_n, nI00, nI10, ne_eq, Classical.not_not, not_true_eq_false, not_false_eq_true, if_true, if_false, ite_not, ite_self, Bool.false_eq_true, nIne1, kMask, mask, nIle, hin]
    rw [show i = n by omega]
  | succ k =>
    have hin : (n ≤ i) = False := eq_false (by omega)
    have ia : ∀ (k : KK) (ls st : List Value) (g : GG), kIas k ls (.int v :: .int (nI i) :: .ref a :: st) (hp g m o) = k ls st (hp (upd2 g a i v) m o) := fun k ls st g => ias_at hs (by omega) (by omega) k ls st
    simp (disch := first | assumption | omega) only [KL, KB, KC, KI, KJ, KZ, bI_0, bI_n, nI00, nI10, ne_eq, Classical.not_not, not_true_eq_false, not_false_eq_true, if_true, if_false, ite_not, ite_self, Bool.false_eq_true, nIne1, kMask, mask, nIle, hin, ia, nI_add]
    refine ih k (by omega) _ _ _ ⟨i + 1, by omega, rfl, rfl, ?_⟩
    congr 1
    funext b t
    by_cases hb : b = a
    · subst hb
      by_cases ht : t = i
      · subst ht; rw [uS]; exact (if_pos ⟨rfl, by omega⟩).symm
      · rw [uO (Or.inr ht)]
        by_cases h2 : t < i
        · rw [flA_in h2, flA_in (by omega)]
        · show (if b = b ∧ t < i then v else g b t) = (if b = b ∧ t < i + 1 then v else g b t)
          rw [if_neg (fun q => h2 q.2), if_neg (fun q => by omega)]
    · rw [uN hb, flA_ne hb, flA_ne hb]
def newX (g : GG) (X : Nat) (n : Int32) : GG := flA (flA (flA (flA (flA (flA (flA (upd2 g X 0 n) (X + 1) 30 (nI 0)) (X + 2) 36 (-1)) (X + 4) 6 (nI 0)) (X + 6) 6 (nI 0)) (X + 7) 18 (nI 0)) (X + 8) 3 (nI 0)) (X + 9) 18 (-1)
theorem x_makeNew (g : GG) (m o X : Nat) (n : Int32) (hX : isX X) : f_X1_makeNew [.ref X, .int n] (hp g m o) = some (none, hp (newX g X n) m o) := by
  obtain ⟨s0, s1, s2, s3, s4, s5, s6, s7, s8, s9, -⟩ := id hX
  have f1 := fun (g : GG) (v : Int32) => fill_at (g := g) (m := m) (o := o) (v := v) s1 (by decide)
  have f2 := fun (g : GG) (v : Int32) => fill_at (g := g) (m := m) (o := o) (v := v) s2 (by decide)
  have f4 := fun (g : GG) (v : Int32) => fill_at (g := g) (m := m) (o := o) (v := v) s4 (by decide)
  have f6 := fun (g : GG) (v : Int32) => fill_at (g := g) (m := m) (o := o) (v := v) s6 (by decide)
  have f7 := fun (g : GG) (v : Int32) => fill_at (g := g) (m := m) (o := o) (v := v) s7 (by decide)
  have f8 := fun (g : GG) (v : Int32) => fill_at (g := g) (m := m) (o := o) (v := v) s8 (by decide)
  have f9 := fun (g : GG) (v : Int32) => fill_at (g := g) (m := m) (o := o) (v := v) s9 (by decide)
  simp (disch := first | assumption | omega) only [f_X1_makeNew, kb_X1_makeNew_0, KL, KB, KC, KI, KJ, KZ, bI_0, bI_n, nI00, nI10, ne_eq, Classical.not_not, not_true_eq_false, not_false_eq_true, if_true, if_false, ite_not, ite_self, Bool.false_eq_true, nIne1, XO, f1, f2, f4, f6, f7, f8, f9]
  rfl
theorem x_forget (g : GG) (m o X n c : Nat) (hX : isX X) (en : g X 0 = nI n) (n6 : n ≤ 6) (hc : c < 6) : ∃ g', f_X1_forgetLinksTo [.ref X, .int (nI c)] (hp g m o) = some (none, hp g' m o) ∧ (∀ a, a ≠ X + 9 → g' a = g a) ∧ (∀ i, i < n → g' (X + 9) i = if g (X + 9) i = nI c then -1 else g (X + 9) i) ∧ ∀ i, n ≤ i → g' (X + 9) i = g (X + 9) i := by
  simp only [f_X1_forgetLinksTo, kb_X1_forgetLinksTo_31, kb_X1_forgetLinksTo_0, KL, KB, KC, KI, KJ, KZ, bI_0, bI_n, nI00, nI10, ne_eq, Classical.not_not, not_true_eq_false, not_false_eq_true, if_true, if_false, ite_not, ite_self, Bool.false_eq_true, nIne1]
  unfold kl_X1_forgetLinksTo_2
  refine kFix_rule (fun k ls st h => ∃ (i : Nat) (g1 : GG), i + k = n ∧ ls = [.ref X, .int (nI c), .int (nI i)] ∧ st = [] ∧ h = hp g1 m o ∧ (∀ a, a ≠ X + 9 → g1 a = g a) ∧ (∀ t, t < i → g1 (X + 9) t = if g (X + 9) t = nI c then -1 else g (X + 9) t) ∧ ∀ t, i ≤ t → g1 (X + 9) t = g (X + 9) t) (fun r => ∃ g', r = some (none, hp g' m o) ∧ (∀ a, a ≠ X + 9 → g' a = g a) ∧ (∀ i, i < n → g' (X + 9) i = if g (X + 9) i = nI c then -1 else g (X + 9) i) ∧ ∀ i, n ≤ i → g' (X + 9) i = g (X + 9) i) ?_ FU n (by show n < 10000; omega) _ _ _ ⟨0, g, by omega, rfl, rfl, rfl, fun _ _ => rfl, fun t ht => by omega, fun _ _ => rfl⟩
  rintro s k ih ls st h ⟨i, g1, hk, rfl, rfl, rfl, h1, h2, h3⟩
  have en1 : g1 X 0 = nI n := by rw [h1 X (by omega)]; exact en
  cases k with
  | zero =>
    have hin : (n ≤ i) = True := eq_true (by omega)
    simp (disch := first | assumption | omega) only [KL, KB, KC, KI, KJ, KZ, bI_0, bI_n, nI00, nI10, ne_eq, Classical.not_not, not_true_eq_false, not_false_eq_true, if_true, if_false, ite_not, ite_self, Bool.false_eq_true, nIne1, kMask, mask, XO, en1, nIle, hin]
    exact ⟨g1, rfl, h1, fun t ht => h2 t (by omega), fun t ht => h3 t (by omega)⟩
  | succ k =>
    have hin : (n ≤ i) = False := eq_false (by omega)
    by_cases hl : g (X + 9) i = nI c
    · have hl1 : g1 (X + 9) i = nI c := by rw [h3 i (by omega)]; exact hl
      simp (disch := first | assumption | omega) only [KL, KB, KC, KI, KJ, KZ, bI_0, bI_n, nI00, nI10, ne_eq, Classical.not_not, not_true_eq_false, not_false_eq_true, if_true, if_false, ite_not, ite_self, Bool.false_eq_true, nIne1, kMask, mask, XO, en1, nIle, hin, hl1, kb_X1_forgetLinksTo_31, nI_add, Nat.zero_add]
      refine ih k (by omega) _ _ _ ⟨i + 1, _, by omega, rfl, rfl, rfl, fun a ha => by rw [uN ha]; exact h1 a ha, fun t ht => ?_, fun t ht => by rw [uO (by omega)]; exact h3 t (by omega)⟩
      by_cases e : t = i
      · subst e; rw [uS, if_pos hl]
      · rw [uO (Or.inr e)]; exact h2 t (by omega)
    · have hl1 : ¬ g1 (X + 9) i = nI c := by rw [h3 i (by omega)]; exact hl
      simp (disch := first | assumption | omega) only [KL, KB, KC, KI, KJ, KZ, bI_0, bI_n, nI00, nI10, ne_eq, Classical.not_not, not_true_eq_false, not_false_eq_true, if_true, if_false, ite_not, ite_self, Bool.false_eq_true, nIne1, kMask, mask, XO, en1, nIle, hin, hl1, kb_X1_forgetLinksTo_31, nI_add, Nat.zero_add]
      refine ih k (by omega) _ _ _ ⟨i + 1, _, by omega, rfl, rfl, rfl, h1, fun t ht => ?_, fun t ht => h3 t (by omega)⟩
      by_cases e : t = i
      · subst e; rw [if_neg hl]; exact h3 _ (by omega)
      · exact h2 t (by omega)
theorem forgets_c (g : GG) (m o c : Nat) (hc : c < 6) (N : Nat → Nat) (hN : ∀ c', c' < 6 → g (17 + 10 * c') 0 = nI (N c') ∧ N c' ≤ 6) (a b d : Value) : ∃ g', kl_X10_crossing_45 [a, .int (nI c), b, d, .ref 4, .int (nI 6), .int (nI 0)] [] (hp g m o) = some (some (.int (nI 1)), hp g' m o) ∧ (∀ x, (∀ c', c' < 6 → x ≠ 17 + 10 * c' + 9) → g' x = g x) ∧ ∀ c', c' < 6 → (∀ i, i < N c' → g' (17 + 10 * c' + 9) i = if g (17 + 10 * c' + 9) i = nI c then -1 else g (17 + 10 * c' + 9) i) ∧ ∀ i, N c' ≤ i → g' (17 + 10 * c' + 9) i = g (17 + 10 * c' + 9) i := by
  unfold kl_X10_crossing_45
  refine kFix_rule (fun k ls st h => ∃ (i : Nat) (g1 : GG) (a b d : Value) (u : List Value), i + k = 6 ∧ ls = [a, .int (nI c), b, d, .ref 4, .int (nI 6), .int (nI i)] ++ u ∧ st = [] ∧ h = hp g1 m o ∧ (∀ x, (∀ c', c' < i → x ≠ 17 + 10 * c' + 9) → g1 x = g x) ∧ ∀ c', c' < i → (∀ i, i < N c' → g1 (17 + 10 * c' + 9) i = if g (17 + 10 * c' + 9) i = nI c then -1 else g (17 + 10 * c' + 9) i) ∧ ∀ i, N c' ≤ i → g1 (17 + 10 * c' + 9) i = g (17 + 10 * c' + 9) i) (fun r => ∃ g', r = some (some (.int (nI 1)), hp g' m o) ∧ (∀ x, (∀ c', c' < 6 → x ≠ 17 + 10 * c' + 9) → g' x = g x) ∧ ∀ c', c' < 6 → (∀ i, i < N c' → g' (17 + 10 * c' + 9) i = if g (17 + 10 * c' + 9) i = nI c then -1 else g (17 + 10 * c' + 9) i) ∧ ∀ i, N c' ≤ i → g' (17 + 10 * c' + 9) i = g (17 + 10 * c' + 9) i) ?_ FU 6 (by decide) _ _ _ ⟨0, g, a, b, d, [], rfl, rfl, rfl, rfl, fun _ _ => rfl, fun c' h => by omega⟩
  rintro s k ih ls st h ⟨i, g1, a, b, d, u, hk, rfl, rfl, rfl, h1, h2⟩
  cases k with
  | zero =>
    have hin : (6 ≤ i) = True := eq_true (by omega)
    have h6 : i = 6 := by omega
    simp (disch := first | assumption | omega) only [KL, KB, KC, KI, KJ, KZ, bI_0, bI_n, nI00, nI10, ne_eq, Classical.not_not, not_true_eq_false, not_false_eq_true, if_true, if_false, ite_not, ite_self, Bool.false_eq_true, nIne1, List.cons_append, List.nil_append, kMask, mask, nIle, hin]
    subst h6
    exact ⟨g1, rfl, h1, h2⟩
  | succ k =>
    have hin : (6 ≤ i) = False := eq_false (by omega)
    have hi : i < 6 := by omega
    have hX := isX_live i hi
    obtain ⟨en, n6⟩ := hN i hi
    have en1 : g1 (17 + 10 * i) 0 = nI (N i) := by rw [h1 _ (fun c' _ => by omega)]; exact en
    have el : g1 (17 + 10 * i + 9) = g (17 + 10 * i + 9) := h1 _ (fun c' _ => by omega)
    obtain ⟨g2, e, p1, p2, p3⟩ := x_forget g1 m o _ (N i) c hX en1 n6 hc
    simp (disch := first | assumption | omega) only [KL, KB, KC, KI, KJ, KZ, bI_0, bI_n, nI00, nI10, ne_eq, Classical.not_not, not_true_eq_false, not_false_eq_true, if_true, if_false, ite_not, ite_self, Bool.false_eq_true, nIne1, List.cons_append, List.nil_append, kMask, mask, nIle, hin, nI_add, aalX, XO, e]
    refine ih k (by omega) _ _ _ ⟨i + 1, g2, _, _, _, _, by omega, rfl, rfl, rfl, fun x hx => ?_, fun c' hc' => ?_⟩
    · rw [p1 x (hx i (by omega))]; exact h1 x (fun c' q => hx c' (by omega))
    · by_cases q : c' = i
      · subst q
        rw [← el]
        exact ⟨p2, p3⟩
      · rw [p1 _ (by omega)]; exact h2 c' (by omega)
theorem clears83 (g : GG) (m o c c' : Nat) (hc : c < 6) (hc' : c' < 6) (a : Value) (s74 : KK) (Q : RS → Prop) (hQ : ∀ (g' : GG) (u : List Value) (a : Value), (∀ x, x ≠ 189 → g' x = g x) → (∀ r, r < 6 → g' 189 (10 + 560 * c' + 92 * r + 89) = if g 189 (10 + 560 * c' + 92 * r + 89) = nI c then -1 else g 189 (10 + 560 * c' + 92 * r + 89)) → (∀ t, (∀ r, r < 6 → t ≠ 10 + 560 * c' + 92 * r + 89) → g' 189 t = g 189 t) → Q (s74 ([.ref 188, .int (nI c), a, .int (nI (c' + 1))] ++ u) [] (hp g' m o))) : Q (kl_X11_clears_83 s74 [.ref 188, .int (nI c), a, .int (nI c'), .int (nI 0)] [] (hp g m o)) := by
  unfold kl_X11_clears_83
  refine kFix_rule (fun k ls st h => ∃ (i : Nat) (g1 : GG) (a : Value), i + k = 6 ∧ ls = [.ref 188, .int (nI c), a, .int (nI c'), .int (nI i)] ∧ st = [] ∧ h = hp g1 m o ∧ (∀ x, x ≠ 189 → g1 x = g x) ∧ (∀ r, r < i → g1 189 (10 + 560 * c' + 92 * r + 89) = if g 189 (10 + 560 * c' + 92 * r + 89) = nI c then -1 else g 189 (10 + 560 * c' + 92 * r + 89)) ∧ ∀ t, (∀ r, r < i → t ≠ 10 + 560 * c' + 92 * r + 89) → g1 189 t = g 189 t) Q ?_ FU 6 (by decide) _ _ _ ⟨0, g, a, rfl, rfl, rfl, rfl, fun _ _ => rfl, fun r h => by omega, fun _ _ => rfl⟩
  rintro s k ih ls st h ⟨i, g1, a, hk, rfl, rfl, rfl, h1, h2, h3⟩
  cases k with
  | zero =>
    have hin : (6 ≤ i) = True := eq_true (by omega)
    have h6 : i = 6 := by omega
    simp (disch := first | assumption | omega) only [KL, KB, KC, KI, KJ, KZ, bI_0, bI_n, nI00, nI10, ne_eq, Classical.not_not, not_true_eq_false, not_false_eq_true, if_true, if_false, ite_not, ite_self, Bool.false_eq_true, nIne1, kMask, mask, nIle, hin, nI_add]
    subst h6
    exact hQ g1 [.int (nI 6)] _ h1 h2 h3
  | succ k =>
    have hin : (6 ≤ i) = False := eq_false (by omega)
    have hi : i < 6 := by omega
    by_cases hl : g 189 (10 + 560 * c' + 92 * i + 89) = nI c
    · have hl1 : g1 189 (10 + 560 * c' + 92 * i + 89) = nI c := by rw [h3 _ (fun r _ => by omega)]; exact hl
      simp (disch := first | assumption | omega) only [KL, KB, KC, KI, KJ, KZ, bI_0, bI_n, nI00, nI10, ne_eq, Classical.not_not, not_true_eq_false, not_false_eq_true, if_true, if_false, ite_not, ite_self, Bool.false_eq_true, nIne1, kMask, mask, O_mo, m_get, m_set0, nIle, hin, nI_add, hl1, kb_X11_clears_113]
      refine ih k (by omega) _ _ _ ⟨i + 1, _, _, by omega, rfl, rfl, rfl, fun x hx => by rw [uN hx]; exact h1 x hx, fun r hr => ?_, fun t ht => by rw [uO (Or.inr (ht i (by omega)))]; exact h3 t (fun r hr => ht r (by omega))⟩
      by_cases q : r = i
      · subst q; rw [uS, if_pos hl]
      · rw [uO (by omega)]; exact h2 r (by omega)
    · have hl1 : ¬ g1 189 (10 + 560 * c' + 92 * i + 89) = nI c := by rw [h3 _ (fun r _ => by omega)]; exact hl
      simp (disch := first | assumption | omega) only [KL, KB, KC, KI, KJ, KZ, bI_0, bI_n, nI00, nI10, ne_eq, Classical.not_not, not_true_eq_false, not_false_eq_true, if_true, if_false, ite_not, ite_self, Bool.false_eq_true, nIne1, kMask, mask, O_mo, m_get, m_set0, nIle, hin, nI_add, hl1, kb_X11_clears_113]
      refine ih k (by omega) _ _ _ ⟨i + 1, _, _, by omega, rfl, rfl, rfl, h1, fun r hr => ?_, fun t ht => h3 t (fun r hr => ht r (by omega))⟩
      by_cases q : r = i
      · subst q; rw [if_neg hl]; exact h3 _ (fun r _ => by omega)
      · exact h2 r (by omega)
def clP (g : GG) (m o c : Nat) (r : RS) : Prop := ∃ g', r = some (none, hp g' m o) ∧ (∀ x, x ≠ 189 → g' x = g x) ∧ (∀ c', c' < 6 → ∀ r, r < 6 → g' 189 (10 + 560 * c' + 92 * r + 89) = if g 189 (10 + 560 * c' + 92 * r + 89) = nI c then -1 else g 189 (10 + 560 * c' + 92 * r + 89)) ∧ (∀ t, (∀ c', c' < 6 → ∀ r, r < 6 → t ≠ 10 + 560 * c' + 92 * r + 89) → g' 189 t = g 189 t)
theorem clears74 (g : GG) (m o c : Nat) (hc : c < 6) (a : Value) (u : List Value) : ∃ g', kl_X11_clears_74 ([.ref 188, .int (nI c), a, .int (nI 0)] ++ u) [] (hp g m o) = some (none, hp g' m o) ∧ (∀ x, x ≠ 189 → g' x = g x) ∧ (∀ c', c' < 6 → ∀ r, r < 6 → g' 189 (10 + 560 * c' + 92 * r + 89) = if g 189 (10 + 560 * c' + 92 * r + 89) = nI c then -1 else g 189 (10 + 560 * c' + 92 * r + 89)) ∧ (∀ t, (∀ c', c' < 6 → ∀ r, r < 6 → t ≠ 10 + 560 * c' + 92 * r + 89) → g' 189 t = g 189 t) := by
  unfold kl_X11_clears_74
  refine kFix_rule (fun k ls st h => ∃ (i : Nat) (g1 : GG) (a : Value) (u : List Value), i + k = 6 ∧ ls = [.ref 188, .int (nI c), a, .int (nI i)] ++ u ∧ st = [] ∧ h = hp g1 m o ∧ (∀ x, x ≠ 189 → g1 x = g x) ∧ (∀ c', c' < i → ∀ r, r < 6 → g1 189 (10 + 560 * c' + 92 * r + 89) = if g 189 (10 + 560 * c' + 92 * r + 89) = nI c then -1 else g 189 (10 + 560 * c' + 92 * r + 89)) ∧ ∀ t, (∀ c', c' < i → ∀ r, r < 6 → t ≠ 10 + 560 * c' + 92 * r + 89) → g1 189 t = g 189 t) (clP g m o c) ?_ FU 6 (by decide) _ _ _ ⟨0, g, a, u, rfl, rfl, rfl, rfl, fun _ _ => rfl, fun c' h => by omega, fun _ _ => rfl⟩
  rintro s k ih ls st h ⟨i, g1, a, u, hk, rfl, rfl, rfl, h1, h2, h3⟩
  cases k with
  | zero =>
    have hin : (6 ≤ i) = True := eq_true (by omega)
    have h6 : i = 6 := by omega
    simp (disch := first | assumption | omega) only [KL, KB, KC, KI, KJ, KZ, bI_0, bI_n, nI00, nI10, ne_eq, Classical.not_not, not_true_eq_false, not_false_eq_true, if_true, if_false, ite_not, ite_self, Bool.false_eq_true, nIne1, List.cons_append, List.nil_append, kMask, mask, nIle, hin]
    subst h6
    exact ⟨g1, rfl, h1, h2, h3⟩
  | succ k =>
    have hin : (6 ≤ i) = False := eq_false (by omega)
    have hi : i < 6 := by omega
    simp (disch := first | assumption | omega) only [KL, KB, KC, KI, KJ, KZ, bI_0, bI_n, nI00, nI10, ne_eq, Classical.not_not, not_true_eq_false, not_false_eq_true, if_true, if_false, ite_not, ite_self, Bool.false_eq_true, nIne1, List.cons_append, List.nil_append, kMask, mask, nIle, hin]
    refine clears83 g1 m o c i hc hi _ s (clP g m o c) (fun g2 u a p1 p2 p3 => ih k (by omega) _ _ _ ⟨i + 1, g2, a, u, by omega, rfl, rfl, rfl, fun x hx => by rw [p1 x hx]; exact h1 x hx, fun c' hc' r hr => ?_, fun t ht => by rw [p3 t (fun r hr => ht i (by omega) r hr)]; exact h3 t (fun c' hc' r hr => ht c' (by omega) r hr)⟩)
    by_cases q : c' = i
    · subst q
      rw [p2 r hr, h3 _ (fun c'' _ r' _ => by omega)]
    · rw [p3 _ (fun r' _ => by omega)]; exact h2 c' (by omega) r hr
theorem clears51 (g : GG) (m o c : Nat) (hc : c < 6) (a : Value) : ∃ g3 : GG, (∀ x, x ≠ 189 → g3 x = g x) ∧ (∀ r, r < 6 → g3 189 (10 + 560 * c + 92 * r + 89) = -1) ∧ (∀ t, (∀ r, r < 6 → t ≠ 10 + 560 * c + 92 * r + 89) → g3 189 t = g 189 t) ∧ clP g3 m o c (kl_X11_clears_51 [.ref 188, .int (nI c), a, .int (nI 0)] [] (hp g m o)) := by
  suffices h : (fun R : RS => ∃ g3 : GG, (∀ x, x ≠ 189 → g3 x = g x) ∧ (∀ r, r < 6 → g3 189 (10 + 560 * c + 92 * r + 89) = -1) ∧ (∀ t, (∀ r, r < 6 → t ≠ 10 + 560 * c + 92 * r + 89) → g3 189 t = g 189 t) ∧ clP g3 m o c R) (kl_X11_clears_51 [.ref 188, .int (nI c), a, .int (nI 0)] [] (hp g m o)) from h
  unfold kl_X11_clears_51
  refine kFix_rule (fun k ls st h => ∃ (i : Nat) (g1 : GG) (a : Value), i + k = 6 ∧ ls = [.ref 188, .int (nI c), a, .int (nI i)] ∧ st = [] ∧ h = hp g1 m o ∧ (∀ x, x ≠ 189 → g1 x = g x) ∧ (∀ r, r < i → g1 189 (10 + 560 * c + 92 * r + 89) = -1) ∧ (∀ t, (∀ r, r < i → t ≠ 10 + 560 * c + 92 * r + 89) → g1 189 t = g 189 t)) (fun R : RS => ∃ g3 : GG, (∀ x, x ≠ 189 → g3 x = g x) ∧ (∀ r, r < 6 → g3 189 (10 + 560 * c + 92 * r + 89) = -1) ∧ (∀ t, (∀ r, r < 6 → t ≠ 10 + 560 * c + 92 * r + 89) → g3 189 t = g 189 t) ∧ clP g3 m o c R) ?_ FU 6 (by decide) _ _ _ ⟨0, g, a, rfl, rfl, rfl, rfl, fun _ _ => rfl, fun r h => by omega, fun _ _ => rfl⟩
  rintro s k ih ls st h ⟨i, g1, a, hk, rfl, rfl, rfl, h1, h2, h3⟩
  cases k with
  | zero =>
    have hin : (6 ≤ i) = True := eq_true (by omega)
    have h6 : i = 6 := by omega
    simp (disch := first | assumption | omega) only [KL, KB, KC, KI, KJ, KZ, bI_0, bI_n, nI00, nI10, ne_eq, Classical.not_not, not_true_eq_false, not_false_eq_true, if_true, if_false, ite_not, ite_self, Bool.false_eq_true, nIne1, kMask, mask, nIle, hin]
    subst h6
    exact ⟨g1, h1, h2, h3, clears74 g1 m o c hc _ []⟩
  | succ k =>
    have hin : (6 ≤ i) = False := eq_false (by omega)
    simp (disch := first | assumption | omega) only [KL, KB, KC, KI, KJ, KZ, bI_0, bI_n, nI00, nI10, ne_eq, Classical.not_not, not_true_eq_false, not_false_eq_true, if_true, if_false, ite_not, ite_self, Bool.false_eq_true, nIne1, kMask, mask, O_mo, m_set0, nIle, hin, nI_add]
    refine ih k (by omega) _ _ _ ⟨i + 1, _, _, by omega, rfl, rfl, rfl, fun x hx => by rw [uN hx]; exact h1 x hx, fun r hr => ?_, fun t ht => by rw [uO (Or.inr (ht i (by omega)))]; exact h3 t (fun r hr => ht r (by omega))⟩
    by_cases q : r = i
    · subst q; rw [uS]
    · rw [uO (by omega)]; exact h2 r (by omega)
theorem m_clears (g : GG) (m o c n : Nat) (hc : c < 6) : ∃ g3 : GG, (∀ x, x ≠ 189 → g3 x = g x) ∧ (∀ r, r < 6 → g3 189 (10 + 560 * c + 92 * r + 89) = -1) ∧ g3 189 (10 + 560 * c + 552) = nI n ∧ (∀ i, i < 560 → i ≠ 552 → (∀ r, r < 6 → i ≠ 92 * r + 89) → g3 189 (10 + 560 * c + i) = nI 0) ∧ (∀ t, (t < 10 + 560 * c ∨ 10 + 560 * c + 560 ≤ t) → g3 189 t = g 189 t) ∧ clP g3 m o c (f_X11_clears [.ref 188, .int (nI c), .int (nI n)] (hp g m o)) := by
  simp (disch := first | assumption | omega) only [f_X11_clears, kb_X11_clears_113, kb_X11_clears_0, KL, KB, KC, KI, KJ, KZ, bI_0, bI_n, nI00, nI10, ne_eq, Classical.not_not, not_true_eq_false, not_false_eq_true, if_true, if_false, ite_not, ite_self, Bool.false_eq_true, nIne1]
  suffices h : (fun R : RS => ∃ g3 : GG, (∀ x, x ≠ 189 → g3 x = g x) ∧ (∀ r, r < 6 → g3 189 (10 + 560 * c + 92 * r + 89) = -1) ∧ g3 189 (10 + 560 * c + 552) = nI n ∧ (∀ i, i < 560 → i ≠ 552 → (∀ r, r < 6 → i ≠ 92 * r + 89) → g3 189 (10 + 560 * c + i) = nI 0) ∧ (∀ t, (t < 10 + 560 * c ∨ 10 + 560 * c + 560 ≤ t) → g3 189 t = g 189 t) ∧ clP g3 m o c R) (kl_X11_clears_2 [.ref 188, .int (nI c), .int (nI n), .int (nI 0)] [] (hp g m o)) from h
  unfold kl_X11_clears_2
  refine kFix_rule (fun k ls st h => ∃ (i : Nat) (g1 : GG), i + k = 560 ∧ ls = [.ref 188, .int (nI c), .int (nI n), .int (nI i)] ∧ st = [] ∧ h = hp g1 m o ∧ (∀ x, x ≠ 189 → g1 x = g x) ∧ (∀ t, t < i → g1 189 (10 + 560 * c + t) = nI 0) ∧ (∀ t, (t < 10 + 560 * c ∨ 10 + 560 * c + 560 ≤ t) → g1 189 t = g 189 t)) (fun R : RS => ∃ g3 : GG, (∀ x, x ≠ 189 → g3 x = g x) ∧ (∀ r, r < 6 → g3 189 (10 + 560 * c + 92 * r + 89) = -1) ∧ g3 189 (10 + 560 * c + 552) = nI n ∧ (∀ i, i < 560 → i ≠ 552 → (∀ r, r < 6 → i ≠ 92 * r + 89) → g3 189 (10 + 560 * c + i) = nI 0) ∧ (∀ t, (t < 10 + 560 * c ∨ 10 + 560 * c + 560 ≤ t) → g3 189 t = g 189 t) ∧ clP g3 m o c R) ?_ FU 560 (by decide) _ _ _ ⟨0, g, rfl, rfl, rfl, rfl, fun _ _ => rfl, fun r h => by omega, fun _ _ => rfl⟩
  rintro s k ih ls st h ⟨i, g1, hk, rfl, rfl, rfl, h1, h2, h3⟩
  cases k with
  | zero =>
    have hin : (560 ≤ i) = True := eq_true (by omega)
    have h6 : i = 560 := by omega
    subst h6
    obtain ⟨g3, p1, p2, p3, p4⟩ := clears51 (upd2 g1 189 (10 + 560 * c + 552) (nI n)) m o c hc (.int (nI n))
    simp (disch := first | assumption | omega) only [KL, KB, KC, KI, KJ, KZ, bI_0, bI_n, nI00, nI10, ne_eq, Classical.not_not, not_true_eq_false, not_false_eq_true, if_true, if_false, ite_not, ite_self, Bool.false_eq_true, nIne1, kMask, mask, O_mo, AR, nIle, hin, nI_mul, nI_add, Nat.mul_comm c 560]
    refine ⟨g3, fun x hx => by rw [p1 x hx, uN hx]; exact h1 x hx, p2, ?_, fun i hi hn hr => ?_, fun t ht => ?_, p4⟩
    · rw [p3 _ (fun r hr => by omega), uS]
    · rw [p3 _ (fun r h6 => by have := hr r h6; omega), uO (by omega)]; exact h2 i hi
    · rw [p3 _ (fun r h6 => by omega), uO (by omega)]; exact h3 t ht
  | succ k =>
    have hin : (560 ≤ i) = False := eq_false (by omega)
    simp (disch := first | assumption | omega) only [KL, KB, KC, KI, KJ, KZ, bI_0, bI_n, nI00, nI10, ne_eq, Classical.not_not, not_true_eq_false, not_false_eq_true, if_true, if_false, ite_not, ite_self, Bool.false_eq_true, nIne1, kMask, mask, O_mo, AR, nIle, hin, nI_mul, nI_add, Nat.mul_comm c 560]
    refine ih k (by omega) _ _ _ ⟨i + 1, _, by omega, rfl, rfl, rfl, fun x hx => by rw [uN hx]; exact h1 x hx, fun t ht => ?_, fun t ht => by rw [uO (by omega)]; exact h3 t ht⟩
    by_cases q : t = i
    · subst q; rw [uS]
    · rw [uO (by omega)]; exact h2 t (by omega)
