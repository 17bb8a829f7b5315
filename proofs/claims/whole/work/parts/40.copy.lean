-- ===== copies =====
def cpA (g : GG) (d s n : Nat) : GG := fun b => if b = d then va_cpy (g s) (g d) 0 0 n else g b
theorem cpA_ne {g : GG} {d s n b : Nat} (h : b ≠ d) : cpA g d s n b = g b := if_neg h
theorem cpA_in {g : GG} {d s n i : Nat} (h : i < n) : cpA g d s n d i = g s i := by
  show (if d = d then va_cpy (g s) (g d) 0 0 n else g d) i = _
  rw [if_pos rfl]
  show (if 0 ≤ i ∧ i < 0 + n then g s (0 + (i - 0)) else g d i) = _
  rw [if_pos (by omega), Nat.zero_add, Nat.sub_zero]
theorem copy_at {t a0 a1 n : Nat} {g : GG} {m o : Nat} (h0 : SH a0 = (1 + t, n)) (h1 : SH a1 = (1 + t, n)) (hn : n < 2147483648) (hb : t = 0 ∨ ∀ i, i < n → g a0 i = nI 0 ∨ g a0 i = nI 1) (k : KK) (ls : List Value) : kCopy t k ls [.int (nI n), .int (nI 0), .ref a1, .int (nI 0), .ref a0] (hp g m o) = k ls [] (hp (cpA g a1 a0 n) m o) := by
  have e0 : hSh (hp g m o) a0 = (1 + t, n) := h0
  have e1 : hSh (hp g m o) a1 = (1 + t, n) := h1
  have z0 : (nI 0).toNatClampNeg = 0 := nI_clamp (by omega)
  have zn : (nI n).toNatClampNeg = n := nI_clamp hn
  unfold kCopy
  simp only []
  rw [if_pos ?_]
  · rw [z0, zn]; rfl
  · rw [e0, e1, z0, zn]
    refine ⟨rfl, rfl, by decide, by decide, nI_pos' hn, by omega, by omega, ?_, by decide⟩
    rcases hb with h | h
    · exact Or.inl h
    · right
      intro i hi
      rw [Nat.zero_add]
      exact h i hi
theorem x_copy (g : GG) (m o X X' : Nat) (hX : isX X) (hX' : isX X') (hd : X + 9 < X' ∨ X' + 9 < X) : ∃ g', f_X1_copyFrom [.ref X', .ref X] (hp g m o) = some (none, hp g' m o) ∧ (∀ t, t < 10 → ∀ i, i < (match t with | 0 => 1 | 1 => 30 | 2 => 36 | 3 => 12 | 4 => 6 | 5 => 120 | 6 => 6 | 7 => 18 | 8 => 3 | _ => 18) → g' (X' + t) i = g (X + t) i) ∧ ∀ a, a < X' ∨ X' + 9 < a → g' a = g a := by
  obtain ⟨s0, s1, s2, s3, s4, s5, s6, s7, s8, s9, -⟩ := id hX
  obtain ⟨d0, d1, d2, d3, d4, d5, d6, d7, d8, d9, -⟩ := id hX'
  have l1 : ∀ (g : GG) (k : KK) (ls st : List Value), kLen k ls (.ref (X' + 1) :: st) (hp g m o) = k ls (.int (nI 30) :: st) (hp g m o) := fun g k ls st => le_at d1 (by decide) (by decide) k ls st
  have c1 : ∀ (g : GG) (k : KK) (ls : List Value), kCopy 0 k ls [.int (nI 30), .int (nI 0), .ref (X' + 1), .int (nI 0), .ref (X + 1)] (hp g m o) = k ls [] (hp (cpA g (X' + 1) (X + 1) 30) m o) := fun g k ls => copy_at (t := 0) s1 d1 (by decide) (Or.inl rfl) k ls
  have l2 : ∀ (g : GG) (k : KK) (ls st : List Value), kLen k ls (.ref (X' + 2) :: st) (hp g m o) = k ls (.int (nI 36) :: st) (hp g m o) := fun g k ls st => le_at d2 (by decide) (by decide) k ls st
  have c2 : ∀ (g : GG) (k : KK) (ls : List Value), kCopy 0 k ls [.int (nI 36), .int (nI 0), .ref (X' + 2), .int (nI 0), .ref (X + 2)] (hp g m o) = k ls [] (hp (cpA g (X' + 2) (X + 2) 36) m o) := fun g k ls => copy_at (t := 0) s2 d2 (by decide) (Or.inl rfl) k ls
  have l3 : ∀ (g : GG) (k : KK) (ls st : List Value), kLen k ls (.ref (X' + 3) :: st) (hp g m o) = k ls (.int (nI 12) :: st) (hp g m o) := fun g k ls st => le_at d3 (by decide) (by decide) k ls st
  have c3 : ∀ (g : GG) (k : KK) (ls : List Value), kCopy 0 k ls [.int (nI 12), .int (nI 0), .ref (X' + 3), .int (nI 0), .ref (X + 3)] (hp g m o) = k ls [] (hp (cpA g (X' + 3) (X + 3) 12) m o) := fun g k ls => copy_at (t := 0) s3 d3 (by decide) (Or.inl rfl) k ls
  have l4 : ∀ (g : GG) (k : KK) (ls st : List Value), kLen k ls (.ref (X' + 4) :: st) (hp g m o) = k ls (.int (nI 6) :: st) (hp g m o) := fun g k ls st => le_at d4 (by decide) (by decide) k ls st
  have c4 : ∀ (g : GG) (k : KK) (ls : List Value), kCopy 0 k ls [.int (nI 6), .int (nI 0), .ref (X' + 4), .int (nI 0), .ref (X + 4)] (hp g m o) = k ls [] (hp (cpA g (X' + 4) (X + 4) 6) m o) := fun g k ls => copy_at (t := 0) s4 d4 (by decide) (Or.inl rfl) k ls
  have l5 : ∀ (g : GG) (k : KK) (ls st : List Value), kLen k ls (.ref (X' + 5) :: st) (hp g m o) = k ls (.int (nI 120) :: st) (hp g m o) := fun g k ls st => le_at d5 (by decide) (by decide) k ls st
  have c5 : ∀ (g : GG) (k : KK) (ls : List Value), kCopy 0 k ls [.int (nI 120), .int (nI 0), .ref (X' + 5), .int (nI 0), .ref (X + 5)] (hp g m o) = k ls [] (hp (cpA g (X' + 5) (X + 5) 120) m o) := fun g k ls => copy_at (t := 0) s5 d5 (by decide) (Or.inl rfl) k ls
  have l6 : ∀ (g : GG) (k : KK) (ls st : List Value), kLen k ls (.ref (X' + 6) :: st) (hp g m o) = k ls (.int (nI 6) :: st) (hp g m o) := fun g k ls st => le_at d6 (by decide) (by decide) k ls st
  have c6 : ∀ (g : GG) (k : KK) (ls : List Value), kCopy 0 k ls [.int (nI 6), .int (nI 0), .ref (X' + 6), .int (nI 0), .ref (X + 6)] (hp g m o) = k ls [] (hp (cpA g (X' + 6) (X + 6) 6) m o) := fun g k ls => copy_at (t := 0) s6 d6 (by decide) (Or.inl rfl) k ls
  have l7 : ∀ (g : GG) (k : KK) (ls st : List Value), kLen k ls (.ref (X' + 7) :: st) (hp g m o) = k ls (.int (nI 18) :: st) (hp g m o) := fun g k ls st => le_at d7 (by decide) (by decide) k ls st
  have c7 : ∀ (g : GG) (k : KK) (ls : List Value), kCopy 0 k ls [.int (nI 18), .int (nI 0), .ref (X' + 7), .int (nI 0), .ref (X + 7)] (hp g m o) = k ls [] (hp (cpA g (X' + 7) (X + 7) 18) m o) := fun g k ls => copy_at (t := 0) s7 d7 (by decide) (Or.inl rfl) k ls
  have l8 : ∀ (g : GG) (k : KK) (ls st : List Value), kLen k ls (.ref (X' + 8) :: st) (hp g m o) = k ls (.int (nI 3) :: st) (hp g m o) := fun g k ls st => le_at d8 (by decide) (by decide) k ls st
  have c8 : ∀ (g : GG) (k : KK) (ls : List Value), kCopy 0 k ls [.int (nI 3), .int (nI 0), .ref (X' + 8), .int (nI 0), .ref (X + 8)] (hp g m o) = k ls [] (hp (cpA g (X' + 8) (X + 8) 3) m o) := fun g k ls => copy_at (t := 0) s8 d8 (by decide) (Or.inl rfl) k ls
  have l9 : ∀ (g : GG) (k : KK) (ls st : List Value), kLen k ls (.ref (X' + 9) :: st) (hp g m o) = k ls (.int (nI 18) :: st) (hp g m o) := fun g k ls st => le_at d9 (by decide) (by decide) k ls st
  have c9 : ∀ (g : GG) (k : KK) (ls : List Value), kCopy 0 k ls [.int (nI 18), .int (nI 0), .ref (X' + 9), .int (nI 0), .ref (X + 9)] (hp g m o) = k ls [] (hp (cpA g (X' + 9) (X + 9) 18) m o) := fun g k ls => copy_at (t := 0) s9 d9 (by decide) (Or.inl rfl) k ls
  refine ⟨cpA (cpA (cpA (cpA (cpA (cpA (cpA (cpA (cpA (upd2 g X' 0 (g X 0)) (X' + 1) (X + 1) 30) (X' + 2) (X + 2) 36) (X' + 3) (X + 3) 12) (X' + 4) (X + 4) 6) (X' + 5) (X + 5) 120) (X' + 6) (X + 6) 6) (X' + 7) (X + 7) 18) (X' + 8) (X + 8) 3) (X' + 9) (X + 9) 18, ?_, fun t ht => ?_, fun a ha => ?_⟩
  · simp only [f_X1_copyFrom, kb_X1_copyFrom_0, KL, KB, KC, KI, KJ, KZ, bI_0, bI_n, nI00, nI10, ne_eq, Classical.not_not, not_true_eq_false, not_false_eq_true, if_true, if_false, ite_not, ite_self, Bool.false_eq_true, nIne1, XO, hX, hX', l1, c1, l2, c2, l3, c3, l4, c4, l5, c5, l6, c6, l7, c7, l8, c8, l9, c9]
  · have ht' : t = 0 ∨ t = 1 ∨ t = 2 ∨ t = 3 ∨ t = 4 ∨ t = 5 ∨ t = 6 ∨ t = 7 ∨ t = 8 ∨ t = 9 := by omega
    rcases ht' with rfl | rfl | rfl | rfl | rfl | rfl | rfl | rfl | rfl | rfl
    all_goals intro i hi; (try dsimp only at hi); simp (disch := omega) only [cpA_ne, cpA_in, upd2_ne]
    have hi2 : i < 1 := hi
    rw [show i = 0 by omega]; exact upd2_same _ _ _ _
  · simp (disch := omega) only [cpA_ne, upd2_ne]
def isR (a : Nat) : Prop := SH a = (47, 5) ∧ SH (a + 1) = (1, 17) ∧ SH (a + 2) = (1, 400) ∧ ∀ (m o j : Nat), 1 ≤ j → j ≤ 2 → RR m o a (j + 2) = some (a + j)
theorem isR_live : ∀ k, k < 4 → isR (5 + 3 * k) := by
  intro k hk
  match k, hk with
  | 0, _ => exact ⟨rfl, rfl, rfl, fun m o j h1 h2 => by match j, h1, h2 with | 1, _, _ => rfl | 2, _, _ => rfl⟩
  | 1, _ => exact ⟨rfl, rfl, rfl, fun m o j h1 h2 => by match j, h1, h2 with | 1, _, _ => rfl | 2, _, _ => rfl⟩
  | 2, _ => exact ⟨rfl, rfl, rfl, fun m o j h1 h2 => by match j, h1, h2 with | 1, _, _ => rfl | 2, _, _ => rfl⟩
  | 3, _ => exact ⟨rfl, rfl, rfl, fun m o j h1 h2 => by match j, h1, h2 with | 1, _, _ => rfl | 2, _, _ => rfl⟩
theorem isR_kept : ∀ k, k < 4 → isR (81 + 5 + 3 * k) := by
  intro k hk
  match k, hk with
  | 0, _ => exact ⟨rfl, rfl, rfl, fun m o j h1 h2 => by match j, h1, h2 with | 1, _, _ => rfl | 2, _, _ => rfl⟩
  | 1, _ => exact ⟨rfl, rfl, rfl, fun m o j h1 h2 => by match j, h1, h2 with | 1, _, _ => rfl | 2, _, _ => rfl⟩
  | 2, _ => exact ⟨rfl, rfl, rfl, fun m o j h1 h2 => by match j, h1, h2 with | 1, _, _ => rfl | 2, _, _ => rfl⟩
  | 3, _ => exact ⟨rfl, rfl, rfl, fun m o j h1 h2 => by match j, h1, h2 with | 1, _, _ => rfl | 2, _, _ => rfl⟩
theorem isR_draft : isR 160 := ⟨rfl, rfl, rfl, fun m o j h1 h2 => by match j, h1, h2 with | 1, _, _ => rfl | 2, _, _ => rfl⟩
theorem r_copy (g : GG) (m o X X' : Nat) (hX : isR X) (hX' : isR X') (hd : X + 2 < X' ∨ X' + 2 < X) : ∃ g', f_X7_copyFrom [.ref X', .ref X] (hp g m o) = some (none, hp g' m o) ∧ (∀ t, t < 3 → ∀ i, i < (match t with | 0 => 3 | 1 => 17 | _ => 400) → g' (X' + t) i = g (X + t) i) ∧ ∀ a, a < X' ∨ X' + 2 < a → g' a = g a := by
  obtain ⟨s0, s1, s2, sR⟩ := id hX
  obtain ⟨d0, d1, d2, dR⟩ := id hX'
  have i0 : ∀ (g : GG) (k : KK) (ls st : List Value) (j : Nat), kGetI 7 5 j k ls (.ref X :: st) (hp g m o) = k ls (.int (g X j) :: st) (hp g m o) := fun g k ls st j => gi_at s0 k ls st
  have p0 : ∀ (g : GG) (k : KK) (ls st : List Value) (j : Nat) (x : Int32), kPutI 7 5 j k ls (.int x :: .ref X' :: st) (hp g m o) = k ls st (hp (upd2 g X' j x) m o) := fun g k ls st j x => pi_at d0 k ls st
  have gs1 : ∀ (g : GG) (k : KK) (ls st : List Value), kGetR 7 5 3 k ls (.ref X :: st) (hp g m o) = k ls (.ref (X + 1) :: st) (hp g m o) := fun g k ls st => gr_at s0 (sR m o 1 (by decide) (by decide)) k ls st
  have gd1 : ∀ (g : GG) (k : KK) (ls st : List Value), kGetR 7 5 3 k ls (.ref X' :: st) (hp g m o) = k ls (.ref (X' + 1) :: st) (hp g m o) := fun g k ls st => gr_at d0 (dR m o 1 (by decide) (by decide)) k ls st
  have l1 : ∀ (g : GG) (k : KK) (ls st : List Value), kLen k ls (.ref (X' + 1) :: st) (hp g m o) = k ls (.int (nI 17) :: st) (hp g m o) := fun g k ls st => le_at d1 (by decide) (by decide) k ls st
  have c1 : ∀ (g : GG) (k : KK) (ls : List Value), kCopy 0 k ls [.int (nI 17), .int (nI 0), .ref (X' + 1), .int (nI 0), .ref (X + 1)] (hp g m o) = k ls [] (hp (cpA g (X' + 1) (X + 1) 17) m o) := fun g k ls => copy_at (t := 0) s1 d1 (by decide) (Or.inl rfl) k ls
  have gs2 : ∀ (g : GG) (k : KK) (ls st : List Value), kGetR 7 5 4 k ls (.ref X :: st) (hp g m o) = k ls (.ref (X + 2) :: st) (hp g m o) := fun g k ls st => gr_at s0 (sR m o 2 (by decide) (by decide)) k ls st
  have gd2 : ∀ (g : GG) (k : KK) (ls st : List Value), kGetR 7 5 4 k ls (.ref X' :: st) (hp g m o) = k ls (.ref (X' + 2) :: st) (hp g m o) := fun g k ls st => gr_at d0 (dR m o 2 (by decide) (by decide)) k ls st
  have l2 : ∀ (g : GG) (k : KK) (ls st : List Value), kLen k ls (.ref (X' + 2) :: st) (hp g m o) = k ls (.int (nI 400) :: st) (hp g m o) := fun g k ls st => le_at d2 (by decide) (by decide) k ls st
  have c2 : ∀ (g : GG) (k : KK) (ls : List Value), kCopy 0 k ls [.int (nI 400), .int (nI 0), .ref (X' + 2), .int (nI 0), .ref (X + 2)] (hp g m o) = k ls [] (hp (cpA g (X' + 2) (X + 2) 400) m o) := fun g k ls => copy_at (t := 0) s2 d2 (by decide) (Or.inl rfl) k ls
  have e1 : upd2 g X' 0 (g X 0) X 1 = g X 1 := by simp (disch := omega) only [upd2_ne]
  have e2 : upd2 (upd2 g X' 0 (g X 0)) X' 1 (g X 1) X 2 = g X 2 := by simp (disch := omega) only [upd2_ne]
  refine ⟨cpA (cpA (upd2 (upd2 (upd2 g X' 0 (g X 0)) X' 1 (g X 1)) X' 2 (g X 2)) (X' + 1) (X + 1) 17) (X' + 2) (X + 2) 400, ?_, fun t ht => ?_, fun a ha => ?_⟩
  · simp only [f_X7_copyFrom, kb_X7_copyFrom_0, KL, KB, KC, KI, KJ, KZ, bI_0, bI_n, nI00, nI10, ne_eq, Classical.not_not, not_true_eq_false, not_false_eq_true, if_true, if_false, ite_not, ite_self, Bool.false_eq_true, nIne1, i0, p0, e1, e2, gs1, gs2, gd1, gd2, l1, l2, c1, c2]
  · have ht' : t = 0 ∨ t = 1 ∨ t = 2 := by omega
    rcases ht' with rfl | rfl | rfl
    all_goals intro i hi; (try dsimp only at hi); simp (disch := omega) only [cpA_ne, cpA_in, upd2_ne]
    have hi2 : i < 3 := hi
    have hi' : i = 0 ∨ i = 1 ∨ i = 2 := by omega
    rcases hi' with rfl | rfl | rfl
    · show upd2 (upd2 (upd2 g X' 0 (g X 0)) X' 1 (g X 1)) X' 2 (g X 2) X' 0 = g X 0
      simp (disch := omega) only [upd2_other, upd2_same]
    · show upd2 (upd2 (upd2 g X' 0 (g X 0)) X' 1 (g X 1)) X' 2 (g X 2) X' 1 = g X 1
      simp (disch := omega) only [upd2_other, upd2_same]
    · exact upd2_same _ _ _ _
  · simp (disch := omega) only [cpA_ne, upd2_ne]
