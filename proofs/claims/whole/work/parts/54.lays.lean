-- ===== the model's laysOut =====
def layF (a : Nat) : Nat := match a - 196 with
  | 0 => 0
  | 1 => 1
  | 2 => 2
  | 3 => 3
  | 4 => 19
  | 5 => 20
  | 6 => 21
  | 7 => 22
  | 8 => 23
  | 9 => 24
  | _ => 5
/-- laid out are the roads below i of the crossing at B -/
def LO (g0 g : GG) (B i : Nat) : Prop := (∀ a, 196 ≤ a → a ≤ 206 → ∀ r, r < i → g a r = g0 189 (B + 92 * r + layF a)) ∧ ∀ r, r < i → g 207 r = if g0 189 (B + 92 * r + 18) = nI 1 then nI 1 else nI 0
theorem m_laysOut (g : GG) (m o c n : Nat) (hc : c < 6) (em : g 189 (10 + 560 * c + 552) = nI n) (n6 : n ≤ 6) : ∃ g', f_X11_laysOut [.ref 188, .int (nI c)] (hp g m o) = some (none, hp g' m o) ∧ (∀ a, a ≠ 188 → (a < 196 ∨ 207 < a) → g' a = g a) ∧ (∀ i, i ≠ 20 → g' 188 i = g 188 i) ∧ g' 188 20 = nI n ∧ LO g g' (10 + 560 * c) n := by
  have e1 := m_own g m o c 552 (by omega)
  rw [em] at e1
  simp (disch := first | assumption | omega) only [f_X11_laysOut, kb_X11_laysOut_0, KL, KB, KC, KI, KJ, KZ, bI_0, bI_n, nI00, nI10, ne_eq, Classical.not_not, not_true_eq_false, not_false_eq_true, if_true, if_false, ite_not, ite_self, Bool.false_eq_true, nIne1, O_mo, e1]
  unfold kl_X11_laysOut_14
  refine kFix_rule (fun k ls st h => ∃ (i : Nat) (g1 : GG), i + k = n ∧ ls = [.ref 188, .int (nI c), .int (nI i)] ∧ st = [] ∧ h = hp g1 m o ∧ (∀ a, a ≠ 188 → (a < 196 ∨ 207 < a) → g1 a = g a) ∧ (∀ i, i ≠ 20 → g1 188 i = g 188 i) ∧ g1 188 20 = nI n ∧ LO g g1 (10 + 560 * c) i) (fun r => ∃ g', r = some (none, hp g' m o) ∧ (∀ a, a ≠ 188 → (a < 196 ∨ 207 < a) → g' a = g a) ∧ (∀ i, i ≠ 20 → g' 188 i = g 188 i) ∧ g' 188 20 = nI n ∧ LO g g' (10 + 560 * c) n) ?_ FU n (by show n < 10000; omega) _ _ _ ⟨0, _, by omega, rfl, rfl, rfl, fun a ha _ => uN ha, fun i hi => uO (Or.inr hi), uS, fun a _ _ r hr => by omega, fun r hr => by omega⟩
  rintro s k ih ls st h ⟨i, g1, hk, rfl, rfl, rfl, h1, h2, h3, h4, h5⟩
  cases k with
  | zero =>
    have hin : (n ≤ i) = True := eq_true (by omega)
    have hi : i = n := by omega
    subst hi
    simp (disch := first | assumption | omega) only [KL, KB, KC, KI, KJ, KZ, bI_0, bI_n, nI00, nI10, ne_eq, Classical.not_not, not_true_eq_false, not_false_eq_true, if_true, if_false, ite_not, ite_self, Bool.false_eq_true, nIne1, kMask, mask, O_mo, h3, nIle, hin]
    exact ⟨g1, rfl, h1, h2, h3, h4, h5⟩
  | succ k =>
    have hin : (n ≤ i) = False := eq_false (by omega)
    have e8 : g1 189 = g 189 := h1 189 (by omega) (by omega)
    have fin : ∀ v : Int32, v = (if g 189 (10 + 560 * c + 92 * i + 18) = nI 1 then nI 1 else nI 0) → ∃ g2 : GG, kb_X11_laysOut_96 s [.ref 188, .int (nI c), .int (nI i)] [.int v, .int (nI i), .ref 207] (hp (upd2 (upd2 (upd2 (upd2 g1 196 i (g 189 (10 + 560 * c + 92 * i + 0))) 197 i (g 189 (10 + 560 * c + 92 * i + 1))) 198 i (g 189 (10 + 560 * c + 92 * i + 2))) 199 i (g 189 (10 + 560 * c + 92 * i + 3))) m o) = s [.ref 188, .int (nI c), .int (nI (i + 1))] [] (hp g2 m o) ∧ (∀ a, a ≠ 188 → (a < 196 ∨ 207 < a) → g2 a = g a) ∧ (∀ i, i ≠ 20 → g2 188 i = g 188 i) ∧ g2 188 20 = nI n ∧ LO g g2 (10 + 560 * c) (i + 1) := by
      intro v hv
      have hv2 : v = nI 0 ∨ v = nI 1 := by rw [hv]; exact b01
      refine ⟨upd2 (upd2 (upd2 (upd2 (upd2 (upd2 (upd2 (upd2 (upd2 (upd2 (upd2 (upd2 g1 196 i (g 189 (10 + 560 * c + 92 * i + 0))) 197 i (g 189 (10 + 560 * c + 92 * i + 1))) 198 i (g 189 (10 + 560 * c + 92 * i + 2))) 199 i (g 189 (10 + 560 * c + 92 * i + 3))) 207 i v) 200 i (g 189 (10 + 560 * c + 92 * i + 19))) 201 i (g 189 (10 + 560 * c + 92 * i + 20))) 202 i (g 189 (10 + 560 * c + 92 * i + 21))) 203 i (g 189 (10 + 560 * c + 92 * i + 22))) 204 i (g 189 (10 + 560 * c + 92 * i + 23))) 205 i (g 189 (10 + 560 * c + 92 * i + 24))) 206 i (g 189 (10 + 560 * c + 92 * i + 5)), ?_, fun a ha hb => ?_, fun t ht => ?_, ?_, fun a ha hb r hr => ?_, fun r hr => ?_⟩
      · have hz : ∀ (gg : GG) (k : KK) (ls st : List Value), kZas k ls (.int v :: .int (nI i) :: .ref 207 :: st) (hp gg m o) = k ls st (hp (upd2 gg 207 i v) m o) := fun gg k ls st => zas_at (n := 6) rfl (by decide) (by omega) hv2 k ls st
        simp (disch := first | assumption | omega) only [kb_X11_laysOut_96, KL, KB, KC, KI, KJ, KZ, bI_0, bI_n, nI00, nI10, ne_eq, Classical.not_not, not_true_eq_false, not_false_eq_true, if_true, if_false, ite_not, ite_self, Bool.false_eq_true, nIne1, O_mo, AR, hz, m_get, upd2_ne, e8, nI_add]
      · rw [uN (by omega), uN (by omega), uN (by omega), uN (by omega), uN (by omega), uN (by omega), uN (by omega), uN (by omega), uN (by omega), uN (by omega), uN (by omega), uN (by omega)]
        exact h1 a ha hb
      · rw [uN (by omega), uN (by omega), uN (by omega), uN (by omega), uN (by omega), uN (by omega), uN (by omega), uN (by omega), uN (by omega), uN (by omega), uN (by omega), uN (by omega)]
        exact h2 t ht
      · rw [uN (by omega), uN (by omega), uN (by omega), uN (by omega), uN (by omega), uN (by omega), uN (by omega), uN (by omega), uN (by omega), uN (by omega), uN (by omega), uN (by omega)]
        exact h3
      · by_cases q : r = i
        · subst q
          have ha' : a = 196 ∨ a = 197 ∨ a = 198 ∨ a = 199 ∨ a = 200 ∨ a = 201 ∨ a = 202 ∨ a = 203 ∨ a = 204 ∨ a = 205 ∨ a = 206 := by omega
          rcases ha' with rfl | rfl | rfl | rfl | rfl | rfl | rfl | rfl | rfl | rfl | rfl
          all_goals simp (disch := omega) only [upd2_other, upd2_same]
          all_goals rfl
        · simp (disch := omega) only [upd2_other]
          exact h4 a ha hb r (by omega)
      · by_cases q : r = i
        · subst q
          simp (disch := omega) only [upd2_other, upd2_same]
          exact hv
        · simp (disch := omega) only [upd2_other]
          exact h5 r (by omega)
    by_cases hq : g 189 (10 + 560 * c + 92 * i + 18) = nI 1
    · obtain ⟨g2, f1, f2, f3, f4, f5⟩ := fin (nI 1) (by rw [if_pos hq])
      simp (disch := first | assumption | omega) only [kb_X11_laysOut_22, KL, KB, KC, KI, KJ, KZ, bI_0, bI_n, nI00, nI10, ne_eq, Classical.not_not, not_true_eq_false, not_false_eq_true, if_true, if_false, ite_not, ite_self, Bool.false_eq_true, nIne1, kMask, mask, O_mo, AR, m_get, upd2_ne, e8, h3, nIle, hin, hq, f1]
      exact ih k (by omega) _ _ _ ⟨i + 1, g2, by omega, rfl, rfl, rfl, f2, f3, f4, f5⟩
    · obtain ⟨g2, f1, f2, f3, f4, f5⟩ := fin (nI 0) (by rw [if_neg hq])
      simp (disch := first | assumption | omega) only [kb_X11_laysOut_22, KL, KB, KC, KI, KJ, KZ, bI_0, bI_n, nI00, nI10, ne_eq, Classical.not_not, not_true_eq_false, not_false_eq_true, if_true, if_false, ite_not, ite_self, Bool.false_eq_true, nIne1, kMask, mask, O_mo, AR, m_get, upd2_ne, e8, h3, nIle, hin, hq, f1]
      exact ih k (by omega) _ _ _ ⟨i + 1, g2, by omega, rfl, rfl, rfl, f2, f3, f4, f5⟩
