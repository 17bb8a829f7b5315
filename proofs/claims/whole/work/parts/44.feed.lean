-- ===== feed =====
def by8 (x : Int32) (s : Nat) : Nat := x.toBitVec.toNat / 2 ^ s % 256
theorem by8_lt (x : Int32) (s : Nat) : by8 x s < 256 := Nat.mod_lt _ (by decide)
theorem bv_eq {a b : Int32} (h : a.toBitVec = b.toBitVec) : a = b := Int32.toBitVec_inj.mp h
theorem bits255 (i : Nat) : (255#32).getLsbD i = decide (i < 8) := by
  by_cases h : i < 32
  · have : ∀ i : Fin 32, (255#32).getLsbD i.val = decide (i.val < 8) := by decide
    exact this ⟨i, h⟩
  · rw [BitVec.getLsbD_of_ge _ _ (by omega)]
    exact (decide_eq_false (by omega)).symm
theorem and255 (b : BitVec 32) (s : Nat) (c : BitVec 32) (hc : ∀ i, i < 8 → c.getLsbD i = b.getLsbD (i + s)) : (c &&& 255#32) = BitVec.ofNat 32 (b.toNat / 2 ^ s % 256) := by
  apply BitVec.eq_of_getLsbD_eq
  intro i hi
  rw [BitVec.getLsbD_and, bits255, BitVec.getLsbD_ofNat, decide_eq_true hi, Bool.true_and, show (256 : Nat) = 2 ^ 8 from rfl, Nat.testBit_mod_two_pow, Nat.testBit_div_two_pow]
  by_cases h : i < 8
  · rw [decide_eq_true h, Bool.true_and, Bool.and_true, hc i h]
    rfl
  · rw [decide_eq_false h, Bool.false_and, Bool.and_false]
theorem sar8 (x : Int32) (s : Nat) (hs : s = 0 ∨ s = 8 ∨ s = 16 ∨ s = 24) : (x >>> (nI s &&& 31)) &&& nI 255 = nI (by8 x s) := by
  apply bv_eq
  have key : ∀ k, k + 8 ≤ 32 → ∀ i, i < 8 → (x.toBitVec.sshiftRight k).getLsbD i = x.toBitVec.getLsbD (i + k) := by
    intro k hk i hi
    rw [BitVec.getLsbD_sshiftRight, decide_eq_false (by omega : ¬ 32 ≤ i), Bool.not_false, Bool.true_and, if_pos (by omega), Nat.add_comm]
  rcases hs with rfl | rfl | rfl | rfl
  · exact and255 x.toBitVec 0 (x.toBitVec.sshiftRight 0) (key 0 (by omega))
  · exact and255 x.toBitVec 8 (x.toBitVec.sshiftRight 8) (key 8 (by omega))
  · exact and255 x.toBitVec 16 (x.toBitVec.sshiftRight 16) (key 16 (by omega))
  · exact and255 x.toBitVec 24 (x.toBitVec.sshiftRight 24) (key 24 (by omega))
theorem shr8 (x : Int32) (s : Nat) (hs : s = 0 ∨ s = 8 ∨ s = 16 ∨ s = 24) : (x.toUInt32 >>> ((nI s).toUInt32 &&& Int32.toUInt32 31)).toInt32 &&& nI 255 = nI (by8 x s) := by
  apply bv_eq
  have key : ∀ k, k + 8 ≤ 32 → ∀ i, i < 8 → (x.toBitVec >>> k).getLsbD i = x.toBitVec.getLsbD (i + k) := by
    intro k hk i hi
    rw [BitVec.getLsbD_ushiftRight, Nat.add_comm]
  rcases hs with rfl | rfl | rfl | rfl
  · exact and255 x.toBitVec 0 (x.toBitVec >>> 0) (key 0 (by omega))
  · exact and255 x.toBitVec 8 (x.toBitVec >>> 8) (key 8 (by omega))
  · exact and255 x.toBitVec 16 (x.toBitVec >>> 16) (key 16 (by omega))
  · exact and255 x.toBitVec 24 (x.toBitVec >>> 24) (key 24 (by omega))
def shN (i : Nat) : Int32 := match i with
  | 0 => nI 24
  | 1 => nI 16
  | 2 => nI 8
  | 3 => nI 0
  | _ => -8
theorem r_take (g : GG) (m o L : Nat) (x : Int32) (hL : L + 4 ≤ 400) (eL : g 158 1 = nI L) : ∃ g', f_X5_take [.ref 158, .int x] (hp g m o) = some (none, hp g' m o) ∧ (∀ a, a ≠ 158 → a ≠ 159 → g' a = g a) ∧ (∀ i, i ≠ 1 → g' 158 i = g 158 i) ∧ g' 158 1 = nI (L + 4) ∧ (∀ t, (t < L ∨ L + 4 ≤ t) → g' 159 t = g 159 t) ∧ ∀ k, k < 4 → g' 159 (L + k) = nI (by8 x (24 - 8 * k)) := by
  simp only [f_X5_take, kb_X5_take_43, kb_X5_take_0, KL, KB, KC, KI, KJ, KZ, bI_0, bI_n, nI00, nI10, ne_eq, Classical.not_not, not_true_eq_false, not_false_eq_true, if_true, if_false, ite_not, ite_self, Bool.false_eq_true, nIne1]
  unfold kl_X5_take_3
  refine kFix_rule (fun k ls st h => ∃ (i : Nat) (g1 : GG), i + k = 4 ∧ ls = [.ref 158, .int x, .int (shN i)] ∧ st = [] ∧ h = hp g1 m o ∧ (∀ a, a ≠ 158 → a ≠ 159 → g1 a = g a) ∧ (∀ i, i ≠ 1 → g1 158 i = g 158 i) ∧ g1 158 1 = nI (L + i) ∧ (∀ t, (t < L ∨ L + 4 ≤ t) → g1 159 t = g 159 t) ∧ ∀ k, k < i → g1 159 (L + k) = nI (by8 x (24 - 8 * k))) (fun r => ∃ g', r = some (none, hp g' m o) ∧ (∀ a, a ≠ 158 → a ≠ 159 → g' a = g a) ∧ (∀ i, i ≠ 1 → g' 158 i = g 158 i) ∧ g' 158 1 = nI (L + 4) ∧ (∀ t, (t < L ∨ L + 4 ≤ t) → g' 159 t = g 159 t) ∧ ∀ k, k < 4 → g' 159 (L + k) = nI (by8 x (24 - 8 * k))) ?_ FU 4 (by decide) _ _ _ ⟨0, g, rfl, rfl, rfl, rfl, fun _ _ _ => rfl, fun _ _ => rfl, eL, fun _ _ => rfl, fun k h => by omega⟩
  rintro s k ih ls st h ⟨i, g1, hk, rfl, rfl, rfl, h1, h2, h3, h4, h5⟩
  cases k with
  | zero =>
    have h6 : i = 4 := by omega
    subst h6
    have hin : (shN 4 < 0) = True := eq_true (by decide)
    simp (disch := first | assumption | omega) only [KL, KB, KC, KI, KJ, KZ, bI_0, bI_n, nI00, nI10, ne_eq, Classical.not_not, not_true_eq_false, not_false_eq_true, if_true, if_false, ite_not, ite_self, Bool.false_eq_true, nIne1, kMask, mask, hin]
    exact ⟨g1, rfl, h1, h2, h3, h4, h5⟩
  | succ k =>
    have hi : i = 0 ∨ i = 1 ∨ i = 2 ∨ i = 3 := by omega
    have hsh : shN i = nI (24 - 8 * i) := by rcases hi with rfl | rfl | rfl | rfl <;> rfl
    have hnx : nI (24 - 8 * i) + -8 = shN (i + 1) := by rcases hi with rfl | rfl | rfl | rfl <;> rfl
    have hin : (nI (24 - 8 * i) < 0) = False := eq_false (by rcases hi with rfl | rfl | rfl | rfl <;> decide)
    have hfull : (nI 400 ≤ nI (L + i)) = False := by rw [nIle (by omega) (by omega)]; exact eq_false (by omega)
    have hb := shr8 x (24 - 8 * i) (by omega)
    rw [hsh]
    simp (disch := first | assumption | omega) only [KL, KB, KC, KI, KJ, KZ, bI_0, bI_n, nI00, nI10, ne_eq, Classical.not_not, not_true_eq_false, not_false_eq_true, if_true, if_false, ite_not, ite_self, Bool.false_eq_true, nIne1, kMask, mask, O_rd, AR, hin, h3, hfull, hb, nI_add, kb_X5_take_43, hnx, uO]
    refine ih k (by omega) _ _ _ ⟨i + 1, _, by omega, rfl, rfl, rfl, fun a p q => by rw [uN p, uN q]; exact h1 a p q, fun t ht => by rw [uO (Or.inr ht), uN (by omega)]; exact h2 t ht, by rw [uS]; rfl, fun t ht => by rw [uN (by omega), uO (by omega)]; exact h4 t ht, fun t ht => ?_⟩
    rw [uN (by omega)]
    by_cases q : t = i
    · subst q; rw [uS]
    · rw [uO (by omega)]; exact h5 t (by omega)
def arg5 (a b c d e : Int32) (i : Nat) : Int32 := if i < 4 then a else if i < 8 then b else if i < 12 then c else if i < 16 then d else e
theorem m_feed (g : GG) (m o L : Nat) (a b c d e : Int32) (hL : L + 20 ≤ 400) (eL : g 188 10 = nI L) : ∃ g', kl_X11_feed_18 [.ref 188, .int a, .int b, .int c, .int d, .int e, .int (nI 0)] [] (hp g m o) = some (some (.int (nI (L + 20))), hp g' m o) ∧ (∀ x, x ≠ 188 → x ≠ 193 → g' x = g x) ∧ (∀ i, i ≠ 10 → g' 188 i = g 188 i) ∧ g' 188 10 = nI (L + 20) ∧ (∀ t, (t < L ∨ L + 20 ≤ t) → g' 193 t = g 193 t) ∧ ∀ i, i < 20 → g' 193 (L + i) = nI (by8 (arg5 a b c d e i) (24 - 8 * (i % 4))) := by
  unfold kl_X11_feed_18
  refine kFix_rule (fun k ls st h => ∃ (i : Nat) (g1 : GG) (u : List Value), i + k = 20 ∧ ls = [.ref 188, .int a, .int b, .int c, .int d, .int e, .int (nI i)] ++ u ∧ st = [] ∧ h = hp g1 m o ∧ (∀ x, x ≠ 188 → x ≠ 193 → g1 x = g x) ∧ (∀ i, i ≠ 10 → g1 188 i = g 188 i) ∧ g1 188 10 = nI (L + i) ∧ (∀ t, (t < L ∨ L + 20 ≤ t) → g1 193 t = g 193 t) ∧ ∀ k, k < i → g1 193 (L + k) = nI (by8 (arg5 a b c d e k) (24 - 8 * (k % 4)))) (fun r => ∃ g', r = some (some (.int (nI (L + 20))), hp g' m o) ∧ (∀ x, x ≠ 188 → x ≠ 193 → g' x = g x) ∧ (∀ i, i ≠ 10 → g' 188 i = g 188 i) ∧ g' 188 10 = nI (L + 20) ∧ (∀ t, (t < L ∨ L + 20 ≤ t) → g' 193 t = g 193 t) ∧ ∀ i, i < 20 → g' 193 (L + i) = nI (by8 (arg5 a b c d e i) (24 - 8 * (i % 4)))) ?_ FU 20 (by decide) _ _ _ ⟨0, g, [], rfl, rfl, rfl, rfl, fun _ _ _ => rfl, fun _ _ => rfl, eL, fun _ _ => rfl, fun k h => by omega⟩
  rintro s k ih ls st h ⟨i, g1, u, hk, rfl, rfl, rfl, h1, h2, h3, h4, h5⟩
  cases k with
  | zero =>
    have h6 : i = 20 := by omega
    subst h6
    have hin : (nI 20 ≤ nI 20) = True := eq_true (by decide)
    simp (disch := first | assumption | omega) only [KL, KB, KC, KI, KJ, KZ, bI_0, bI_n, nI00, nI10, ne_eq, Classical.not_not, not_true_eq_false, not_false_eq_true, if_true, if_false, ite_not, ite_self, Bool.false_eq_true, nIne1, List.cons_append, List.nil_append, kMask, mask, hin, O_mo, h3]
    exact ⟨g1, rfl, h1, h2, h3, h4, h5⟩
  | succ k =>
    have hin : (20 ≤ i) = False := eq_false (by omega)
    have h40 : (nI 4 = 0) = False := eq_false (by decide)
    have hb := fun x => sar8 x (24 - 8 * (i % 4)) (by omega)
    have hmod : i - i / 4 * 4 = i % 4 := by omega
    have fin : ∀ (w : Int32), w = arg5 a b c d e i → (∃ g1' : GG, g1' = upd2 (upd2 g1 193 (L + i) (nI (by8 w (24 - 8 * (i % 4))))) 188 10 (nI (L + i + 1)) ∧ (∀ x, x ≠ 188 → x ≠ 193 → g1' x = g x) ∧ (∀ i, i ≠ 10 → g1' 188 i = g 188 i) ∧ g1' 188 10 = nI (L + (i + 1)) ∧ (∀ t, (t < L ∨ L + 20 ≤ t) → g1' 193 t = g 193 t) ∧ ∀ k, k < i + 1 → g1' 193 (L + k) = nI (by8 (arg5 a b c d e k) (24 - 8 * (k % 4)))) := by
      intro w hw
      refine ⟨_, rfl, fun x p q => by rw [uN p, uN q]; exact h1 x p q, fun t ht => by rw [uO (Or.inr ht), uN (by omega)]; exact h2 t ht, by rw [uS]; rfl, fun t ht => by rw [uN (by omega), uO (by omega)]; exact h4 t ht, fun t ht => ?_⟩
      rw [uN (by omega)]
      by_cases q : t = i
      · subst q; rw [uS, hw]
      · rw [uO (by omega)]; exact h5 t (by omega)
    by_cases q4 : i < 4
    · have z4 : (4 ≤ i) = False := eq_false (by omega)
      obtain ⟨g1', eg, w⟩ := fin a (by unfold arg5; rw [if_pos q4])
      simp (disch := first | assumption | omega) only [KL, KB, KC, KI, KJ, KZ, bI_0, bI_n, nI00, nI10, ne_eq, Classical.not_not, not_true_eq_false, not_false_eq_true, if_true, if_false, ite_not, ite_self, Bool.false_eq_true, nIne1, List.cons_append, List.nil_append, kMask, mask, O_mo, AR, nIle, hin, z4, h40, nI_div, nI_rem2, nI_mul, nI_sub, hmod, hb, h3, nI_add, kb_X11_feed_71, uO]
      subst eg
      exact ih k (by omega) _ _ _ ⟨i + 1, _, _, by omega, rfl, rfl, rfl, w⟩
    · have z4 : (4 ≤ i) = True := eq_true (by omega)
      by_cases q8 : i < 8
      · have z8 : (8 ≤ i) = False := eq_false (by omega)
        obtain ⟨g1', eg, w⟩ := fin b (by unfold arg5; rw [if_neg q4, if_pos q8])
        simp (disch := first | assumption | omega) only [KL, KB, KC, KI, KJ, KZ, bI_0, bI_n, nI00, nI10, ne_eq, Classical.not_not, not_true_eq_false, not_false_eq_true, if_true, if_false, ite_not, ite_self, Bool.false_eq_true, nIne1, List.cons_append, List.nil_append, kMask, mask, O_mo, AR, nIle, hin, z4, z8, h40, nI_div, nI_rem2, nI_mul, nI_sub, hmod, hb, h3, nI_add, kb_X11_feed_71, uO]
        subst eg
        exact ih k (by omega) _ _ _ ⟨i + 1, _, _, by omega, rfl, rfl, rfl, w⟩
      · have z8 : (8 ≤ i) = True := eq_true (by omega)
        by_cases q12 : i < 12
        · have z12 : (12 ≤ i) = False := eq_false (by omega)
          obtain ⟨g1', eg, w⟩ := fin c (by unfold arg5; rw [if_neg q4, if_neg q8, if_pos q12])
          simp (disch := first | assumption | omega) only [KL, KB, KC, KI, KJ, KZ, bI_0, bI_n, nI00, nI10, ne_eq, Classical.not_not, not_true_eq_false, not_false_eq_true, if_true, if_false, ite_not, ite_self, Bool.false_eq_true, nIne1, List.cons_append, List.nil_append, kMask, mask, O_mo, AR, nIle, hin, z4, z8, z12, h40, nI_div, nI_rem2, nI_mul, nI_sub, hmod, hb, h3, nI_add, kb_X11_feed_71, uO]
          subst eg
          exact ih k (by omega) _ _ _ ⟨i + 1, _, _, by omega, rfl, rfl, rfl, w⟩
        · have z12 : (12 ≤ i) = True := eq_true (by omega)
          by_cases q16 : i < 16
          · have z16 : (16 ≤ i) = False := eq_false (by omega)
            obtain ⟨g1', eg, w⟩ := fin d (by unfold arg5; rw [if_neg q4, if_neg q8, if_neg q12, if_pos q16])
            simp (disch := first | assumption | omega) only [KL, KB, KC, KI, KJ, KZ, bI_0, bI_n, nI00, nI10, ne_eq, Classical.not_not, not_true_eq_false, not_false_eq_true, if_true, if_false, ite_not, ite_self, Bool.false_eq_true, nIne1, List.cons_append, List.nil_append, kMask, mask, O_mo, AR, nIle, hin, z4, z8, z12, z16, h40, nI_div, nI_rem2, nI_mul, nI_sub, hmod, hb, h3, nI_add, kb_X11_feed_71, uO]
            subst eg
            exact ih k (by omega) _ _ _ ⟨i + 1, _, _, by omega, rfl, rfl, rfl, w⟩
          · have z16 : (16 ≤ i) = True := eq_true (by omega)
            obtain ⟨g1', eg, w⟩ := fin e (by unfold arg5; rw [if_neg q4, if_neg q8, if_neg q12, if_neg q16])
            simp (disch := first | assumption | omega) only [KL, KB, KC, KI, KJ, KZ, bI_0, bI_n, nI00, nI10, ne_eq, Classical.not_not, not_true_eq_false, not_false_eq_true, if_true, if_false, ite_not, ite_self, Bool.false_eq_true, nIne1, List.cons_append, List.nil_append, kMask, mask, O_mo, AR, nIle, hin, z4, z8, z12, z16, h40, nI_div, nI_rem2, nI_mul, nI_sub, hmod, hb, h3, nI_add, kb_X11_feed_71, uO]
            subst eg
            exact ih k (by omega) _ _ _ ⟨i + 1, _, _, by omega, rfl, rfl, rfl, w⟩
theorem by8_arg (a b c d e : Int32) : ∀ (q k : Nat), q < 5 → k < 4 → arg5 a b c d e (4 * q + k) = (if q = 0 then a else if q = 1 then b else if q = 2 then c else if q = 3 then d else e) := by
  intro q k hq hk
  unfold arg5
  have hq' : q = 0 ∨ q = 1 ∨ q = 2 ∨ q = 3 ∨ q = 4 := by omega
  rcases hq' with rfl | rfl | rfl | rfl | rfl
  · rw [if_pos (by omega), if_pos rfl]
  · rw [if_neg (by omega), if_pos (by omega), if_neg (by omega), if_pos rfl]
  · rw [if_neg (by omega), if_neg (by omega), if_pos (by omega), if_neg (by omega), if_neg (by omega), if_pos rfl]
  · rw [if_neg (by omega), if_neg (by omega), if_neg (by omega), if_pos (by omega), if_neg (by omega), if_neg (by omega), if_neg (by omega), if_pos rfl]
  · rw [if_neg (by omega), if_neg (by omega), if_neg (by omega), if_neg (by omega), if_neg (by omega), if_neg (by omega), if_neg (by omega), if_neg (by omega)]
theorem ag_feed (a0 a1 a2 a3 a4 : Int32) : Ag RT f_X10_feed f_X11_feed [.int a0, .int a1, .int a2, .int a3, .int a4] := by
  intro j g m o hj hR
  obtain ⟨hW, hT, hf1, hf2, hI, hO, s1, s2, s3⟩ := id hR
  obtain ⟨L, hL, l1, l2, l3, l4, l5⟩ := id hT
  by_cases hf : L + 20 ≤ 400
  · have hle : (nI (L + 20) ≤ nI 400) = True := by rw [nIle (by omega) (by omega)]; exact eq_true hf
    obtain ⟨b0, e0, x0, y0, z0, u0, v0⟩ := r_take g m o L a0 (by omega) l1
    obtain ⟨b1, e1, x1, y1, z1, u1, v1⟩ := r_take b0 m o (L + 4) a1 (by omega) z0
    obtain ⟨b2, e2, x2, y2, z2, u2, v2⟩ := r_take b1 m o (L + 4 + 4) a2 (by omega) z1
    obtain ⟨b3, e3, x3, y3, z3, u3, v3⟩ := r_take b2 m o (L + 4 + 4 + 4) a3 (by omega) z2
    obtain ⟨b4, e4, x4, y4, z4, u4, v4⟩ := r_take b3 m o (L + 4 + 4 + 4 + 4) a4 (by omega) z3
    have kO : ∀ a, a ≠ 158 → a ≠ 159 → b4 a = g a := fun a p q => by rw [x4 a p q, x3 a p q, x2 a p q, x1 a p q, x0 a p q]
    have k6 : ∀ i, i ≠ 1 → b4 158 i = g 158 i := fun i p => by rw [y4 i p, y3 i p, y2 i p, y1 i p, y0 i p]
    have k7 : ∀ t, t < L → b4 159 t = g 159 t := fun t p => by rw [u4 t (by omega), u3 t (by omega), u2 t (by omega), u1 t (by omega), u0 t (by omega)]
    have k8 : ∀ i, i < 20 → b4 159 (L + i) = nI (by8 (arg5 a0 a1 a2 a3 a4 i) (24 - 8 * (i % 4))) := by
      intro i hi
      obtain ⟨q, k, hq, hk, rfl⟩ : ∃ q k, q < 5 ∧ k < 4 ∧ i = 4 * q + k := ⟨i / 4, i % 4, by omega, by omega, by omega⟩
      rw [by8_arg _ _ _ _ _ q k hq hk, show (4 * q + k) % 4 = k by omega]
      have hq' : q = 0 ∨ q = 1 ∨ q = 2 ∨ q = 3 ∨ q = 4 := by omega
      rcases hq' with rfl | rfl | rfl | rfl | rfl
      · rw [u4 _ (by omega), u3 _ (by omega), u2 _ (by omega), u1 _ (by omega), show L + (4 * 0 + k) = L + k by omega]; exact v0 k hk
      · rw [u4 _ (by omega), u3 _ (by omega), u2 _ (by omega), show L + (4 * 1 + k) = L + 4 + k by omega]; exact v1 k hk
      · rw [u4 _ (by omega), u3 _ (by omega), show L + (4 * 2 + k) = L + 4 + 4 + k by omega]; exact v2 k hk
      · rw [u4 _ (by omega), show L + (4 * 3 + k) = L + 4 + 4 + 4 + k by omega]; exact v3 k hk
      · rw [show L + (4 * 4 + k) = L + 4 + 4 + 4 + 4 + k by omega]; exact v4 k hk
    have c10 : b4 188 10 = nI L := by rw [kO 188 (by omega) (by omega)]; exact l2
    obtain ⟨g2, e5, p1, p2, p3, p4, p5⟩ := m_feed b4 m o L a0 a1 a2 a3 a4 hf c10
    refine ⟨nI (L + 20), b4, m, o, g2, ?_, ?_, ?_, ⟨L + 20, hf, ?_, p3, fun i hi => ?_, by rw [p1 158 (by omega) (by omega), k6 8 (by omega)]; exact l4, by rw [p1 158 (by omega) (by omega), k6 9 (by omega)]; exact l5⟩, ?_, ?_, ?_, hO.congr (fun a _ _ => by rw [p1 a (by omega) (by omega), kO a (by omega) (by omega)]), by rw [p2 _ (by omega), kO 188 (by omega) (by omega)]; exact s1, by rw [p2 _ (by omega), kO 188 (by omega) (by omega)]; exact s2, by rw [p2 _ (by omega), kO 188 (by omega) (by omega)]; exact s3⟩
    · simp (disch := first | assumption | omega) only [f_X10_feed, kb_X10_feed_0, KL, KB, KC, KI, KJ, KZ, bI_0, bI_n, nI00, nI10, ne_eq, Classical.not_not, not_true_eq_false, not_false_eq_true, if_true, if_false, ite_not, ite_self, Bool.false_eq_true, nIne1, O_fp, O_rd, l1, nI_add, hle, e0, e1, e2, e3, e4, z4]
    · simp (disch := first | assumption | omega) only [f_X11_feed, kb_X11_feed_71, kb_X11_feed_0, KL, KB, KC, KI, KJ, KZ, bI_0, bI_n, nI00, nI10, ne_eq, Classical.not_not, not_true_eq_false, not_false_eq_true, if_true, if_false, ite_not, ite_self, Bool.false_eq_true, nIne1, O_mo, c10, nI_add, hle, e5]
    · exact hW.congr (by omega) (fun a _ _ => by rw [p1 a (by omega) (by omega), kO a (by omega) (by omega)]) (fun i _ => by rw [p1 189 (by omega) (by omega), kO 189 (by omega) (by omega)])
    · rw [p1 158 (by omega) (by omega), z4]
    · by_cases hi2 : i < L
      · obtain ⟨v, w1, w2, w3⟩ := l3 i hi2
        exact ⟨v, w1, by rw [p1 159 (by omega) (by omega), k7 i hi2]; exact w2, by rw [p4 i (by omega), kO 193 (by omega) (by omega)]; exact w3⟩
      · obtain ⟨t, rfl⟩ : ∃ t, i = L + t := ⟨i - L, by omega⟩
        exact ⟨_, by8_lt _ _, by rw [p1 159 (by omega) (by omega)]; exact k8 t (by omega), p5 t (by omega)⟩
    · rw [p1 158 (by omega) (by omega), k6 2 (by omega), p2 17 (by omega), kO 188 (by omega) (by omega)]; exact hf1
    · rw [p1 158 (by omega) (by omega), k6 3 (by omega), p2 19 (by omega), kO 188 (by omega) (by omega)]; exact hf2
    · exact hI.congr (by omega) (by rw [p1 0 (by omega) (by omega), kO 0 (by omega) (by omega)]) (by rw [p2 2 (by omega), kO 188 (by omega) (by omega)]) (fun a _ _ => by rw [p1 a (by omega) (by omega), kO a (by omega) (by omega)]) (by rw [p1 190 (by omega) (by omega), kO 190 (by omega) (by omega)])
  · have hle : (nI (L + 20) ≤ nI 400) = False := by rw [nIle (by omega) (by omega)]; exact eq_false hf
    refine ⟨-1, g, m, o, g, ?_, ?_, RT_mono _ _ _ _ hR⟩
    · simp (disch := first | assumption | omega) only [f_X10_feed, kb_X10_feed_0, KL, KB, KC, KI, KJ, KZ, bI_0, bI_n, nI00, nI10, ne_eq, Classical.not_not, not_true_eq_false, not_false_eq_true, if_true, if_false, ite_not, ite_self, Bool.false_eq_true, nIne1, O_fp, O_rd, l1, nI_add, hle]
    · simp (disch := first | assumption | omega) only [f_X11_feed, kb_X11_feed_71, kb_X11_feed_0, KL, KB, KC, KI, KJ, KZ, bI_0, bI_n, nI00, nI10, ne_eq, Classical.not_not, not_true_eq_false, not_false_eq_true, if_true, if_false, ite_not, ite_self, Bool.false_eq_true, nIne1, O_mo, l2, nI_add, hle]
