-- ===== image =====
theorem uN {g : GG} {a i b : Nat} {v : Int32} (h : b ≠ a) : upd2 g a i v b = g b := by simp (disch := assumption) only [upd2_ne]
theorem uO {g : GG} {a i b j : Nat} {v : Int32} (h : b ≠ a ∨ j ≠ i) : upd2 g a i v b j = g b j := upd2_other g v h
theorem uS {g : GG} {a i : Nat} {v : Int32} : upd2 g a i v a i = v := upd2_same g a i v
theorem aalXk {g : GG} {m o c : Nat} (hc : c < 6) (k : KK) (ls st : List Value) : kAal 3 k ls (.int (nI c) :: .ref 85 :: st) (hp g m o) = k ls (.ref (98 + 10 * c) :: st) (hp g m o) := by
  have h1 : hSh (hp g m o) 85 = (4, 6) := rfl
  unfold kAal
  simp only [h1]
  rw [if_pos ⟨trivial, inb_nI hc (by decide)⟩, nI_clamp (by omega)]
  have h2 : hR (hp g m o) 85 c = some (98 + 10 * c) := by
    match c, hc with
    | 0, _ => rfl
    | 1, _ => rfl
    | 2, _ => rfl
    | 3, _ => rfl
    | 4, _ => rfl
    | 5, _ => rfl
  rw [h2]
  rfl
theorem aalRk {g : GG} {m o c : Nat} (hc : c < 4) (k : KK) (ls st : List Value) : kAal 2 k ls (.int (nI c) :: .ref 84 :: st) (hp g m o) = k ls (.ref (86 + 3 * c) :: st) (hp g m o) := by
  have h1 : hSh (hp g m o) 84 = (3, 4) := rfl
  unfold kAal
  simp only [h1]
  rw [if_pos ⟨trivial, inb_nI hc (by decide)⟩, nI_clamp (by omega)]
  have h2 : hR (hp g m o) 84 c = some (86 + 3 * c) := by
    match c, hc with
    | 0, _ => rfl
    | 1, _ => rfl
    | 2, _ => rfl
    | 3, _ => rfl
  rw [h2]
  rfl
def CP (g0 g : GG) (s d n : Nat) : Prop := (∀ a, (a < d + 1 ∨ d + 76 < a) → g a = g0 a) ∧ ∀ a, a < n → a ≤ 76 → ∀ i, i < wsz a → g (d + a) i = g0 (s + a) i
theorem CP.x {g0 g g2 : GG} {s d i : Nat} (h : CP g0 g s d (17 + 10 * i)) (hi : i < 6) (hsd : (s = 0 ∧ d = 81) ∨ (s = 81 ∧ d = 0)) (p1 : ∀ t, t < 10 → ∀ i', i' < (match t with | 0 => 1 | 1 => 30 | 2 => 36 | 3 => 12 | 4 => 6 | 5 => 120 | 6 => 6 | 7 => 18 | 8 => 3 | _ => 18) → g2 (d + 17 + 10 * i + t) i' = g (s + 17 + 10 * i + t) i') (p2 : ∀ a, a < d + 17 + 10 * i ∨ d + 17 + 10 * i + 9 < a → g2 a = g a) : CP g0 g2 s d (17 + 10 * (i + 1)) := by
  refine ⟨fun a ha => by rw [p2 a (by omega)]; exact h.1 a ha, fun a ha h80 i' hi' => ?_⟩
  by_cases hq : a < 17 + 10 * i
  · rw [p2 _ (by omega)]; exact h.2 a hq h80 i' hi'
  · obtain ⟨t, rfl⟩ : ∃ t, a = 17 + 10 * i + t := ⟨a - (17 + 10 * i), by omega⟩
    rw [wsz_x i hi t (by omega)] at hi'
    have e := p1 t (by omega) i' hi'
    rw [show d + (17 + 10 * i + t) = d + 17 + 10 * i + t by omega, show s + (17 + 10 * i + t) = s + 17 + 10 * i + t by omega, e, h.1 _ (by omega)]
theorem CP.r {g0 g g2 : GG} {s d i : Nat} (h : CP g0 g s d (5 + 3 * i)) (hi : i < 4) (hsd : (s = 0 ∧ d = 81) ∨ (s = 81 ∧ d = 0)) (p1 : ∀ t, t < 3 → ∀ i', i' < (match t with | 0 => 3 | 1 => 17 | _ => 400) → g2 (d + 5 + 3 * i + t) i' = g (s + 5 + 3 * i + t) i') (p2 : ∀ a, a < d + 5 + 3 * i ∨ d + 5 + 3 * i + 2 < a → g2 a = g a) : CP g0 g2 s d (5 + 3 * (i + 1)) := by
  refine ⟨fun a ha => by rw [p2 a (by omega)]; exact h.1 a ha, fun a ha h80 i' hi' => ?_⟩
  by_cases hq : a < 5 + 3 * i
  · rw [p2 _ (by omega)]; exact h.2 a hq h80 i' hi'
  · obtain ⟨t, rfl⟩ : ∃ t, a = 5 + 3 * i + t := ⟨a - (5 + 3 * i), by omega⟩
    rw [wsz_r0 i hi t (by omega)] at hi'
    have e := p1 t (by omega) i' hi'
    rw [show d + (5 + 3 * i + t) = d + 5 + 3 * i + t by omega, show s + (5 + 3 * i + t) = s + 5 + 3 * i + t by omega, e, h.1 _ (by omega)]
theorem wc52K (g0 g : GG) (m o : Nat) (hg : CP g0 g 0 81 17) : ∃ g', kl_X9_copyFrom_52 [.ref 82, .ref 1, .int (nI 0)] [] (hp g m o) = some (none, hp g' m o) ∧ CP g0 g' 0 81 77 := by
  unfold kl_X9_copyFrom_52
  refine kFix_rule (fun k ls st h => ∃ (i : Nat) (g1 : GG), i + k = 6 ∧ ls = [.ref 82, .ref 1, .int (nI i)] ∧ st = [] ∧ h = hp g1 m o ∧ CP g0 g1 0 81 (17 + 10 * i)) (fun r => ∃ g', r = some (none, hp g' m o) ∧ CP g0 g' 0 81 77) ?_ FU 6 (by decide) _ _ _ ⟨0, g, rfl, rfl, rfl, rfl, hg⟩
  rintro s k ih ls st h ⟨i, g1, hk, rfl, rfl, rfl, hc⟩
  cases k with
  | zero =>
    have hin : (6 ≤ i) = True := eq_true (by omega)
    simp (disch := first | assumption | omega) only [KL, KB, KC, KI, KJ, KZ, bI_0, bI_n, nI00, nI10, ne_eq, Classical.not_not, not_true_eq_false, not_false_eq_true, if_true, if_false, ite_not, ite_self, Bool.false_eq_true, nIne1, kMask, mask, nIle, hin]
    exact ⟨g1, rfl, by rw [show 17 + 10 * i = 77 by omega] at hc; exact hc⟩
  | succ k =>
    have hin : (6 ≤ i) = False := eq_false (by omega)
    have hi : i < 6 := by omega
    have hX : isX (17 + 10 * i) := isX_live i hi
    have hY : isX (98 + 10 * i) := isX_kept i hi
    obtain ⟨g2, e, p1, p2⟩ := x_copy g1 m o _ _ hX hY (by omega)
    simp (disch := first | assumption | omega) only [KL, KB, KC, KI, KJ, KZ, bI_0, bI_n, nI00, nI10, ne_eq, Classical.not_not, not_true_eq_false, not_false_eq_true, if_true, if_false, ite_not, ite_self, Bool.false_eq_true, nIne1, kMask, mask, O_w, O_kp, AR, nIle, hin, nI_add, aalX, aalXk, XO, e]
    exact ih k (by omega) _ _ _ ⟨i + 1, g2, by omega, rfl, rfl, rfl, CP.x hc hi (Or.inl ⟨rfl, rfl⟩) p1 p2⟩
theorem wc24K (g0 g : GG) (m o : Nat) (hg : CP g0 g 0 81 5) : ∃ g', kl_X9_copyFrom_24 [.ref 82, .ref 1, .int (nI 0)] [] (hp g m o) = some (none, hp g' m o) ∧ CP g0 g' 0 81 77 := by
  unfold kl_X9_copyFrom_24
  refine kFix_rule (fun k ls st h => ∃ (i : Nat) (g1 : GG), i + k = 4 ∧ ls = [.ref 82, .ref 1, .int (nI i)] ∧ st = [] ∧ h = hp g1 m o ∧ CP g0 g1 0 81 (5 + 3 * i)) (fun r => ∃ g', r = some (none, hp g' m o) ∧ CP g0 g' 0 81 77) ?_ FU 4 (by decide) _ _ _ ⟨0, g, rfl, rfl, rfl, rfl, hg⟩
  rintro s k ih ls st h ⟨i, g1, hk, rfl, rfl, rfl, hc⟩
  cases k with
  | zero =>
    have hin : (4 ≤ i) = True := eq_true (by omega)
    simp (disch := first | assumption | omega) only [KL, KB, KC, KI, KJ, KZ, bI_0, bI_n, nI00, nI10, ne_eq, Classical.not_not, not_true_eq_false, not_false_eq_true, if_true, if_false, ite_not, ite_self, Bool.false_eq_true, nIne1, kMask, mask, nIle, hin]
    exact wc52K g0 g1 m o (by rw [show 5 + 3 * i = 17 by omega] at hc; exact hc)
  | succ k =>
    have hin : (4 ≤ i) = False := eq_false (by omega)
    have hi : i < 4 := by omega
    have hX : isR (5 + 3 * i) := isR_live i hi
    have hY : isR (86 + 3 * i) := isR_kept i hi
    obtain ⟨g2, e, p1, p2⟩ := r_copy g1 m o _ _ hX hY (by omega)
    have hrc : ∀ (k : KK) (ls st : List Value) (v0 : Value), kRecv 7 5 1 k ls (v0 :: .ref (86 + 3 * i) :: st) (hp g1 m o) = k ls (v0 :: .ref (86 + 3 * i) :: st) (hp g1 m o) := fun k ls st v0 => rc_at hY.1 rfl
    simp (disch := first | assumption | omega) only [KL, KB, KC, KI, KJ, KZ, bI_0, bI_n, nI00, nI10, ne_eq, Classical.not_not, not_true_eq_false, not_false_eq_true, if_true, if_false, ite_not, ite_self, Bool.false_eq_true, nIne1, kMask, mask, O_w, O_kp, AR, nIle, hin, nI_add, aalR, aalRk, hrc, e]
    exact ih k (by omega) _ _ _ ⟨i + 1, g2, by omega, rfl, rfl, rfl, CP.r hc hi (Or.inl ⟨rfl, rfl⟩) p1 p2⟩
theorem w_copyK (g : GG) (m o : Nat) : ∃ g', f_X9_copyFrom [.ref 82, .ref 1] (hp g m o) = some (none, hp g' m o) ∧ CP g g' 0 81 77 := by
  have hcp : ∀ (g : GG) (k : KK) (ls : List Value), kCopy 0 k ls [.int (nI 2), .int (nI 0), .ref 83, .int (nI 0), .ref 2] (hp g m o) = k ls [] (hp (cpA g 83 2 2) m o) := fun g k ls => copy_at (t := 0) rfl rfl (by decide) (Or.inl rfl) k ls
  have hc : CP g (cpA (upd2 g 82 0 (g 1 0)) 83 2 2) 0 81 5 := by
    refine ⟨fun a ha => ?_, fun a ha h80 i hi => ?_⟩
    · simp (disch := omega) only [cpA_ne, upd2_ne]
    · have ha' : a = 0 ∨ a = 1 ∨ a = 2 ∨ a = 3 ∨ a = 4 := by omega
      rcases ha' with rfl | rfl | rfl | rfl | rfl
      · exact absurd hi (by have : wsz 0 = 0 := rfl; omega)
      · have : i = 0 := by have : wsz 1 = 1 := rfl; omega
        subst this
        rw [cpA_ne (by omega)]; exact uS
      · have : i < 2 := hi
        show cpA _ 83 2 2 83 i = _
        rw [cpA_in this, uO (by omega)]
      · exact absurd hi (by have : wsz 3 = 0 := rfl; omega)
      · exact absurd hi (by have : wsz 4 = 0 := rfl; omega)
  obtain ⟨g', e, h⟩ := wc24K g _ m o hc
  refine ⟨g', ?_, h⟩
  simp only [f_X9_copyFrom, kb_X9_copyFrom_0, KL, KB, KC, KI, KJ, KZ, bI_0, bI_n, nI00, nI10, ne_eq, Classical.not_not, not_true_eq_false, not_false_eq_true, if_true, if_false, ite_not, ite_self, Bool.false_eq_true, nIne1, O_w, O_kp, AR, hcp]
  exact e
theorem wc52L (g0 g : GG) (m o : Nat) (hg : CP g0 g 81 0 17) : ∃ g', kl_X9_copyFrom_52 [.ref 1, .ref 82, .int (nI 0)] [] (hp g m o) = some (none, hp g' m o) ∧ CP g0 g' 81 0 77 := by
  unfold kl_X9_copyFrom_52
  refine kFix_rule (fun k ls st h => ∃ (i : Nat) (g1 : GG), i + k = 6 ∧ ls = [.ref 1, .ref 82, .int (nI i)] ∧ st = [] ∧ h = hp g1 m o ∧ CP g0 g1 81 0 (17 + 10 * i)) (fun r => ∃ g', r = some (none, hp g' m o) ∧ CP g0 g' 81 0 77) ?_ FU 6 (by decide) _ _ _ ⟨0, g, rfl, rfl, rfl, rfl, hg⟩
  rintro s k ih ls st h ⟨i, g1, hk, rfl, rfl, rfl, hc⟩
  cases k with
  | zero =>
    have hin : (6 ≤ i) = True := eq_true (by omega)
    simp (disch := first | assumption | omega) only [KL, KB, KC, KI, KJ, KZ, bI_0, bI_n, nI00, nI10, ne_eq, Classical.not_not, not_true_eq_false, not_false_eq_true, if_true, if_false, ite_not, ite_self, Bool.false_eq_true, nIne1, kMask, mask, nIle, hin]
    exact ⟨g1, rfl, by rw [show 17 + 10 * i = 77 by omega] at hc; exact hc⟩
  | succ k =>
    have hin : (6 ≤ i) = False := eq_false (by omega)
    have hi : i < 6 := by omega
    have hX : isX (98 + 10 * i) := isX_kept i hi
    have hY : isX (17 + 10 * i) := isX_live i hi
    obtain ⟨g2, e, p1, p2⟩ := x_copy g1 m o _ _ hX hY (by omega)
    simp (disch := first | assumption | omega) only [KL, KB, KC, KI, KJ, KZ, bI_0, bI_n, nI00, nI10, ne_eq, Classical.not_not, not_true_eq_false, not_false_eq_true, if_true, if_false, ite_not, ite_self, Bool.false_eq_true, nIne1, kMask, mask, O_w, O_kp, AR, nIle, hin, nI_add, aalXk, aalX, XO, e]
    exact ih k (by omega) _ _ _ ⟨i + 1, g2, by omega, rfl, rfl, rfl, CP.x hc hi (Or.inr ⟨rfl, rfl⟩) p1 p2⟩
theorem wc24L (g0 g : GG) (m o : Nat) (hg : CP g0 g 81 0 5) : ∃ g', kl_X9_copyFrom_24 [.ref 1, .ref 82, .int (nI 0)] [] (hp g m o) = some (none, hp g' m o) ∧ CP g0 g' 81 0 77 := by
  unfold kl_X9_copyFrom_24
  refine kFix_rule (fun k ls st h => ∃ (i : Nat) (g1 : GG), i + k = 4 ∧ ls = [.ref 1, .ref 82, .int (nI i)] ∧ st = [] ∧ h = hp g1 m o ∧ CP g0 g1 81 0 (5 + 3 * i)) (fun r => ∃ g', r = some (none, hp g' m o) ∧ CP g0 g' 81 0 77) ?_ FU 4 (by decide) _ _ _ ⟨0, g, rfl, rfl, rfl, rfl, hg⟩
  rintro s k ih ls st h ⟨i, g1, hk, rfl, rfl, rfl, hc⟩
  cases k with
  | zero =>
    have hin : (4 ≤ i) = True := eq_true (by omega)
    simp (disch := first | assumption | omega) only [KL, KB, KC, KI, KJ, KZ, bI_0, bI_n, nI00, nI10, ne_eq, Classical.not_not, not_true_eq_false, not_false_eq_true, if_true, if_false, ite_not, ite_self, Bool.false_eq_true, nIne1, kMask, mask, nIle, hin]
    exact wc52L g0 g1 m o (by rw [show 5 + 3 * i = 17 by omega] at hc; exact hc)
  | succ k =>
    have hin : (4 ≤ i) = False := eq_false (by omega)
    have hi : i < 4 := by omega
    have hX : isR (86 + 3 * i) := isR_kept i hi
    have hY : isR (5 + 3 * i) := isR_live i hi
    obtain ⟨g2, e, p1, p2⟩ := r_copy g1 m o _ _ hX hY (by omega)
    have hrc : ∀ (k : KK) (ls st : List Value) (v0 : Value), kRecv 7 5 1 k ls (v0 :: .ref (5 + 3 * i) :: st) (hp g1 m o) = k ls (v0 :: .ref (5 + 3 * i) :: st) (hp g1 m o) := fun k ls st v0 => rc_at hY.1 rfl
    simp (disch := first | assumption | omega) only [KL, KB, KC, KI, KJ, KZ, bI_0, bI_n, nI00, nI10, ne_eq, Classical.not_not, not_true_eq_false, not_false_eq_true, if_true, if_false, ite_not, ite_self, Bool.false_eq_true, nIne1, kMask, mask, O_w, O_kp, AR, nIle, hin, nI_add, aalRk, aalR, hrc, e]
    exact ih k (by omega) _ _ _ ⟨i + 1, g2, by omega, rfl, rfl, rfl, CP.r hc hi (Or.inr ⟨rfl, rfl⟩) p1 p2⟩
theorem w_copyL (g : GG) (m o : Nat) : ∃ g', f_X9_copyFrom [.ref 1, .ref 82] (hp g m o) = some (none, hp g' m o) ∧ CP g g' 81 0 77 := by
  have hcp : ∀ (g : GG) (k : KK) (ls : List Value), kCopy 0 k ls [.int (nI 2), .int (nI 0), .ref 2, .int (nI 0), .ref 83] (hp g m o) = k ls [] (hp (cpA g 2 83 2) m o) := fun g k ls => copy_at (t := 0) rfl rfl (by decide) (Or.inl rfl) k ls
  have hc : CP g (cpA (upd2 g 1 0 (g 82 0)) 2 83 2) 81 0 5 := by
    refine ⟨fun a ha => ?_, fun a ha h80 i hi => ?_⟩
    · simp (disch := omega) only [cpA_ne, upd2_ne]
    · have ha' : a = 0 ∨ a = 1 ∨ a = 2 ∨ a = 3 ∨ a = 4 := by omega
      rcases ha' with rfl | rfl | rfl | rfl | rfl
      · exact absurd hi (by have : wsz 0 = 0 := rfl; omega)
      · have : i = 0 := by have : wsz 1 = 1 := rfl; omega
        subst this
        rw [cpA_ne (by omega)]; exact uS
      · have : i < 2 := hi
        show cpA _ 2 83 2 2 i = _
        rw [cpA_in this, uO (by omega)]
      · exact absurd hi (by have : wsz 3 = 0 := rfl; omega)
      · exact absurd hi (by have : wsz 4 = 0 := rfl; omega)
  obtain ⟨g', e, h⟩ := wc24L g _ m o hc
  refine ⟨g', ?_, h⟩
  simp only [f_X9_copyFrom, kb_X9_copyFrom_0, KL, KB, KC, KI, KJ, KZ, bI_0, bI_n, nI00, nI10, ne_eq, Classical.not_not, not_true_eq_false, not_false_eq_true, if_true, if_false, ite_not, ite_self, Bool.false_eq_true, nIne1, O_w, O_kp, AR, hcp]
  exact e
theorem image_m1 (g : GG) (m o : Nat) : ∃ g', kl_X11_image_15 [.ref 188, .int (nI 1), .int (nI 0)] [] (hp g m o) = some (some (.int (nI 1)), hp g' m o) ∧ (∀ a, a ≠ 190 → a ≠ 188 → g' a = g a) ∧ (∀ i, i ≠ 2 → g' 188 i = g 188 i) ∧ g' 188 2 = nI 1 ∧ ∀ i, i < 6870 → g' 190 i = g 189 i := by
  unfold kl_X11_image_15
  refine kFix_rule (fun k ls st h => ∃ (i : Nat) (g1 : GG), i + k = 6870 ∧ ls = [.ref 188, .int (nI 1), .int (nI i)] ∧ st = [] ∧ h = hp g1 m o ∧ (∀ a, a ≠ 190 → g1 a = g a) ∧ ∀ t, t < i → g1 190 t = g 189 t) (fun r => ∃ g', r = some (some (.int (nI 1)), hp g' m o) ∧ (∀ a, a ≠ 190 → a ≠ 188 → g' a = g a) ∧ (∀ i, i ≠ 2 → g' 188 i = g 188 i) ∧ g' 188 2 = nI 1 ∧ ∀ i, i < 6870 → g' 190 i = g 189 i) ?_ FU 6870 (by decide) _ _ _ ⟨0, g, rfl, rfl, rfl, rfl, fun _ _ => rfl, fun t ht => by omega⟩
  rintro s k ih ls st h ⟨i, g1, hk, rfl, rfl, rfl, h1, h2⟩
  cases k with
  | zero =>
    have hin : (6870 ≤ i) = True := eq_true (by omega)
    simp (disch := first | assumption | omega) only [KL, KB, KC, KI, KJ, KZ, bI_0, bI_n, nI00, nI10, ne_eq, Classical.not_not, not_true_eq_false, not_false_eq_true, if_true, if_false, ite_not, ite_self, Bool.false_eq_true, nIne1, kMask, mask, O_mo, nIle, hin]
    refine ⟨_, rfl, fun a p q => ?_, fun i hi => ?_, ?_, fun i hi => ?_⟩
    · rw [uN q]; exact h1 a p
    · rw [uO (Or.inr hi), h1 188 (by omega)]
    · exact uS
    · rw [uN (by omega)]; exact h2 i (by omega)
  | succ k =>
    have hin : (6870 ≤ i) = False := eq_false (by omega)
    simp (disch := first | assumption | omega) only [KL, KB, KC, KI, KJ, KZ, bI_0, bI_n, nI00, nI10, ne_eq, Classical.not_not, not_true_eq_false, not_false_eq_true, if_true, if_false, ite_not, ite_self, Bool.false_eq_true, nIne1, kMask, mask, O_mo, AR, nIle, hin, nI_add, kb_X11_image_53]
    refine ih k (by omega) _ _ _ ⟨i + 1, _, by omega, rfl, rfl, rfl, fun a ha => ?_, fun t ht => ?_⟩
    · rw [uN ha]; exact h1 a ha
    · by_cases e : t = i
      · subst e; rw [uS, h1 189 (by omega)]
      · rw [uO (Or.inr e)]; exact h2 t (by omega)
theorem image_m0 (g : GG) (m o : Nat) : ∃ g', kl_X11_image_15 [.ref 188, .int (nI 0), .int (nI 0)] [] (hp g m o) = some (some (.int (nI 1)), hp g' m o) ∧ (∀ a, a ≠ 189 → a ≠ 188 → g' a = g a) ∧ (∀ i, i ≠ 2 → g' 188 i = g 188 i) ∧ g' 188 2 = nI 1 ∧ ∀ i, i < 6870 → g' 189 i = g 190 i := by
  unfold kl_X11_image_15
  refine kFix_rule (fun k ls st h => ∃ (i : Nat) (g1 : GG), i + k = 6870 ∧ ls = [.ref 188, .int (nI 0), .int (nI i)] ∧ st = [] ∧ h = hp g1 m o ∧ (∀ a, a ≠ 189 → g1 a = g a) ∧ ∀ t, t < i → g1 189 t = g 190 t) (fun r => ∃ g', r = some (some (.int (nI 1)), hp g' m o) ∧ (∀ a, a ≠ 189 → a ≠ 188 → g' a = g a) ∧ (∀ i, i ≠ 2 → g' 188 i = g 188 i) ∧ g' 188 2 = nI 1 ∧ ∀ i, i < 6870 → g' 189 i = g 190 i) ?_ FU 6870 (by decide) _ _ _ ⟨0, g, rfl, rfl, rfl, rfl, fun _ _ => rfl, fun t ht => by omega⟩
  rintro s k ih ls st h ⟨i, g1, hk, rfl, rfl, rfl, h1, h2⟩
  cases k with
  | zero =>
    have hin : (6870 ≤ i) = True := eq_true (by omega)
    simp (disch := first | assumption | omega) only [KL, KB, KC, KI, KJ, KZ, bI_0, bI_n, nI00, nI10, ne_eq, Classical.not_not, not_true_eq_false, not_false_eq_true, if_true, if_false, ite_not, ite_self, Bool.false_eq_true, nIne1, kMask, mask, O_mo, nIle, hin]
    refine ⟨_, rfl, fun a p q => ?_, fun i hi => ?_, ?_, fun i hi => ?_⟩
    · rw [uN q]; exact h1 a p
    · rw [uO (Or.inr hi), h1 188 (by omega)]
    · exact uS
    · rw [uN (by omega)]; exact h2 i (by omega)
  | succ k =>
    have hin : (6870 ≤ i) = False := eq_false (by omega)
    simp (disch := first | assumption | omega) only [KL, KB, KC, KI, KJ, KZ, bI_0, bI_n, nI00, nI10, ne_eq, Classical.not_not, not_true_eq_false, not_false_eq_true, if_true, if_false, ite_not, ite_self, Bool.false_eq_true, nIne1, kMask, mask, O_mo, AR, nIle, hin, nI_add, kb_X11_image_53]
    refine ih k (by omega) _ _ _ ⟨i + 1, _, by omega, rfl, rfl, rfl, fun a ha => ?_, fun t ht => ?_⟩
    · rw [uN ha]; exact h1 a ha
    · by_cases e : t = i
      · subst e; rw [uS, h1 190 (by omega)]
      · rw [uO (Or.inr e)]; exact h2 t (by omega)
theorem ag_image (a0 : Int32) (h : a0 = nI 0 ∨ a0 = nI 1) : Ag RT f_X10_image f_X11_image [.int a0] := by
  intro j g m o hj hR
  obtain ⟨hW, hT, hf1, hf2, hI, hO, s1, s2, s3⟩ := id hR
  rcases h with rfl | rfl
  · rcases hI with ⟨p, q⟩ | ⟨p, q, hK⟩
    · refine ⟨nI 0, g, m, o, g, ?_, ?_, RT_mono _ _ _ _ hR⟩
      · simp (disch := first | assumption | omega) only [f_X10_image, kb_X10_image_40, kb_X10_image_0, KL, KB, KC, KI, KJ, KZ, bI_0, bI_n, nI00, nI10, ne_eq, Classical.not_not, not_true_eq_false, not_false_eq_true, if_true, if_false, ite_not, ite_self, Bool.false_eq_true, nIne1, O_fp, p]
      · simp (disch := first | assumption | omega) only [f_X11_image, kb_X11_image_53, kb_X11_image_13, kb_X11_image_0, KL, KB, KC, KI, KJ, KZ, bI_0, bI_n, nI00, nI10, ne_eq, Classical.not_not, not_true_eq_false, not_false_eq_true, if_true, if_false, ite_not, ite_self, Bool.false_eq_true, nIne1, O_mo, q]
    · obtain ⟨g1, e1, c1, c2⟩ := w_copyL g m o
      have k0 : ∀ a, (a < 1 ∨ 76 < a) → g1 a = g a := fun a ha => c1 a (by omega)
      have p1 : g1 0 7 = nI 1 := by rw [k0 0 (by omega)]; exact p
      obtain ⟨g2, e2, d1, d2, d3, d4⟩ := image_m0 g1 m o
      have q1 : g1 188 2 = nI 1 := by rw [k0 188 (by omega)]; exact q
      have k1 : ∀ a, 76 < a → a ≠ 189 → a ≠ 188 → g2 a = g a := fun a x y z => by rw [d1 a y z, k0 a (by omega)]
      have k2 : ∀ i, g2 188 i = g 188 i := fun i => by
        by_cases e : i = 2
        · subst e; rw [d3, q]
        · rw [d2 i e, k0 188 (by omega)]
      refine ⟨nI 1, g1, m, o, g2, ?_, ?_, ?_, hT.congr (k1 _ (by omega) (by omega) (by omega)) (k1 _ (by omega) (by omega) (by omega)) (k2 _) (k1 _ (by omega) (by omega) (by omega)), by rw [k1 158 (by omega) (by omega) (by omega), k2]; exact hf1, by rw [k1 158 (by omega) (by omega) (by omega), k2]; exact hf2, Or.inr ⟨by rw [d1 0 (by omega) (by omega), p1], d3, hK.congr (by omega) (fun a _ _ => k1 a (by omega) (by omega) (by omega)) (fun i _ => by rw [k1 190 (by omega) (by omega) (by omega)])⟩, hO.congr (fun a _ _ => k1 a (by omega) (by omega) (by omega)), by rw [k2]; exact s1, by rw [k2]; exact s2, by rw [k2]; exact s3⟩
      · simp (disch := first | assumption | omega) only [f_X10_image, kb_X10_image_40, kb_X10_image_0, KL, KB, KC, KI, KJ, KZ, bI_0, bI_n, nI00, nI10, ne_eq, Classical.not_not, not_true_eq_false, not_false_eq_true, if_true, if_false, ite_not, ite_self, Bool.false_eq_true, nIne1, O_fp, O_w, O_kp, p, e1, p1]
      · simp (disch := first | assumption | omega) only [f_X11_image, kb_X11_image_53, kb_X11_image_13, kb_X11_image_0, KL, KB, KC, KI, KJ, KZ, bI_0, bI_n, nI00, nI10, ne_eq, Classical.not_not, not_true_eq_false, not_false_eq_true, if_true, if_false, ite_not, ite_self, Bool.false_eq_true, nIne1, O_mo, q1, e2]
      · refine WR.congr (q := j) (g := g2) ?_ (by omega) (fun _ _ _ => rfl) (fun _ _ => rfl)
        refine hK.move (fun a ha i hi => ?_) (fun i hi => by rw [d4 i hi, k0 190 (by omega)])
        rw [d1 _ (by omega) (by omega)]
        exact c2 a (by omega) ha i hi
  · obtain ⟨g1, e1, c1, c2⟩ := w_copyK g m o
    have k0 : ∀ a, (a < 82 ∨ 157 < a) → g1 a = g a := fun a ha => c1 a (by omega)
    obtain ⟨g2, e2, d1, d2, d3, d4⟩ := image_m1 (upd2 g1 0 7 (nI 1)) m o
    have k1 : ∀ a, (a < 82 ∨ 157 < a) → a ≠ 0 → a ≠ 190 → a ≠ 188 → g2 a = g a := fun a w x y z => by rw [d1 a y z, uN x, k0 a w]
    have k2 : ∀ i, i ≠ 2 → g2 188 i = g 188 i := fun i hi => by rw [d2 i hi, uN (by omega), k0 188 (by omega)]
    have hW2 : WR g2 0 189 (j + 1) := hW.congr (by omega) (fun a _ _ => k1 a (by omega) (by omega) (by omega) (by omega)) (fun i _ => by rw [k1 189 (by omega) (by omega) (by omega) (by omega)])
    refine ⟨nI 1, upd2 g1 0 7 (nI 1), m, o, g2, ?_, ?_, hW2, hT.congr (k1 _ (by omega) (by omega) (by omega) (by omega)) (k1 _ (by omega) (by omega) (by omega) (by omega)) (k2 _ (by omega)) (k1 _ (by omega) (by omega) (by omega) (by omega)), by rw [k1 158 (by omega) (by omega) (by omega) (by omega), k2 _ (by omega)]; exact hf1, by rw [k1 158 (by omega) (by omega) (by omega) (by omega), k2 _ (by omega)]; exact hf2, Or.inr ⟨by rw [d1 0 (by omega) (by omega)]; exact uS, d3, ?_⟩, hO.congr (fun a _ _ => k1 a (by omega) (by omega) (by omega) (by omega)), by rw [k2 _ (by omega)]; exact s1, by rw [k2 _ (by omega)]; exact s2, by rw [k2 _ (by omega)]; exact s3⟩
    · simp (disch := first | assumption | omega) only [f_X10_image, kb_X10_image_40, kb_X10_image_0, KL, KB, KC, KI, KJ, KZ, bI_0, bI_n, nI00, nI10, ne_eq, Classical.not_not, not_true_eq_false, not_false_eq_true, if_true, if_false, ite_not, ite_self, Bool.false_eq_true, nIne1, O_fp, O_w, O_kp, e1]
    · simp (disch := first | assumption | omega) only [f_X11_image, kb_X11_image_53, kb_X11_image_13, kb_X11_image_0, KL, KB, KC, KI, KJ, KZ, bI_0, bI_n, nI00, nI10, ne_eq, Classical.not_not, not_true_eq_false, not_false_eq_true, if_true, if_false, ite_not, ite_self, Bool.false_eq_true, nIne1, O_mo, e2]
    · refine hW2.move (fun a ha i hi => ?_) (fun i hi => by rw [d4 i hi, uN (by omega), k0 189 (by omega), k1 189 (by omega) (by omega) (by omega) (by omega)])
      have ha0 : a ≠ 0 := fun e => by subst e; exact absurd hi (by have : wsz 0 = 0 := rfl; omega)
      rw [d1 _ (by omega) (by omega), uN (by omega), k1 (0 + a) (by omega) (by omega) (by omega) (by omega)]
      exact c2 a (by omega) ha i hi
