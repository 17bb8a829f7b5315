def bI (p : Prop) [Decidable p] : Int32 := if p then nI 1 else nI 0
theorem bI_t {p : Prop} [Decidable p] (h : p) : bI p = nI 1 := if_pos h
theorem bI_f {p : Prop} [Decidable p] (h : ¬ p) : bI p = nI 0 := if_neg h
theorem bI_0 (p : Prop) [Decidable p] : (bI p = 0) = ¬ p := by
  by_cases h : p
  · rw [bI_t h]; simp [h, nI]
  · rw [bI_f h]; simp [h, nI]
theorem bI_n (p : Prop) [Decidable p] : (bI p ≠ 0) = p := by
  rw [ne_eq, bI_0]; simp
theorem bI_z (p : Prop) [Decidable p] : bI p = 0 ∨ bI p = 1 := by
  by_cases h : p
  · rw [bI_t h]; exact Or.inr rfl
  · rw [bI_f h]; exact Or.inl rfl
theorem bI_cg {p q : Prop} [Decidable p] [Decidable q] (h : p ↔ q) : bI p = bI q := by
  by_cases hp : p
  · rw [bI_t hp, bI_t (h.mp hp)]
  · rw [bI_f hp, bI_f (fun q => hp (h.mpr q))]
theorem nI00 : (nI 0 = 0) = True := by simp [nI]
theorem nI10 : (nI 1 = 0) = False := by simp [nI]
theorem nIk0 {k : Nat} (h : k < 2147483648) : (nI k = 0) = (k = 0) := by
  rw [show (0 : Int32) = nI 0 from rfl, nI_eq h (by omega)]
theorem nIk0n {k : Nat} (h : k < 2147483648) : (nI k ≠ 0) = (k ≠ 0) := by
  rw [ne_eq, ne_eq, nIk0 h]
theorem nIeq {a b : Nat} (ha : a < 2147483648) (hb : b < 2147483648) : (nI a = nI b) = (a = b) := propext (nI_eq ha hb)
theorem nIle {a b : Nat} (ha : a < 2147483648) (hb : b < 2147483648) : (nI a ≤ nI b) = (a ≤ b) := propext (nI_leI ha hb)
theorem nIlt {a b : Nat} (ha : a < 2147483648) (hb : b < 2147483648) : (nI a < nI b) = (a < b) := propext (nI_ltI ha hb)
theorem nIge0 {a : Nat} (ha : a < 2147483648) : ((0 : Int32) ≤ nI a) = True := eq_true (nI_pos' ha)
theorem nIlt0 {a : Nat} (ha : a < 2147483648) : (nI a < (0 : Int32)) = False := eq_false (nI_pos ha)
theorem nIgt0 {a : Nat} (ha : a < 2147483648) : ((0 : Int32) < nI a) = (0 < a) := by rw [show (0 : Int32) = nI 0 from rfl, nIlt (by omega) ha]
theorem nIle0 {a : Nat} (ha : a < 2147483648) : (nI a ≤ (0 : Int32)) = (a = 0) := by rw [show (0 : Int32) = nI 0 from rfl, nIle ha (by omega)]; simp
theorem nIne1 {a : Nat} (ha : a < 2147483648) : (nI a = -1) = False := by
  apply eq_false
  intro h
  have h1 := nI_pos ha
  rw [h] at h1
  exact h1 (by decide)
theorem n1ne {a : Nat} (ha : a < 2147483648) : ((-1 : Int32) = nI a) = False := by
  exact eq_false (fun h => by have h2 : nI a = -1 := h.symm; rw [nIne1 ha] at h2; exact h2)
theorem n1lt0 : ((-1 : Int32) < 0) = True := eq_true (by decide)
/-- a number is among 0 .. n, or it is not -/
theorem in_cases (v : Int32) (n : Nat) (hn : n < 2147483648) : (∃ k, k ≤ n ∧ v = nI k) ∨ ¬ (nI 0 ≤ v ∧ v ≤ nI n) := by
  by_cases h : nI 0 ≤ v ∧ v ≤ nI n
  · left
    obtain ⟨k, hk, e⟩ := nI_of2 (x := v) (M := nI n) (n := n) (nI_toInt hn) (Int32.not_lt.mpr h.1) h.2
    exact ⟨k, hk, e⟩
  · exact Or.inr h
theorem in_yes {k n : Nat} (h : k ≤ n) (hn : n < 2147483648) : nI 0 ≤ nI k ∧ nI k ≤ nI n := ⟨by rw [nIle (by omega) (by omega)]; omega, by rw [nIle (by omega) (by omega)]; exact h⟩
set_option maxRecDepth 100000 in
theorem KZ : (∀ (ls : List Value) (h : HP), kRetZ ls [.int (nI 0)] h = some (some (.int (nI 0)), h)) ∧ (∀ (ls : List Value) (h : HP), kRetZ ls [.int (nI 1)] h = some (some (.int (nI 1)), h)) ∧ (∀ (p : Prop) [Decidable p] (ls : List Value) (h : HP), kRetZ ls [.int (bI p)] h = some (some (.int (bI p)), h)) := ⟨(fun _ _ => rfl), (fun _ _ => rfl), (fun p _ _ _ => if_pos (bI_z p))⟩
/-- a is a made crossing -/
def isX (a : Nat) : Prop := SH a = (41, 10) ∧ SH (a + 1) = (1, 30) ∧ SH (a + 2) = (1, 36) ∧ SH (a + 3) = (1, 12) ∧ SH (a + 4) = (1, 6) ∧ SH (a + 5) = (1, 120) ∧ SH (a + 6) = (1, 6) ∧ SH (a + 7) = (1, 18) ∧ SH (a + 8) = (1, 3) ∧ SH (a + 9) = (1, 18) ∧ ∀ (m o j : Nat), 1 ≤ j → j ≤ 9 → RR m o a j = some (a + j)
theorem isX_live : ∀ c, c < 6 → isX (17 + 10 * c) := by
  intro c hc
  match c, hc with
  | 0, _ => exact ⟨rfl, rfl, rfl, rfl, rfl, rfl, rfl, rfl, rfl, rfl, fun m o j h1 h2 => by match j, h1, h2 with | 1, _, _ => rfl | 2, _, _ => rfl | 3, _, _ => rfl | 4, _, _ => rfl | 5, _, _ => rfl | 6, _, _ => rfl | 7, _, _ => rfl | 8, _, _ => rfl | 9, _, _ => rfl⟩
  | 1, _ => exact ⟨rfl, rfl, rfl, rfl, rfl, rfl, rfl, rfl, rfl, rfl, fun m o j h1 h2 => by match j, h1, h2 with | 1, _, _ => rfl | 2, _, _ => rfl | 3, _, _ => rfl | 4, _, _ => rfl | 5, _, _ => rfl | 6, _, _ => rfl | 7, _, _ => rfl | 8, _, _ => rfl | 9, _, _ => rfl⟩
  | 2, _ => exact ⟨rfl, rfl, rfl, rfl, rfl, rfl, rfl, rfl, rfl, rfl, fun m o j h1 h2 => by match j, h1, h2 with | 1, _, _ => rfl | 2, _, _ => rfl | 3, _, _ => rfl | 4, _, _ => rfl | 5, _, _ => rfl | 6, _, _ => rfl | 7, _, _ => rfl | 8, _, _ => rfl | 9, _, _ => rfl⟩
  | 3, _ => exact ⟨rfl, rfl, rfl, rfl, rfl, rfl, rfl, rfl, rfl, rfl, fun m o j h1 h2 => by match j, h1, h2 with | 1, _, _ => rfl | 2, _, _ => rfl | 3, _, _ => rfl | 4, _, _ => rfl | 5, _, _ => rfl | 6, _, _ => rfl | 7, _, _ => rfl | 8, _, _ => rfl | 9, _, _ => rfl⟩
  | 4, _ => exact ⟨rfl, rfl, rfl, rfl, rfl, rfl, rfl, rfl, rfl, rfl, fun m o j h1 h2 => by match j, h1, h2 with | 1, _, _ => rfl | 2, _, _ => rfl | 3, _, _ => rfl | 4, _, _ => rfl | 5, _, _ => rfl | 6, _, _ => rfl | 7, _, _ => rfl | 8, _, _ => rfl | 9, _, _ => rfl⟩
  | 5, _ => exact ⟨rfl, rfl, rfl, rfl, rfl, rfl, rfl, rfl, rfl, rfl, fun m o j h1 h2 => by match j, h1, h2 with | 1, _, _ => rfl | 2, _, _ => rfl | 3, _, _ => rfl | 4, _, _ => rfl | 5, _, _ => rfl | 6, _, _ => rfl | 7, _, _ => rfl | 8, _, _ => rfl | 9, _, _ => rfl⟩
theorem isX_kept : ∀ c, c < 6 → isX (81 + 17 + 10 * c) := by
  intro c hc
  match c, hc with
  | 0, _ => exact ⟨rfl, rfl, rfl, rfl, rfl, rfl, rfl, rfl, rfl, rfl, fun m o j h1 h2 => by match j, h1, h2 with | 1, _, _ => rfl | 2, _, _ => rfl | 3, _, _ => rfl | 4, _, _ => rfl | 5, _, _ => rfl | 6, _, _ => rfl | 7, _, _ => rfl | 8, _, _ => rfl | 9, _, _ => rfl⟩
  | 1, _ => exact ⟨rfl, rfl, rfl, rfl, rfl, rfl, rfl, rfl, rfl, rfl, fun m o j h1 h2 => by match j, h1, h2 with | 1, _, _ => rfl | 2, _, _ => rfl | 3, _, _ => rfl | 4, _, _ => rfl | 5, _, _ => rfl | 6, _, _ => rfl | 7, _, _ => rfl | 8, _, _ => rfl | 9, _, _ => rfl⟩
  | 2, _ => exact ⟨rfl, rfl, rfl, rfl, rfl, rfl, rfl, rfl, rfl, rfl, fun m o j h1 h2 => by match j, h1, h2 with | 1, _, _ => rfl | 2, _, _ => rfl | 3, _, _ => rfl | 4, _, _ => rfl | 5, _, _ => rfl | 6, _, _ => rfl | 7, _, _ => rfl | 8, _, _ => rfl | 9, _, _ => rfl⟩
  | 3, _ => exact ⟨rfl, rfl, rfl, rfl, rfl, rfl, rfl, rfl, rfl, rfl, fun m o j h1 h2 => by match j, h1, h2 with | 1, _, _ => rfl | 2, _, _ => rfl | 3, _, _ => rfl | 4, _, _ => rfl | 5, _, _ => rfl | 6, _, _ => rfl | 7, _, _ => rfl | 8, _, _ => rfl | 9, _, _ => rfl⟩
  | 4, _ => exact ⟨rfl, rfl, rfl, rfl, rfl, rfl, rfl, rfl, rfl, rfl, fun m o j h1 h2 => by match j, h1, h2 with | 1, _, _ => rfl | 2, _, _ => rfl | 3, _, _ => rfl | 4, _, _ => rfl | 5, _, _ => rfl | 6, _, _ => rfl | 7, _, _ => rfl | 8, _, _ => rfl | 9, _, _ => rfl⟩
  | 5, _ => exact ⟨rfl, rfl, rfl, rfl, rfl, rfl, rfl, rfl, rfl, rfl, fun m o j h1 h2 => by match j, h1, h2 with | 1, _, _ => rfl | 2, _, _ => rfl | 3, _, _ => rfl | 4, _, _ => rfl | 5, _, _ => rfl | 6, _, _ => rfl | 7, _, _ => rfl | 8, _, _ => rfl | 9, _, _ => rfl⟩
theorem gi_at {a ci N j : Nat} {g : GG} {m o : Nat} (hs : SH a = (40 + ci, N)) (k : KK) (ls st : List Value) : kGetI ci N j k ls (.ref a :: st) (hp g m o) = k ls (.int (g a j) :: st) (hp g m o) := if_pos hs
theorem pi_at {a ci N j : Nat} {g : GG} {m o : Nat} {x : Int32} (hs : SH a = (40 + ci, N)) (k : KK) (ls st : List Value) : kPutI ci N j k ls (.int x :: .ref a :: st) (hp g m o) = k ls st (hp (upd2 g a j x) m o) := if_pos hs
theorem gr_at {a ci N j b : Nat} {g : GG} {m o : Nat} (hs : SH a = (40 + ci, N)) (hr : RR m o a j = some b) (k : KK) (ls st : List Value) : kGetR ci N j k ls (.ref a :: st) (hp g m o) = k ls (.ref b :: st) (hp g m o) := by
  have e : kGetR ci N j k ls (.ref a :: st) (hp g m o) = k ls (va_rf (RR m o a j) :: st) (hp g m o) := if_pos hs
  rw [e, hr]
  rfl
theorem rc_at {a ci N n : Nat} {g : GG} {m o : Nat} {k : KK} {ls st : List Value} (hs : SH a = (40 + ci, N)) (hst : st[n]? = some (.ref a)) : kRecv ci N n k ls st (hp g m o) = k ls st (hp g m o) := by
  unfold kRecv
  rw [hst]
  exact if_pos hs
set_option maxRecDepth 100000 in
theorem XO : (∀ (a : Nat), isX a → ∀ (k : KK) (ls st : List Value) (g : Nat → Nat → Int32) (m o : Nat), kGetI 1 10 0 k ls (.ref a :: st) (hp g m o) = k ls (.int (g a 0) :: st) (hp g m o)) ∧ (∀ (a : Nat), isX a → ∀ (k : KK) (ls st : List Value) (g : Nat → Nat → Int32) (m o : Nat) (x : Int32), kPutI 1 10 0 k ls (.int x :: .ref a :: st) (hp g m o) = k ls st (hp (upd2 g a 0 x) m o)) ∧ (∀ (a : Nat), isX a → ∀ (k : KK) (ls st : List Value) (g : Nat → Nat → Int32) (m o : Nat), kGetR 1 10 1 k ls (.ref a :: st) (hp g m o) = k ls (.ref (a + 1) :: st) (hp g m o)) ∧ (∀ (a i : Nat), isX a → i < 30 → ∀ (k : KK) (ls st : List Value) (g : Nat → Nat → Int32) (m o : Nat), kIal k ls (.int (nI i) :: .ref (a + 1) :: st) (hp g m o) = k ls (.int (g (a + 1) i) :: st) (hp g m o)) ∧ (∀ (a i : Nat), isX a → i < 30 → ∀ (k : KK) (ls st : List Value) (g : Nat → Nat → Int32) (m o : Nat) (x : Int32), kIas k ls (.int x :: .int (nI i) :: .ref (a + 1) :: st) (hp g m o) = k ls st (hp (upd2 g (a + 1) i x) m o)) ∧ (∀ (a : Nat), isX a → ∀ (k : KK) (ls st : List Value) (g : Nat → Nat → Int32) (m o : Nat), kGetR 1 10 2 k ls (.ref a :: st) (hp g m o) = k ls (.ref (a + 2) :: st) (hp g m o)) ∧ (∀ (a i : Nat), isX a → i < 36 → ∀ (k : KK) (ls st : List Value) (g : Nat → Nat → Int32) (m o : Nat), kIal k ls (.int (nI i) :: .ref (a + 2) :: st) (hp g m o) = k ls (.int (g (a + 2) i) :: st) (hp g m o)) ∧ (∀ (a i : Nat), isX a → i < 36 → ∀ (k : KK) (ls st : List Value) (g : Nat → Nat → Int32) (m o : Nat) (x : Int32), kIas k ls (.int x :: .int (nI i) :: .ref (a + 2) :: st) (hp g m o) = k ls st (hp (upd2 g (a + 2) i x) m o)) ∧ (∀ (a : Nat), isX a → ∀ (k : KK) (ls st : List Value) (g : Nat → Nat → Int32) (m o : Nat), kGetR 1 10 3 k ls (.ref a :: st) (hp g m o) = k ls (.ref (a + 3) :: st) (hp g m o)) ∧ (∀ (a i : Nat), isX a → i < 12 → ∀ (k : KK) (ls st : List Value) (g : Nat → Nat → Int32) (m o : Nat), kIal k ls (.int (nI i) :: .ref (a + 3) :: st) (hp g m o) = k ls (.int (g (a + 3) i) :: st) (hp g m o)) ∧ (∀ (a i : Nat), isX a → i < 12 → ∀ (k : KK) (ls st : List Value) (g : Nat → Nat → Int32) (m o : Nat) (x : Int32), kIas k ls (.int x :: .int (nI i) :: .ref (a + 3) :: st) (hp g m o) = k ls st (hp (upd2 g (a + 3) i x) m o)) ∧ (∀ (a : Nat), isX a → ∀ (k : KK) (ls st : List Value) (g : Nat → Nat → Int32) (m o : Nat), kGetR 1 10 4 k ls (.ref a :: st) (hp g m o) = k ls (.ref (a + 4) :: st) (hp g m o)) ∧ (∀ (a i : Nat), isX a → i < 6 → ∀ (k : KK) (ls st : List Value) (g : Nat → Nat → Int32) (m o : Nat), kIal k ls (.int (nI i) :: .ref (a + 4) :: st) (hp g m o) = k ls (.int (g (a + 4) i) :: st) (hp g m o)) ∧ (∀ (a i : Nat), isX a → i < 6 → ∀ (k : KK) (ls st : List Value) (g : Nat → Nat → Int32) (m o : Nat) (x : Int32), kIas k ls (.int x :: .int (nI i) :: .ref (a + 4) :: st) (hp g m o) = k ls st (hp (upd2 g (a + 4) i x) m o)) ∧ (∀ (a : Nat), isX a → ∀ (k : KK) (ls st : List Value) (g : Nat → Nat → Int32) (m o : Nat), kGetR 1 10 5 k ls (.ref a :: st) (hp g m o) = k ls (.ref (a + 5) :: st) (hp g m o)) ∧ (∀ (a i : Nat), isX a → i < 120 → ∀ (k : KK) (ls st : List Value) (g : Nat → Nat → Int32) (m o : Nat), kIal k ls (.int (nI i) :: .ref (a + 5) :: st) (hp g m o) = k ls (.int (g (a + 5) i) :: st) (hp g m o)) ∧ (∀ (a i : Nat), isX a → i < 120 → ∀ (k : KK) (ls st : List Value) (g : Nat → Nat → Int32) (m o : Nat) (x : Int32), kIas k ls (.int x :: .int (nI i) :: .ref (a + 5) :: st) (hp g m o) = k ls st (hp (upd2 g (a + 5) i x) m o)) ∧ (∀ (a : Nat), isX a → ∀ (k : KK) (ls st : List Value) (g : Nat → Nat → Int32) (m o : Nat), kGetR 1 10 6 k ls (.ref a :: st) (hp g m o) = k ls (.ref (a + 6) :: st) (hp g m o)) ∧ (∀ (a i : Nat), isX a → i < 6 → ∀ (k : KK) (ls st : List Value) (g : Nat → Nat → Int32) (m o : Nat), kIal k ls (.int (nI i) :: .ref (a + 6) :: st) (hp g m o) = k ls (.int (g (a + 6) i) :: st) (hp g m o)) ∧ (∀ (a i : Nat), isX a → i < 6 → ∀ (k : KK) (ls st : List Value) (g : Nat → Nat → Int32) (m o : Nat) (x : Int32), kIas k ls (.int x :: .int (nI i) :: .ref (a + 6) :: st) (hp g m o) = k ls st (hp (upd2 g (a + 6) i x) m o)) ∧ (∀ (a : Nat), isX a → ∀ (k : KK) (ls st : List Value) (g : Nat → Nat → Int32) (m o : Nat), kGetR 1 10 7 k ls (.ref a :: st) (hp g m o) = k ls (.ref (a + 7) :: st) (hp g m o)) ∧ (∀ (a i : Nat), isX a → i < 18 → ∀ (k : KK) (ls st : List Value) (g : Nat → Nat → Int32) (m o : Nat), kIal k ls (.int (nI i) :: .ref (a + 7) :: st) (hp g m o) = k ls (.int (g (a + 7) i) :: st) (hp g m o)) ∧ (∀ (a i : Nat), isX a → i < 18 → ∀ (k : KK) (ls st : List Value) (g : Nat → Nat → Int32) (m o : Nat) (x : Int32), kIas k ls (.int x :: .int (nI i) :: .ref (a + 7) :: st) (hp g m o) = k ls st (hp (upd2 g (a + 7) i x) m o)) ∧ (∀ (a : Nat), isX a → ∀ (k : KK) (ls st : List Value) (g : Nat → Nat → Int32) (m o : Nat), kGetR 1 10 8 k ls (.ref a :: st) (hp g m o) = k ls (.ref (a + 8) :: st) (hp g m o)) ∧ (∀ (a i : Nat), isX a → i < 3 → ∀ (k : KK) (ls st : List Value) (g : Nat → Nat → Int32) (m o : Nat), kIal k ls (.int (nI i) :: .ref (a + 8) :: st) (hp g m o) = k ls (.int (g (a + 8) i) :: st) (hp g m o)) ∧ (∀ (a i : Nat), isX a → i < 3 → ∀ (k : KK) (ls st : List Value) (g : Nat → Nat → Int32) (m o : Nat) (x : Int32), kIas k ls (.int x :: .int (nI i) :: .ref (a + 8) :: st) (hp g m o) = k ls st (hp (upd2 g (a + 8) i x) m o)) ∧ (∀ (a : Nat), isX a → ∀ (k : KK) (ls st : List Value) (g : Nat → Nat → Int32) (m o : Nat), kGetR 1 10 9 k ls (.ref a :: st) (hp g m o) = k ls (.ref (a + 9) :: st) (hp g m o)) ∧ (∀ (a i : Nat), isX a → i < 18 → ∀ (k : KK) (ls st : List Value) (g : Nat → Nat → Int32) (m o : Nat), kIal k ls (.int (nI i) :: .ref (a + 9) :: st) (hp g m o) = k ls (.int (g (a + 9) i) :: st) (hp g m o)) ∧ (∀ (a i : Nat), isX a → i < 18 → ∀ (k : KK) (ls st : List Value) (g : Nat → Nat → Int32) (m o : Nat) (x : Int32), kIas k ls (.int x :: .int (nI i) :: .ref (a + 9) :: st) (hp g m o) = k ls st (hp (upd2 g (a + 9) i x) m o)) ∧ (∀ (a : Nat), isX a → ∀ (k : KK) (ls st : List Value) (g : Nat → Nat → Int32) (m o : Nat), kRecv 1 10 0 k ls (.ref a :: st) (hp g m o) = k ls (.ref a :: st) (hp g m o)) ∧ (∀ (a : Nat), isX a → ∀ (k : KK) (ls st : List Value) (g : Nat → Nat → Int32) (m o : Nat) (v0 : Value), kRecv 1 10 1 k ls (v0 :: .ref a :: st) (hp g m o) = k ls (v0 :: .ref a :: st) (hp g m o)) ∧ (∀ (a : Nat), isX a → ∀ (k : KK) (ls st : List Value) (g : Nat → Nat → Int32) (m o : Nat) (v0 v1 : Value), kRecv 1 10 2 k ls (v0 :: v1 :: .ref a :: st) (hp g m o) = k ls (v0 :: v1 :: .ref a :: st) (hp g m o)) ∧ (∀ (a : Nat), isX a → ∀ (k : KK) (ls st : List Value) (g : Nat → Nat → Int32) (m o : Nat) (v0 v1 v2 : Value), kRecv 1 10 3 k ls (v0 :: v1 :: v2 :: .ref a :: st) (hp g m o) = k ls (v0 :: v1 :: v2 :: .ref a :: st) (hp g m o)) ∧ (∀ (a : Nat), isX a → ∀ (k : KK) (ls st : List Value) (g : Nat → Nat → Int32) (m o : Nat) (v0 v1 v2 v3 : Value), kRecv 1 10 4 k ls (v0 :: v1 :: v2 :: v3 :: .ref a :: st) (hp g m o) = k ls (v0 :: v1 :: v2 :: v3 :: .ref a :: st) (hp g m o)) ∧ (∀ (a : Nat), isX a → ∀ (k : KK) (ls st : List Value) (g : Nat → Nat → Int32) (m o : Nat) (v0 v1 v2 v3 v4 : Value), kRecv 1 10 5 k ls (v0 :: v1 :: v2 :: v3 :: v4 :: .ref a :: st) (hp g m o) = k ls (v0 :: v1 :: v2 :: v3 :: v4 :: .ref a :: st) (hp g m o)) ∧ (∀ (a : Nat), isX a → ∀ (k : KK) (ls st : List Value) (g : Nat → Nat → Int32) (m o : Nat) (v0 v1 v2 v3 v4 v5 : Value), kRecv 1 10 6 k ls (v0 :: v1 :: v2 :: v3 :: v4 :: v5 :: .ref a :: st) (hp g m o) = k ls (v0 :: v1 :: v2 :: v3 :: v4 :: v5 :: .ref a :: st) (hp g m o)) ∧ (∀ (a : Nat), isX a → ∀ (k : KK) (ls st : List Value) (g : Nat → Nat → Int32) (m o : Nat) (v0 v1 v2 v3 v4 v5 v6 : Value), kRecv 1 10 7 k ls (v0 :: v1 :: v2 :: v3 :: v4 :: v5 :: v6 :: .ref a :: st) (hp g m o) = k ls (v0 :: v1 :: v2 :: v3 :: v4 :: v5 :: v6 :: .ref a :: st) (hp g m o)) := ⟨(fun a h k ls st g m o => gi_at h.1 k ls st), (fun a h k ls st g m o x => pi_at h.1 k ls st), (fun a h k ls st g m o => gr_at h.1 (h.2.2.2.2.2.2.2.2.2.2 m o 1 (by decide) (by decide)) k ls st), (fun a i h hi k ls st g m o => ial_at h.2.1 (by decide) hi k ls st), (fun a i h hi k ls st g m o x => ias_at h.2.1 (by decide) hi k ls st), (fun a h k ls st g m o => gr_at h.1 (h.2.2.2.2.2.2.2.2.2.2 m o 2 (by decide) (by decide)) k ls st), (fun a i h hi k ls st g m o => ial_at h.2.2.1 (by decide) hi k ls st), (fun a i h hi k ls st g m o x => ias_at h.2.2.1 (by decide) hi k ls st), (fun a h k ls st g m o => gr_at h.1 (h.2.2.2.2.2.2.2.2.2.2 m o 3 (by decide) (by decide)) k ls st), (fun a i h hi k ls st g m o => ial_at h.2.2.2.1 (by decide) hi k ls st), (fun a i h hi k ls st g m o x => ias_at h.2.2.2.1 (by decide) hi k ls st), (fun a h k ls st g m o => gr_at h.1 (h.2.2.2.2.2.2.2.2.2.2 m o 4 (by decide) (by decide)) k ls st), (fun a i h hi k ls st g m o => ial_at h.2.2.2.2.1 (by decide) hi k ls st), (fun a i h hi k ls st g m o x => ias_at h.2.2.2.2.1 (by decide) hi k ls st), (fun a h k ls st g m o => gr_at h.1 (h.2.2.2.2.2.2.2.2.2.2 m o 5 (by decide) (by decide)) k ls st), (fun a i h hi k ls st g m o => ial_at h.2.2.2.2.2.1 (by decide) hi k ls st), (fun a i h hi k ls st g m o x => ias_at h.2.2.2.2.2.1 (by decide) hi k ls st), (fun a h k ls st g m o => gr_at h.1 (h.2.2.2.2.2.2.2.2.2.2 m o 6 (by decide) (by decide)) k ls st), (fun a i h hi k ls st g m o => ial_at h.2.2.2.2.2.2.1 (by decide) hi k ls st), (fun a i h hi k ls st g m o x => ias_at h.2.2.2.2.2.2.1 (by decide) hi k ls st), (fun a h k ls st g m o => gr_at h.1 (h.2.2.2.2.2.2.2.2.2.2 m o 7 (by decide) (by decide)) k ls st), (fun a i h hi k ls st g m o => ial_at h.2.2.2.2.2.2.2.1 (by decide) hi k ls st), (fun a i h hi k ls st g m o x => ias_at h.2.2.2.2.2.2.2.1 (by decide) hi k ls st), (fun a h k ls st g m o => gr_at h.1 (h.2.2.2.2.2.2.2.2.2.2 m o 8 (by decide) (by decide)) k ls st), (fun a i h hi k ls st g m o => ial_at h.2.2.2.2.2.2.2.2.1 (by decide) hi k ls st), (fun a i h hi k ls st g m o x => ias_at h.2.2.2.2.2.2.2.2.1 (by decide) hi k ls st), (fun a h k ls st g m o => gr_at h.1 (h.2.2.2.2.2.2.2.2.2.2 m o 9 (by decide) (by decide)) k ls st), (fun a i h hi k ls st g m o => ial_at h.2.2.2.2.2.2.2.2.2.1 (by decide) hi k ls st), (fun a i h hi k ls st g m o x => ias_at h.2.2.2.2.2.2.2.2.2.1 (by decide) hi k ls st), (fun a h k ls st g m o  => rc_at h.1 rfl), (fun a h k ls st g m o v0 => rc_at h.1 rfl), (fun a h k ls st g m o v0 v1 => rc_at h.1 rfl), (fun a h k ls st g m o v0 v1 v2 => rc_at h.1 rfl), (fun a h k ls st g m o v0 v1 v2 v3 => rc_at h.1 rfl), (fun a h k ls st g m o v0 v1 v2 v3 v4 => rc_at h.1 rfl), (fun a h k ls st g m o v0 v1 v2 v3 v4 v5 => rc_at h.1 rfl), (fun a h k ls st g m o v0 v1 v2 v3 v4 v5 v6 => rc_at h.1 rfl)⟩
theorem aalX {g : GG} {m o c : Nat} (hc : c < 6) (k : KK) (ls st : List Value) : kAal 3 k ls (.int (nI c) :: .ref 4 :: st) (hp g m o) = k ls (.ref (17 + 10 * c) :: st) (hp g m o) := by
  have h1 : hSh (hp g m o) 4 = (4, 6) := rfl
  unfold kAal
  simp only [h1]
  rw [if_pos ⟨trivial, inb_nI hc (by decide)⟩, nI_clamp (by omega)]
  have h2 : hR (hp g m o) 4 c = some (17 + 10 * c) := by
    match c, hc with
    | 0, _ => rfl
    | 1, _ => rfl
    | 2, _ => rfl
    | 3, _ => rfl
    | 4, _ => rfl
    | 5, _ => rfl
  rw [h2]
  rfl
theorem aalR {g : GG} {m o c : Nat} (hc : c < 4) (k : KK) (ls st : List Value) : kAal 2 k ls (.int (nI c) :: .ref 3 :: st) (hp g m o) = k ls (.ref (5 + 3 * c) :: st) (hp g m o) := by
  have h1 : hSh (hp g m o) 3 = (3, 4) := rfl
  unfold kAal
  simp only [h1]
  rw [if_pos ⟨trivial, inb_nI hc (by decide)⟩, nI_clamp (by omega)]
  have h2 : hR (hp g m o) 3 c = some (5 + 3 * c) := by
    match c, hc with
    | 0, _ => rfl
    | 1, _ => rfl
    | 2, _ => rfl
    | 3, _ => rfl
  rw [h2]
  rfl
-- ===== small methods: the model's =====
theorem m_isIn (v a b : Int32) (h : HP) : f_X11_isIn [.int v, .int a, .int b] h = some (some (.int (bI (a ≤ v ∧ v ≤ b))), h) := by
  simp only [f_X11_isIn, kb_X11_isIn_0, kb_X11_isIn_14, kb_X11_isIn_15, KL, KB, KJ, KZ]
  by_cases h1 : v < a
  · rw [if_pos h1, bI_f (fun q => absurd h1 (Int32.not_lt.mpr q.1))]
  · by_cases h3 : b < v
    · rw [if_neg h1, if_pos h3, bI_f (fun q => absurd h3 (Int32.not_lt.mpr q.2))]
    · rw [if_neg h1, if_neg h3, bI_t ⟨Int32.not_lt.mp h1, Int32.not_lt.mp h3⟩]
theorem m_get (g : GG) (m o c r f : Nat) (h : 10 + 560 * c + 92 * r + f < 6870) : f_X11_get [.ref 188, .int (nI c), .int (nI r), .int (nI f)] (hp g m o) = some (some (.int (g 189 (10 + 560 * c + 92 * r + f))), hp g m o) := by
  simp (disch := omega) only [f_X11_get, kb_X11_get_0, KL, KB, O_mo, AR, nI_mul, nI_add]
theorem m_set0 (g : GG) (m o c r f : Nat) (v : Int32) (h : 10 + 560 * c + 92 * r + f < 6870) : f_X11_set0 [.ref 188, .int (nI c), .int (nI r), .int (nI f), .int v] (hp g m o) = some (none, hp (upd2 g 189 (10 + 560 * c + 92 * r + f) v) m o) := by
  simp (disch := omega) only [f_X11_set0, kb_X11_set0_0, KL, KB, O_mo, AR, nI_mul, nI_add]
theorem m_own (g : GG) (m o c f : Nat) (h : 10 + 560 * c + f < 6870) : f_X11_own [.ref 188, .int (nI c), .int (nI f)] (hp g m o) = some (some (.int (g 189 (10 + 560 * c + f))), hp g m o) := by
  simp (disch := omega) only [f_X11_own, kb_X11_own_0, KL, KB, O_mo, AR, nI_mul, nI_add]
theorem m_isCrossing (v : Int32) (h : HP) : f_X11_isCrossing [.int v] h = some (some (.int (bI (nI 0 ≤ v ∧ v ≤ nI 5))), h) := by
  simp only [f_X11_isCrossing, kb_X11_isCrossing_0, KL, KB, KC, KZ, m_isIn]
theorem m_isRoadN (g : GG) (m o : Nat) (c r : Int32) (h : ¬ (nI 0 ≤ c ∧ c ≤ nI 5)) : f_X11_isRoad [.ref 188, .int c, .int r] (hp g m o) = some (some (.int (nI 0)), hp g m o) := by
  simp only [f_X11_isRoad, kb_X11_isRoad_0, kb_X11_isRoad_29, kb_X11_isRoad_30, KL, KB, KC, KI, KZ, m_isCrossing, bI_0, h, not_false_eq_true, if_true]
theorem m_isRoad (g : GG) (m o c n : Nat) (r : Int32) (hc : c < 6) (hn : g 189 (10 + 560 * c + 552) = nI n) (h1 : 1 ≤ n) : f_X11_isRoad [.ref 188, .int (nI c), .int r] (hp g m o) = some (some (.int (bI (nI 0 ≤ r ∧ r ≤ nI (n - 1)))), hp g m o) := by
  have hy : (nI 0 ≤ nI c ∧ nI c ≤ nI 5) = True := eq_true (in_yes (by omega) (by decide))
  simp (disch := omega) only [f_X11_isRoad, kb_X11_isRoad_0, kb_X11_isRoad_29, kb_X11_isRoad_30, KL, KB, KC, KI, KZ, O_mo, m_isCrossing, bI_0, hy, not_true_eq_false, if_false, m_own, hn, nI_sub, m_isIn]
  by_cases hq : nI 0 ≤ r ∧ r ≤ nI (n - 1)
  · rw [if_neg (fun q => q hq), bI_t hq]
  · rw [if_pos hq, bI_f hq]
-- ===== small methods: the class's =====
theorem c_within (v : Int32) (b : Nat) (hb : b < 2147483648) (h : HP) : f_X10_within [.int v, .int (nI b)] h = some (some (.int (bI (nI 0 ≤ v ∧ v ≤ nI b))), h) := by
  simp only [f_X10_within, kb_X10_within_14, kb_X10_within_13, kb_X10_within_0, KL, KB, KI, KJ, KZ]
  by_cases h1 : v < 0
  · rw [if_pos h1, bI_f (fun q => absurd h1 (Int32.not_lt.mpr q.1))]
  · by_cases h3 : nI b < v
    · rw [if_neg h1, if_pos h3, bI_f (fun q => absurd h3 (Int32.not_lt.mpr q.2))]
    · rw [if_neg h1, if_neg h3, bI_t ⟨Int32.not_lt.mp h1, Int32.not_lt.mp h3⟩]
theorem c_at (g : GG) (m o c : Nat) (hc : c < 6) : f_X10_crossingAt [.ref 0, .int (nI c)] (hp g m o) = some (some (.ref (17 + 10 * c)), hp g m o) := by
  have hy : (nI 0 ≤ nI c ∧ nI c ≤ nI 5) = True := eq_true (in_yes (by omega) (by decide))
  simp (disch := omega) only [f_X10_crossingAt, kb_X10_crossingAt_21, kb_X10_crossingAt_0, KL, KB, KC, KI, O_fp, O_w, c_within, bI_0, hy, not_true_eq_false, if_false, aalX]
theorem c_atN (g : GG) (m o : Nat) (c : Int32) (h : ¬ (nI 0 ≤ c ∧ c ≤ nI 5)) : f_X10_crossingAt [.ref 0, .int c] (hp g m o) = some (some .null, hp g m o) := by
  simp (disch := omega) only [f_X10_crossingAt, kb_X10_crossingAt_21, kb_X10_crossingAt_0, KL, KB, KC, KI, O_fp, O_w, c_within, bI_0, h, not_false_eq_true, if_true]
theorem x_hasRoad (g : GG) (m o X n : Nat) (r : Int32) (hX : isX X) (hn : g X 0 = nI n) (h1 : 1 ≤ n) (h2 : n < 100) : f_X1_hasRoad [.ref X, .int r] (hp g m o) = some (some (.int (bI (nI 0 ≤ r ∧ r ≤ nI (n - 1)))), hp g m o) := by
  simp (disch := first | assumption | omega) only [f_X1_hasRoad, kb_X1_hasRoad_17, kb_X1_hasRoad_16, kb_X1_hasRoad_0, KL, KB, KI, KJ, KZ, XO, hn]
  by_cases h3 : r < 0
  · rw [if_pos h3, bI_f (fun q => absurd h3 (Int32.not_lt.mpr q.1))]
  · rw [if_neg h3]
    obtain ⟨k, hk, rfl⟩ := nI_of h3
    by_cases h4 : k < n
    · rw [if_neg (by rw [nIle (by omega) (by omega)]; omega), bI_t (in_yes (by omega) (by omega))]
    · rw [if_pos (by rw [nIle (by omega) (by omega)]; omega), bI_f (fun q => by have := q.2; rw [nIle (by omega) (by omega)] at this; omega)]
