-- ===== the constructors: a crossing, a world =====
def ZER (g : GG) (a : Nat) : Prop := ∀ i, g a i = 0
theorem flA_z {g : GG} {a k b : Nat} (h : ZER g b) : ZER (flA g a k (nI 0)) b := fun i => by
  unfold flA
  split
  · rfl
  · exact h i
def MADE (g : GG) (X : Nat) : Prop := g X 0 = nI 4 ∧ ZER g (X + 1) ∧ (∀ i, i < 36 → g (X + 2) i = -1) ∧ ZER g (X + 3) ∧ ZER g (X + 4) ∧ ZER g (X + 5) ∧ ZER g (X + 6) ∧ ZER g (X + 7) ∧ ZER g (X + 8) ∧ ∀ i, i < 18 → g (X + 9) i = -1
theorem MADE.congr {g g' : GG} {X : Nat} (h : MADE g X) (he : ∀ a, X ≤ a → a ≤ X + 9 → g' a = g a) : MADE g' X := by
  obtain ⟨a0, a1, a2, a3, a4, a5, a6, a7, a8, a9⟩ := h
  exact ⟨by rw [he X (by omega) (by omega)]; exact a0, fun i => by rw [he _ (by omega) (by omega)]; exact a1 i, fun i hi => by rw [he _ (by omega) (by omega)]; exact a2 i hi, fun i => by rw [he _ (by omega) (by omega)]; exact a3 i, fun i => by rw [he _ (by omega) (by omega)]; exact a4 i, fun i => by rw [he _ (by omega) (by omega)]; exact a5 i, fun i => by rw [he _ (by omega) (by omega)]; exact a6 i, fun i => by rw [he _ (by omega) (by omega)]; exact a7 i, fun i => by rw [he _ (by omega) (by omega)]; exact a8 i, fun i hi => by rw [he _ (by omega) (by omega)]; exact a9 i hi⟩
theorem i_cross {X z : Nat} {g : GG} {H : List (Nat × Nat)} (hX : isX X) (hX9 : X + 10 ≤ 212) (hI : INV X g H) : CTR (X + 1) (X + 10) 249 g H z (f_X1_init [.ref X] (HQ (X + 1) z g H)) (fun g' H' => (∀ a, (a < X ∨ X + 9 < a) → g' a = g a) ∧ MADE g' X ∧ ∀ j, 1 ≤ j → j ≤ 9 → (X, j) ∈ H') := by
  obtain ⟨s0, s1, s2, s3, s4, s5, s6, s7, s8, s9, sR⟩ := hX
  have hI1 := hI.up (show X ≤ X + 1 by omega)
  have r1 : RR 17 175 X 1 = some (X + 1) := sR 17 175 1 (by omega) (by omega)
  have r2 : RR 17 175 X 2 = some (X + 2) := sR 17 175 2 (by omega) (by omega)
  have r3 : RR 17 175 X 3 = some (X + 3) := sR 17 175 3 (by omega) (by omega)
  have r4 : RR 17 175 X 4 = some (X + 4) := sR 17 175 4 (by omega) (by omega)
  have r5 : RR 17 175 X 5 = some (X + 5) := sR 17 175 5 (by omega) (by omega)
  have r6 : RR 17 175 X 6 = some (X + 6) := sR 17 175 6 (by omega) (by omega)
  have r7 : RR 17 175 X 7 = some (X + 7) := sR 17 175 7 (by omega) (by omega)
  have r8 : RR 17 175 X 8 = some (X + 8) := sR 17 175 8 (by omega) (by omega)
  have r9 : RR 17 175 X 9 = some (X + 9) := sR 17 175 9 (by omega) (by omega)
  have hz : ∀ a, X ≤ a → ZER g a := fun a ha i => hI.2 a i ha
  -- the run of makeNew
  have mk : ∀ z : Nat, f_X1_makeNew [.ref X, .int (nI 4)] (HQ (X + 10) z g ((X, 9) :: (X, 8) :: (X, 7) :: (X, 6) :: (X, 5) :: (X, 4) :: (X, 3) :: (X, 2) :: (X, 1) :: H)) = some (none, HQ (X + 10) z (flA (flA (flA (flA (flA (flA (flA (upd2 g X 0 (nI 4)) (X + 1) 30 (nI 0)) (X + 2) 36 (-1)) (X + 4) 6 (nI 0)) (X + 6) 6 (nI 0)) (X + 7) 18 (nI 0)) (X + 8) 3 (nI 0)) (X + 9) 18 (-1)) ((X, 9) :: (X, 8) :: (X, 7) :: (X, 6) :: (X, 5) :: (X, 4) :: (X, 3) :: (X, 2) :: (X, 1) :: H)) := by
    intro z
    have f1 := fun (g : GG) (H : List (Nat × Nat)) (v : Int32) => Q_fill (n := X + 10) (z := z) (g := g) (H := H) (v := v) (by omega) s1 (by decide)
    have f2 := fun (g : GG) (H : List (Nat × Nat)) (v : Int32) => Q_fill (n := X + 10) (z := z) (g := g) (H := H) (v := v) (by omega) s2 (by decide)
    have f4 := fun (g : GG) (H : List (Nat × Nat)) (v : Int32) => Q_fill (n := X + 10) (z := z) (g := g) (H := H) (v := v) (by omega) s4 (by decide)
    have f6 := fun (g : GG) (H : List (Nat × Nat)) (v : Int32) => Q_fill (n := X + 10) (z := z) (g := g) (H := H) (v := v) (by omega) s6 (by decide)
    have f7 := fun (g : GG) (H : List (Nat × Nat)) (v : Int32) => Q_fill (n := X + 10) (z := z) (g := g) (H := H) (v := v) (by omega) s7 (by decide)
    have f8 := fun (g : GG) (H : List (Nat × Nat)) (v : Int32) => Q_fill (n := X + 10) (z := z) (g := g) (H := H) (v := v) (by omega) s8 (by decide)
    have f9 := fun (g : GG) (H : List (Nat × Nat)) (v : Int32) => Q_fill (n := X + 10) (z := z) (g := g) (H := H) (v := v) (by omega) s9 (by decide)
    have m1 : (X, 1) ∈ ((X, 9) :: (X, 8) :: (X, 7) :: (X, 6) :: (X, 5) :: (X, 4) :: (X, 3) :: (X, 2) :: (X, 1) :: H) := by simp
    have m2 : (X, 2) ∈ ((X, 9) :: (X, 8) :: (X, 7) :: (X, 6) :: (X, 5) :: (X, 4) :: (X, 3) :: (X, 2) :: (X, 1) :: H) := by simp
    have m4 : (X, 4) ∈ ((X, 9) :: (X, 8) :: (X, 7) :: (X, 6) :: (X, 5) :: (X, 4) :: (X, 3) :: (X, 2) :: (X, 1) :: H) := by simp
    have m6 : (X, 6) ∈ ((X, 9) :: (X, 8) :: (X, 7) :: (X, 6) :: (X, 5) :: (X, 4) :: (X, 3) :: (X, 2) :: (X, 1) :: H) := by simp
    have m7 : (X, 7) ∈ ((X, 9) :: (X, 8) :: (X, 7) :: (X, 6) :: (X, 5) :: (X, 4) :: (X, 3) :: (X, 2) :: (X, 1) :: H) := by simp
    have m8 : (X, 8) ∈ ((X, 9) :: (X, 8) :: (X, 7) :: (X, 6) :: (X, 5) :: (X, 4) :: (X, 3) :: (X, 2) :: (X, 1) :: H) := by simp
    have m9 : (X, 9) ∈ ((X, 9) :: (X, 8) :: (X, 7) :: (X, 6) :: (X, 5) :: (X, 4) :: (X, 3) :: (X, 2) :: (X, 1) :: H) := by simp
    simp (disch := first | assumption | omega) only [f_X1_makeNew, kb_X1_makeNew_0, KL, KB, KC, KI, KJ, KZ, bI_0, bI_n, nI00, nI10, ne_eq, Classical.not_not, not_true_eq_false, not_false_eq_true, if_true, if_false, ite_not, ite_self, Bool.false_eq_true, nIne1, Q_pi, Q_gr (n := X + 10) (a := X) (b := X + 1) (kx := 1), Q_gr (n := X + 10) (a := X) (b := X + 2) (kx := 2), Q_gr (n := X + 10) (a := X) (b := X + 4) (kx := 4), Q_gr (n := X + 10) (a := X) (b := X + 6) (kx := 6), Q_gr (n := X + 10) (a := X) (b := X + 7) (kx := 7), Q_gr (n := X + 10) (a := X) (b := X + 8) (kx := 8), Q_gr (n := X + 10) (a := X) (b := X + 9) (kx := 9), f1, f2, f4, f6, f7, f8, f9]
  have hin : ∀ j, 1 ≤ j → j ≤ 9 → (X, j) ∈ ((X, 9) :: (X, 8) :: (X, 7) :: (X, 6) :: (X, 5) :: (X, 4) :: (X, 3) :: (X, 2) :: (X, 1) :: H) := fun j h1 h2 => by
    rcases (by omega : j = 1 ∨ j = 2 ∨ j = 3 ∨ j = 4 ∨ j = 5 ∨ j = 6 ∨ j = 7 ∨ j = 8 ∨ j = 9) with rfl | rfl | rfl | rfl | rfl | rfl | rfl | rfl | rfl <;> simp
  refine ⟨(flA (flA (flA (flA (flA (flA (flA (upd2 g X 0 (nI 4)) (X + 1) 30 (nI 0)) (X + 2) 36 (-1)) (X + 4) 6 (nI 0)) (X + 6) 6 (nI 0)) (X + 7) 18 (nI 0)) (X + 8) 3 (nI 0)) (X + 9) 18 (-1)), ((X, 9) :: (X, 8) :: (X, 7) :: (X, 6) :: (X, 5) :: (X, 4) :: (X, 3) :: (X, 2) :: (X, 1) :: H), ?_, ?_, fun x hx => ?_, fun a ha => ?_, ?_, hin⟩
  · have := mk (z + 30 + 36 + 12 + 6 + 120 + 6 + 18 + 3 + 18)
    simp (disch := first | assumption | omega | (repeat first | assumption | omega | apply INV.pi | apply INV.pr | (refine INV.up (by assumption) ?_))) only [f_X1_init, kb_X1_init_0, KL, KB, KC, KI, KJ, KZ, bI_0, bI_n, nI00, nI10, ne_eq, Classical.not_not, not_true_eq_false, not_false_eq_true, if_true, if_false, ite_not, ite_self, Bool.false_eq_true, nIne1, Q_obj, Q_pi, Q_newA, Q_pr, Q_rc1, Nat.add_assoc, Nat.reduceAdd] at this ⊢
    rw [this]
    rfl
  · refine hI.of (by omega) (fun a ha => ?_) (fun q hq => ?_)
    · rw [flA_ne (by omega), flA_ne (by omega), flA_ne (by omega), flA_ne (by omega), flA_ne (by omega), flA_ne (by omega), flA_ne (by omega), uN (by omega)]
    · simp only [List.mem_cons] at hq
      rcases hq with h | h | h | h | h | h | h | h | h | h
      · right; rw [h]; show X < X + 10; omega
      · right; rw [h]; show X < X + 10; omega
      · right; rw [h]; show X < X + 10; omega
      · right; rw [h]; show X < X + 10; omega
      · right; rw [h]; show X < X + 10; omega
      · right; rw [h]; show X < X + 10; omega
      · right; rw [h]; show X < X + 10; omega
      · right; rw [h]; show X < X + 10; omega
      · right; rw [h]; show X < X + 10; omega
      · left; exact h
  · simp only [List.mem_cons]
    simp only [hx, or_true]
  · rw [flA_ne (by omega), flA_ne (by omega), flA_ne (by omega), flA_ne (by omega), flA_ne (by omega), flA_ne (by omega), flA_ne (by omega), uN (by omega)]
  · have zb : ∀ a, X < a → ZER (upd2 g X 0 (nI 4)) a := fun a ha i => by rw [uN (by omega)]; exact hz a (by omega) i
    refine ⟨?_, fun i => ?_, fun i hi => ?_, fun i => ?_, fun i => ?_, fun i => ?_, fun i => ?_, fun i => ?_, fun i => ?_, fun i hi => flA_in hi⟩
    · rw [flA_ne (by omega), flA_ne (by omega), flA_ne (by omega), flA_ne (by omega), flA_ne (by omega), flA_ne (by omega), flA_ne (by omega)]; exact uS
    · rw [flA_ne (by omega), flA_ne (by omega), flA_ne (by omega), flA_ne (by omega), flA_ne (by omega), flA_ne (by omega)]; exact flA_z (zb _ (by omega)) i
    · rw [flA_ne (by omega), flA_ne (by omega), flA_ne (by omega), flA_ne (by omega), flA_ne (by omega)]; exact flA_in hi
    · rw [flA_ne (by omega), flA_ne (by omega), flA_ne (by omega), flA_ne (by omega), flA_ne (by omega), flA_ne (by omega), flA_ne (by omega)]; exact zb _ (by omega) i
    · rw [flA_ne (by omega), flA_ne (by omega), flA_ne (by omega), flA_ne (by omega)]; exact flA_z (fun i => by rw [flA_ne (by omega), flA_ne (by omega)]; exact zb _ (by omega) i) i
    · rw [flA_ne (by omega), flA_ne (by omega), flA_ne (by omega), flA_ne (by omega), flA_ne (by omega), flA_ne (by omega), flA_ne (by omega)]; exact zb _ (by omega) i
    · rw [flA_ne (by omega), flA_ne (by omega), flA_ne (by omega)]; exact flA_z (fun i => by rw [flA_ne (by omega), flA_ne (by omega), flA_ne (by omega)]; exact zb _ (by omega) i) i
    · rw [flA_ne (by omega), flA_ne (by omega)]; exact flA_z (fun i => by rw [flA_ne (by omega), flA_ne (by omega), flA_ne (by omega), flA_ne (by omega)]; exact zb _ (by omega) i) i
    · rw [flA_ne (by omega)]; exact flA_z (fun i => by rw [flA_ne (by omega), flA_ne (by omega), flA_ne (by omega), flA_ne (by omega), flA_ne (by omega)]; exact zb _ (by omega) i) i
/-- the world at b + 1 -/
def isW (b : Nat) : Prop := SH (b + 1) = (49, 4) ∧ SH (b + 2) = (1, 2) ∧ SH (b + 3) = (3, 4) ∧ SH (b + 4) = (4, 6) ∧ RR 17 175 (b + 1) 1 = some (b + 2) ∧ RR 17 175 (b + 1) 2 = some (b + 3) ∧ RR 17 175 (b + 1) 3 = some (b + 4) ∧ (∀ k, k < 4 → isR (b + 5 + 3 * k) ∧ RR 17 175 (b + 3) k = some (b + 5 + 3 * k)) ∧ ∀ c, c < 6 → isX (b + 17 + 10 * c) ∧ RR 17 175 (b + 4) c = some (b + 17 + 10 * c)
theorem isW_0 : isW 0 := ⟨rfl, rfl, rfl, rfl, rfl, rfl, rfl, fun k hk => ⟨by have := isR_live k hk; rwa [Nat.zero_add], by
  match k, hk with
  | 0, _ => rfl
  | 1, _ => rfl
  | 2, _ => rfl
  | 3, _ => rfl⟩, fun c hc => ⟨by have := isX_live c hc; rwa [Nat.zero_add], by
  match c, hc with
  | 0, _ => rfl
  | 1, _ => rfl
  | 2, _ => rfl
  | 3, _ => rfl
  | 4, _ => rfl
  | 5, _ => rfl⟩⟩
theorem isW_85 : isW 81 := ⟨rfl, rfl, rfl, rfl, rfl, rfl, rfl, fun k hk => ⟨isR_kept k hk, by
  match k, hk with
  | 0, _ => rfl
  | 1, _ => rfl
  | 2, _ => rfl
  | 3, _ => rfl⟩, fun c hc => ⟨isX_kept c hc, by
  match c, hc with
  | 0, _ => rfl
  | 1, _ => rfl
  | 2, _ => rfl
  | 3, _ => rfl
  | 4, _ => rfl
  | 5, _ => rfl⟩⟩
def RULE0 (g : GG) (q : Nat) : Prop := ZER g q ∧ ZER g (q + 1) ∧ ZER g (q + 2)
theorem i_world {b z : Nat} {g : GG} {H : List (Nat × Nat)} (hW : isW b) (hb : b + 77 ≤ 212) (hI : INV (b + 1) g H) : CTR (b + 2) (b + 77) 3254 g H z (f_X9_init [.ref (b + 1)] (HQ (b + 2) z g H)) (fun g' H' => (∀ a, (a < b + 1 ∨ b + 76 < a) → g' a = g a) ∧ ZER g' (b + 1) ∧ g' (b + 2) 0 = nI 0 ∧ g' (b + 2) 1 = nI 1 ∧ (∀ k, k < 4 → RULE0 g' (b + 5 + 3 * k)) ∧ (∀ c, c < 6 → MADE g' (b + 17 + 10 * c)) ∧ (∀ j, 1 ≤ j → j ≤ 3 → (b + 1, j) ∈ H') ∧ (∀ k, k < 4 → (b + 3, k) ∈ H' ∧ ∀ j, 3 ≤ j → j ≤ 4 → (b + 5 + 3 * k, j) ∈ H') ∧ ∀ c, c < 6 → (b + 4, c) ∈ H' ∧ ∀ j, 1 ≤ j → j ≤ 9 → (b + 17 + 10 * c, j) ∈ H') := by
  obtain ⟨s1, s2, s3, s4, r1, r2, r3, hr, hx⟩ := hW
  generalize hg1 : upd2 (upd2 (upd2 g (b + 1) 0 (nI 0)) (b + 2) 0 (nI 0)) (b + 2) 1 (nI 1) = g1
  generalize hH1 : ((b + 1, 3) :: (b + 1, 2) :: (b + 1, 1) :: H) = H1
  have in1 : ∀ j, 1 ≤ j → j ≤ 3 → (b + 1, j) ∈ H1 := fun j h1 h2 => by
    rw [← hH1]
    rcases (by omega : j = 1 ∨ j = 2 ∨ j = 3) with rfl | rfl | rfl <;> simp
  have hI1 : INV (b + 5) g1 H1 := hI.of (by omega) (fun a ha => by rw [← hg1, uN (by omega), uN (by omega), uN (by omega)]) (fun q hq => by
    rw [← hH1] at hq
    simp only [List.mem_cons] at hq
    rcases hq with h | h | h | h
    · right; rw [h]; show b + 1 < b + 5; omega
    · right; rw [h]; show b + 1 < b + 5; omega
    · right; rw [h]; show b + 1 < b + 5; omega
    · left; exact h)
  have fr1 : ∀ a, (a < b + 1 ∨ b + 2 < a) → g1 a = g a := fun a ha => by rw [← hg1, uN (by omega), uN (by omega), uN (by omega)]
  have z1 : ZER g1 (b + 1) := fun i => by
    rw [← hg1, uN (by omega), uN (by omega)]
    by_cases q : i = 0
    · rw [q]; exact uS
    · rw [uO (Or.inr q)]; exact hI.2 _ _ (Nat.le_refl _)
  have l0 : g1 (b + 2) 0 = nI 0 := by rw [← hg1, uO (Or.inr (by omega))]; exact uS
  have l1 : g1 (b + 2) 1 = nI 1 := by rw [← hg1]; exact uS
  -- the crossings' loop
  have cross : ∀ (g2 : GG) (H2 : List (Nat × Nat)) (z2 : Nat), INV (b + 17) g2 H2 → (∀ j, 1 ≤ j → j ≤ 3 → (b + 1, j) ∈ H2) → ∃ (g3 : GG) (H3 : List (Nat × Nat)), kl_X9_init_69 [.ref (b + 1), .int (nI 0)] [] (HQ (b + 17) z2 g2 H2) = some (none, HQ (b + 77) (z2 + 1554) g3 H3) ∧ INV (b + 77) g3 H3 ∧ (∀ q, q ∈ H2 → q ∈ H3) ∧ (∀ a, (a < b + 17 ∨ b + 76 < a) → g3 a = g2 a) ∧ (∀ c, c < 6 → MADE g3 (b + 17 + 10 * c)) ∧ ∀ c, c < 6 → (b + 4, c) ∈ H3 ∧ ∀ j, 1 ≤ j → j ≤ 9 → (b + 17 + 10 * c, j) ∈ H3 := by
    intro g2 H2 z2 hI2 in2
    unfold kl_X9_init_69
    refine kFor 6 (by unfold FU; omega) (fun i ls h => ∃ (g3 : GG) (H3 : List (Nat × Nat)), ls = [.ref (b + 1), .int (nI i)] ∧ h = HQ (b + 17 + 10 * i) (z2 + 259 * i) g3 H3 ∧ INV (b + 17 + 10 * i) g3 H3 ∧ (∀ q, q ∈ H2 → q ∈ H3) ∧ (∀ a, (a < b + 17 ∨ b + 76 < a) → g3 a = g2 a) ∧ (∀ c, c < i → MADE g3 (b + 17 + 10 * c)) ∧ ∀ c, c < i → (b + 4, c) ∈ H3 ∧ ∀ j, 1 ≤ j → j ≤ 9 → (b + 17 + 10 * c, j) ∈ H3) (fun r => ∃ (g3 : GG) (H3 : List (Nat × Nat)), r = some (none, HQ (b + 77) (z2 + 1554) g3 H3) ∧ INV (b + 77) g3 H3 ∧ (∀ q, q ∈ H2 → q ∈ H3) ∧ (∀ a, (a < b + 17 ∨ b + 76 < a) → g3 a = g2 a) ∧ (∀ c, c < 6 → MADE g3 (b + 17 + 10 * c)) ∧ ∀ c, c < 6 → (b + 4, c) ∈ H3 ∧ ∀ j, 1 ≤ j → j ≤ 9 → (b + 17 + 10 * c, j) ∈ H3) ?_ ?_ 0 _ _ (by omega) ⟨g2, H2, rfl, rfl, hI2, fun q hq => hq, fun _ _ => rfl, fun c hc => absurd hc (Nat.not_lt_zero _), fun c hc => absurd hc (Nat.not_lt_zero _)⟩
    · rintro s0 ls h ⟨g3, H3, rfl, rfl, w1, w2, w3, w4, w5⟩
      have hin : (6 ≤ 6) = True := eq_true (by omega)
      simp (disch := first | assumption | omega) only [KL, KB, KC, KI, KJ, KZ, bI_0, bI_n, nI00, nI10, ne_eq, Classical.not_not, not_true_eq_false, not_false_eq_true, if_true, if_false, ite_not, ite_self, Bool.false_eq_true, nIne1, kMask, mask, mask_n, nIle, hin]
      exact ⟨g3, H3, rfl, w1, w2, w3, w4, w5⟩
    · rintro s0 i hi ih ls h ⟨g3, H3, rfl, rfl, w1, w2, w3, w4, w5⟩
      have hin : (6 ≤ i) = False := eq_false (by omega)
      obtain ⟨hX, hrx⟩ := hx i hi
      obtain ⟨g4, H4, e4, v1, v2, v3, v4, v5⟩ := i_cross (z := z2 + 259 * i + 10) hX (by omega) w1
      have m3 := w2 _ (in2 3 (by omega) (by omega))
      have gr := fun (k : KK) (ls st : List Value) => Q_gr (n := b + 17 + 10 * i) (z := z2 + 259 * i) (g := g3) (ci := 9) (N := 4) (by omega) s1 m3 r3 k ls st
      have nw := fun (k : KK) (ls st : List Value) => Q_new (z := z2 + 259 * i) (ci := 1) (N := 10) w1 (show b + 17 + 10 * i < 212 by omega) hX.1 k ls st
      have as := fun (k : KK) (ls st : List Value) => Q_aas (n := b + 17 + 10 * i + 10) (z := z2 + 259 * i + 10 + 249) (g := g4) (H := H4) (t := 3) (ci := 1) (nc := 10) (a := b + 4) (i := i) (show b + 4 < b + 17 + 10 * i + 10 by omega) (show b + 17 + 10 * i < b + 17 + 10 * i + 10 by omega) s4 hX.1 (by decide) hi hrx k ls st
      simp (disch := first | assumption | omega) only [KL, KB, KC, KI, KJ, KZ, bI_0, bI_n, nI00, nI10, ne_eq, Classical.not_not, not_true_eq_false, not_false_eq_true, if_true, if_false, ite_not, ite_self, Bool.false_eq_true, nIne1, kMask, mask, mask_n, nIle, hin, gr, nw, Q_ref0, e4, as, nI_add]
      refine ih _ _ ⟨g4, (b + 4, i) :: H4, rfl, ?_, ?_, fun q hq => List.mem_cons_of_mem _ (v2 q (w2 q hq)), fun a ha => by rw [v3 a (by omega)]; exact w3 a ha, fun c hc => ?_, fun c hc => ?_⟩
      · rw [show b + 17 + 10 * i + 10 = b + 17 + 10 * (i + 1) by omega, show z2 + 259 * i + 10 + 249 = z2 + 259 * (i + 1) by omega]
      · rw [show b + 17 + 10 * (i + 1) = b + 17 + 10 * i + 10 by omega]
        exact v1.pr (by omega)
      · by_cases e : c = i
        · rw [e]; exact v4
        · exact (w4 c (by omega)).congr (fun a h1 h2 => v3 a (by omega))
      · by_cases e : c = i
        · rw [e]; exact ⟨List.mem_cons_self, fun j h1 h2 => List.mem_cons_of_mem _ (v5 j h1 h2)⟩
        · obtain ⟨x1, x2⟩ := w5 c (by omega)
          exact ⟨List.mem_cons_of_mem _ (v2 _ x1), fun j h1 h2 => List.mem_cons_of_mem _ (v2 _ (x2 j h1 h2))⟩
  -- the rules' loop, then the crossings
  have rules : ∀ z1 : Nat, ∃ (g3 : GG) (H3 : List (Nat × Nat)), kl_X9_init_43 [.ref (b + 1), .int (nI 0)] [] (HQ (b + 5) z1 g1 H1) = some (none, HQ (b + 77) (z1 + 4 * 422 + 1554) g3 H3) ∧ INV (b + 77) g3 H3 ∧ (∀ q, q ∈ H1 → q ∈ H3) ∧ (∀ a, (a < b + 5 ∨ b + 76 < a) → g3 a = g1 a) ∧ (∀ k, k < 4 → RULE0 g3 (b + 5 + 3 * k)) ∧ (∀ c, c < 6 → MADE g3 (b + 17 + 10 * c)) ∧ (∀ k, k < 4 → (b + 3, k) ∈ H3 ∧ ∀ j, 3 ≤ j → j ≤ 4 → (b + 5 + 3 * k, j) ∈ H3) ∧ ∀ c, c < 6 → (b + 4, c) ∈ H3 ∧ ∀ j, 1 ≤ j → j ≤ 9 → (b + 17 + 10 * c, j) ∈ H3 := by
    intro z1
    unfold kl_X9_init_43
    refine kFor 4 (by unfold FU; omega) (fun i ls h => ∃ (g3 : GG) (H3 : List (Nat × Nat)), ls = [.ref (b + 1), .int (nI i)] ∧ h = HQ (b + 5 + 3 * i) (z1 + 422 * i) g3 H3 ∧ INV (b + 5 + 3 * i) g3 H3 ∧ (∀ q, q ∈ H1 → q ∈ H3) ∧ (∀ a, (a < b + 5 ∨ b + 16 < a) → g3 a = g1 a) ∧ (∀ k, k < i → RULE0 g3 (b + 5 + 3 * k)) ∧ ∀ k, k < i → (b + 3, k) ∈ H3 ∧ ∀ j, 3 ≤ j → j ≤ 4 → (b + 5 + 3 * k, j) ∈ H3) (fun r => ∃ (g3 : GG) (H3 : List (Nat × Nat)), r = some (none, HQ (b + 77) (z1 + 4 * 422 + 1554) g3 H3) ∧ INV (b + 77) g3 H3 ∧ (∀ q, q ∈ H1 → q ∈ H3) ∧ (∀ a, (a < b + 5 ∨ b + 76 < a) → g3 a = g1 a) ∧ (∀ k, k < 4 → RULE0 g3 (b + 5 + 3 * k)) ∧ (∀ c, c < 6 → MADE g3 (b + 17 + 10 * c)) ∧ (∀ k, k < 4 → (b + 3, k) ∈ H3 ∧ ∀ j, 3 ≤ j → j ≤ 4 → (b + 5 + 3 * k, j) ∈ H3) ∧ ∀ c, c < 6 → (b + 4, c) ∈ H3 ∧ ∀ j, 1 ≤ j → j ≤ 9 → (b + 17 + 10 * c, j) ∈ H3) ?_ ?_ 0 _ _ (by omega) ⟨g1, H1, rfl, rfl, hI1, fun q hq => hq, fun _ _ => rfl, fun c hc => absurd hc (Nat.not_lt_zero _), fun c hc => absurd hc (Nat.not_lt_zero _)⟩
    · rintro s0 ls h ⟨g3, H3, rfl, rfl, w1, w2, w3, w4, w5⟩
      have hin : (4 ≤ 4) = True := eq_true (by omega)
      rw [show b + 5 + 3 * 4 = b + 17 by omega] at w1 ⊢
      obtain ⟨g4, H4, e4, v1, v2, v3, v4, v5⟩ := cross g3 H3 (z1 + 422 * 4) w1 (fun j h1 h2 => w2 _ (in1 j h1 h2))
      rw [show z1 + 422 * 4 + 1554 = z1 + 4 * 422 + 1554 by omega] at e4
      simp (disch := first | assumption | omega) only [KL, KB, KC, KI, KJ, KZ, bI_0, bI_n, nI00, nI10, ne_eq, Classical.not_not, not_true_eq_false, not_false_eq_true, if_true, if_false, ite_not, ite_self, Bool.false_eq_true, nIne1, kMask, mask, mask_n, nIle, hin]
      refine ⟨g4, H4, e4, v1, fun q hq => v2 q (w2 q hq), fun a ha => by rw [v3 a (by omega)]; exact w3 a (by omega), fun k hk => ?_, v4, fun k hk => ?_, v5⟩
      · obtain ⟨x1, x2, x3⟩ := w4 k hk
        exact ⟨fun i => by rw [v3 _ (by omega)]; exact x1 i, fun i => by rw [v3 _ (by omega)]; exact x2 i, fun i => by rw [v3 _ (by omega)]; exact x3 i⟩
      · obtain ⟨x1, x2⟩ := w5 k hk
        exact ⟨v2 _ x1, fun j h1 h2 => v2 _ (x2 j h1 h2)⟩
    · rintro s0 i hi ih ls h ⟨g3, H3, rfl, rfl, w1, w2, w3, w4, w5⟩
      have hin : (4 ≤ i) = False := eq_false (by omega)
      obtain ⟨hRk, hrx⟩ := hr i hi
      obtain ⟨g4, H4, e4, v1, v2, v3, v4, v5⟩ := i_rule (q := b + 5 + 3 * i) (z := z1 + 422 * i + 5) hRk (by omega) (w1.up (by omega))
      have m3 := w2 _ (in1 2 (by omega) (by omega))
      have gr := fun (k : KK) (ls st : List Value) => Q_gr (n := b + 5 + 3 * i) (z := z1 + 422 * i) (g := g3) (ci := 9) (N := 4) (by omega) s1 m3 r2 k ls st
      have nw := fun (k : KK) (ls st : List Value) => Q_new (z := z1 + 422 * i) (ci := 7) (N := 5) w1 (show b + 5 + 3 * i < 212 by omega) hRk.1 k ls st
      have as := fun (k : KK) (ls st : List Value) => Q_aas (n := b + 5 + 3 * i + 3) (z := z1 + 422 * i + 5 + 417) (g := g4) (H := H4) (t := 2) (ci := 7) (nc := 5) (a := b + 3) (i := i) (show b + 3 < b + 5 + 3 * i + 3 by omega) (show b + 5 + 3 * i < b + 5 + 3 * i + 3 by omega) s3 hRk.1 (by decide) hi hrx k ls st
      simp (disch := first | assumption | omega) only [KL, KB, KC, KI, KJ, KZ, bI_0, bI_n, nI00, nI10, ne_eq, Classical.not_not, not_true_eq_false, not_false_eq_true, if_true, if_false, ite_not, ite_self, Bool.false_eq_true, nIne1, kMask, mask, mask_n, nIle, hin, gr, nw, Q_ref0, e4, as, nI_add]
      refine ih _ _ ⟨g4, (b + 3, i) :: H4, rfl, ?_, ?_, fun q hq => List.mem_cons_of_mem _ (v2 q (w2 q hq)), fun a ha => by rw [v3 a (by omega)]; exact w3 a ha, fun c hc => ?_, fun c hc => ?_⟩
      · rw [show b + 5 + 3 * i + 3 = b + 5 + 3 * (i + 1) by omega, show z1 + 422 * i + 5 + 417 = z1 + 422 * (i + 1) by omega]
      · rw [show b + 5 + 3 * (i + 1) = b + 5 + 3 * i + 3 by omega]
        exact v1.pr (by omega)
      · by_cases e : c = i
        · rw [e]
          exact ⟨fun j => v4 j (w1.2 _ _ (Nat.le_refl _)), fun j => by rw [v3 _ (by omega)]; exact w1.2 _ _ (by omega), fun j => by rw [v3 _ (by omega)]; exact w1.2 _ _ (by omega)⟩
        · obtain ⟨x1, x2, x3⟩ := w4 c (by omega)
          exact ⟨fun i => by rw [v3 _ (by omega)]; exact x1 i, fun i => by rw [v3 _ (by omega)]; exact x2 i, fun i => by rw [v3 _ (by omega)]; exact x3 i⟩
      · by_cases e : c = i
        · rw [e]; exact ⟨List.mem_cons_self, fun j h1 h2 => List.mem_cons_of_mem _ (v5 j h1 h2)⟩
        · obtain ⟨x1, x2⟩ := w5 c (by omega)
          exact ⟨List.mem_cons_of_mem _ (v2 _ x1), fun j h1 h2 => List.mem_cons_of_mem _ (v2 _ (x2 j h1 h2))⟩
  obtain ⟨g3, H3, e3, w1, w2, w3, w4, w5, w6, w7⟩ := rules (z + 2 + 4 + 6)
  refine ⟨g3, H3, ?_, w1, fun q hq => w2 q (by rw [← hH1]; simp only [List.mem_cons]; simp only [hq, or_true]), fun a ha => by rw [w3 a (by omega)]; exact fr1 a (by omega), fun i => by rw [w3 _ (by omega)]; exact z1 i, by rw [w3 _ (by omega)]; exact l0, by rw [w3 _ (by omega)]; exact l1, w4, w5, fun j h1 h2 => w2 _ (in1 j h1 h2), w6, w7⟩
  have ez : z + 2 + 4 + 6 + 4 * 422 + 1554 = z + 3254 := by omega
  rw [ez] at e3
  have hI2 := hI.up (show b + 1 ≤ b + 2 by omega)
  simp (disch := first | assumption | omega | (repeat first | assumption | omega | apply INV.pi | apply INV.pr | (refine INV.up (by assumption) ?_))) only [f_X9_init, kb_X9_init_0, KL, KB, KC, KI, KJ, KZ, bI_0, bI_n, nI00, nI10, ne_eq, Classical.not_not, not_true_eq_false, not_false_eq_true, if_true, if_false, ite_not, ite_self, Bool.false_eq_true, nIne1, Q_obj, Q_pi, Q_newA, Q_pr, Q_ias (a := b + 2) (N := 2)]
  rw [hg1]
  subst hH1
  exact e3
