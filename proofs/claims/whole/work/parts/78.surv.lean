-- ===== the class's survey =====
/-- the digits of a number -/
noncomputable def dgN (n : Nat) (co : Nat → List Goods) (nu : Nat) : Nat → Nat := @dite (Nat → Nat) (∃ d, DG n co d ∧ hv co d n = nu) (Classical.propDecidable _) (fun h => h.choose) (fun _ _ => 0)
theorem dgN_eq {n : Nat} {co : Nat → List Goods} {d : Nat → Nat} {nu : Nat} (hd : DG n co d) (h : hv co d n = nu) : d = dgN n co nu := by
  have hex : ∃ d, DG n co d ∧ hv co d n = nu := ⟨d, hd, h⟩
  unfold dgN
  rw [dif_pos hex]
  exact DG.eq hd hex.choose_spec.1 (h.trans hex.choose_spec.2.symm)
/-- how many carts a state has -/
def cD (n : Nat) (d : Nat → Nat) : Nat := cntN (fun r => decide (0 < d r)) n
theorem pop_slD : ∀ (m : Nat) (d : Nat → Nat), (∀ r, d r ≤ 2) → cntN (fun x => decide (d (x / 2) = x % 2 + 1)) (2 * m) = cntN (fun r => decide (0 < d r)) m := by
  intro m d hd
  induction m with
  | zero => rfl
  | succ m ih =>
    show cntN (fun x => decide (d (x / 2) = x % 2 + 1)) (2 * m) + (if decide (d ((2 * m) / 2) = (2 * m) % 2 + 1) = true then 1 else 0) + (if decide (d ((2 * m + 1) / 2) = (2 * m + 1) % 2 + 1) = true then 1 else 0) = cntN (fun r => decide (0 < d r)) m + (if decide (0 < d m) = true then 1 else 0)
    rw [ih, show (2 * m) / 2 = m by omega, show (2 * m) % 2 = 0 by omega, show (2 * m + 1) / 2 = m by omega, show (2 * m + 1) % 2 = 1 by omega]
    have h := hd m
    have h3 : d m = 0 ∨ d m = 1 ∨ d m = 2 := by omega
    rcases h3 with h | h | h <;> simp [h]
theorem popN_slD {n : Nat} {co : Nat → List Goods} {d : Nat → Nat} (n6 : n ≤ 6) (hlen : ∀ r, (co r).length ≤ 2) (hd : DG n co d) : popN (slD d) = cD n d := by
  have h2 : ∀ r, d r ≤ 2 := fun r => Nat.le_trans (hd.1 r) (hlen r)
  have h1 : popN (slD d) = cntN (fun x => decide (d (x / 2) = x % 2 + 1)) (2 * 6) := by
    unfold popN
    exact cntN_congr 12 (fun i hi => slD_bit d hi)
  rw [h1, pop_slD 6 d h2]
  unfold cD
  have := cntN_ext (p := fun r => decide (0 < d r)) (n := n) (6 - n) (fun i hi => by rw [hd.2 i hi]; rfl)
  rw [show n + (6 - n) = 6 by omega] at this
  exact this
theorem hv_zero {co : Nat → List Goods} : ∀ n, hv co (fun _ => 0) n = 0 := by
  intro n
  induction n with
  | zero => rfl
  | succ n ih => show hv co (fun _ => 0) n * _ + 0 = 0; rw [ih, Nat.zero_mul]
theorem slD_ne {n : Nat} {co : Nat → List Goods} {d : Nat → Nat} (n6 : n ≤ 6) (hlen : ∀ r, (co r).length ≤ 2) (hd : DG n co d) (h : hv co d n ≠ 0) : slD d ≠ 0 := by
  intro h0
  apply h
  have hz : ∀ q, q < n → d q = 0 := fun q hq => by
    apply Classical.byContradiction
    intro hne
    have h1 := hd.1 q
    have h2 := hlen q
    have hx : xD d q < 12 := by unfold xD; omega
    have := slD_bit d hx
    rw [h0, Nat.zero_testBit, show xD d q / 2 = q by unfold xD; omega, decide_eq_true (by unfold xD; omega)] at this
    cases this
  rw [hv_congr (d' := fun _ => 0) n hz, hv_zero]
/-- stuck, both, the least of each (number, order) -/
abbrev SVA : Type := Nat × Nat × Option (Nat × Nat) × Option (Nat × Nat)
noncomputable def updL (n : Nat) (co : Nat → List Goods) (nu k : Nat) : Option (Nat × Nat) → Option (Nat × Nat)
  | none => some (nu, k)
  | some q => if cD n (dgN n co nu) < cD n (dgN n co q.1) then some (nu, k) else some q
noncomputable def svStep (n : Nat) (co : Nat → List Goods) (V : Nat → Nat → Bool → Bool) (nu k : Nat) (A : SVA) : SVA :=
  if goS n (sD n (dgN n co nu)) (WD n k co V (dgN n co nu)) = 0 then (A.1 + 1, A.2.1, updL n co nu k A.2.2.1, A.2.2.2)
  else if ffJ n (goS n (sD n (dgN n co nu)) (WD n k co V (dgN n co nu))) (FD co (dgN n co nu)) ≠ -1 then (A.1, A.2.1 + 1, A.2.2.1, updL n co nu k A.2.2.2)
  else A
noncomputable def svOrd (n : Nat) (co : Nat → List Goods) (V : Nat → Nat → Bool → Bool) (nu : Nat) : Nat → SVA → SVA
  | 0, A => A
  | k + 1, A => svStep n co V nu k (svOrd n co V nu k A)
/-- after the numbers 1 .. i -/
noncomputable def svNum (n : Nat) (co : Nat → List Goods) (V : Nat → Nat → Bool → Bool) : Nat → SVA
  | 0 => (0, 0, none, none)
  | i + 1 => svOrd n co V (i + 1) (ordMany n) (svNum n co V i)
noncomputable def slO (n : Nat) (co : Nat → List Goods) : Option (Nat × Nat) → Nat
  | none => 0
  | some q => slD (dgN n co q.1)
/-- the class's cells for these -/
def SVC (n : Nat) (co : Nat → List Goods) (A : SVA) (g : GG) : Prop := g 164 12 = nI A.1 ∧ g 164 13 = nI A.2.1 ∧ g 164 14 = nI (slO n co A.2.2.1) ∧ (∀ q, A.2.2.1 = some q → g 164 15 = nI q.2 ∧ DG n co (dgN n co q.1) ∧ slD (dgN n co q.1) ≠ 0) ∧ g 164 16 = nI (slO n co A.2.2.2) ∧ (∀ q, A.2.2.2 = some q → g 164 17 = nI q.2 ∧ DG n co (dgN n co q.1) ∧ slD (dgN n co q.1) ≠ 0)
theorem c_noteStuck {n : Nat} {co : Nat → List Goods} {A : SVA} {g : GG} {m o : Nat} (n6 : n ≤ 6) (hlen : ∀ r, (co r).length ≤ 2) (h : SVC n co A g) (nu k : Nat) (hd : DG n co (dgN n co nu)) (hne : slD (dgN n co nu) ≠ 0) : ∃ g', f_X0_noteStuck [.ref 164, .int (nI (slD (dgN n co nu))), .int (nI k)] (hp g m o) = some (none, hp g' m o) ∧ (∀ a, a ≠ 164 → g' a = g a) ∧ (∀ i, i ≠ 12 → i ≠ 14 → i ≠ 15 → g' 164 i = g 164 i) ∧ SVC n co (A.1 + 1, A.2.1, updL n co nu k A.2.2.1, A.2.2.2) g' := by
  obtain ⟨h1, h2, h3, h4, h5, h6⟩ := h
  have hs12 : slD (dgN n co nu) < 4096 := setN_lt12 _
  have e14 : ∀ v : Int32, upd2 g 164 12 v 164 14 = nI (slO n co A.2.2.1) := fun v => by rw [uO (by omega)]; exact h3
  have hset : SVC n co (A.1 + 1, A.2.1, some (nu, k), A.2.2.2) (upd2 (upd2 (upd2 g 164 12 (nI (A.1 + 1))) 164 14 (nI (slD (dgN n co nu)))) 164 15 (nI k)) := by
    refine ⟨by rw [uO (by omega), uO (by omega), uS], by rw [uO (by omega), uO (by omega), uO (by omega)]; exact h2, by rw [uO (by omega), uS]; rfl, fun q hq => ?_, by rw [uO (by omega), uO (by omega), uO (by omega)]; exact h5, fun q hq => ?_⟩
    · cases hq
      exact ⟨uS, hd, hne⟩
    · rw [uO (by omega), uO (by omega), uO (by omega)]; exact h6 q hq
  cases hA : A.2.2.1 with
  | none =>
    rw [hA] at e14
    have hz : (nI (slO n co none) = 0) = True := eq_true rfl
    refine ⟨_, ?_, fun a ha => ?_, fun i a b c => ?_, hset⟩
    · simp (disch := first | assumption | omega) only [f_X0_noteStuck, kb_X0_noteStuck_41, kb_X0_noteStuck_31, kb_X0_noteStuck_0, KL, KB, KC, KI, KJ, KZ, bI_0, bI_n, nI00, nI10, ne_eq, Classical.not_not, not_true_eq_false, not_false_eq_true, if_true, if_false, ite_not, ite_self, Bool.false_eq_true, nIne1, O_co, h1, nI_add, e14, hz]
    · rw [uN ha, uN ha, uN ha]
    · rw [uO (Or.inr c), uO (Or.inr b), uO (Or.inr a)]
  | some q =>
    rw [hA] at e14 h4
    obtain ⟨k1, k2, k3⟩ := h4 q rfl
    have hq12 : slD (dgN n co q.1) < 4096 := setN_lt12 _
    have hz : (nI (slO n co (some q)) = 0) = False := by rw [nIk0 (by show slD (dgN n co q.1) < 2147483648; omega)]; exact eq_false k3
    have hbc1 := fun h => c_bitCount (slD (dgN n co nu)) hs12 h
    have hbc2 := fun h => c_bitCount (slD (dgN n co q.1)) hq12 h
    rw [popN_slD n6 hlen hd] at hbc1
    rw [popN_slD n6 hlen k2] at hbc2
    have b1 : cD n (dgN n co nu) ≤ n := cntN_le _ _
    have b2 : cD n (dgN n co q.1) ≤ n := cntN_le _ _
    have hso : slO n co (some q) = slD (dgN n co q.1) := rfl
    rw [hso] at hz
    by_cases hlt : cD n (dgN n co nu) < cD n (dgN n co q.1)
    · have hle : (cD n (dgN n co q.1) ≤ cD n (dgN n co nu)) = False := eq_false (by omega)
      have hu : updL n co nu k (some q) = some (nu, k) := if_pos hlt
      rw [hu]
      refine ⟨_, ?_, fun a ha => ?_, fun i a b c => ?_, hset⟩
      · simp (disch := first | assumption | omega) only [f_X0_noteStuck, kb_X0_noteStuck_41, kb_X0_noteStuck_31, kb_X0_noteStuck_0, KL, KB, KC, KI, KJ, KZ, bI_0, bI_n, nI00, nI10, ne_eq, Classical.not_not, not_true_eq_false, not_false_eq_true, if_true, if_false, ite_not, ite_self, Bool.false_eq_true, nIne1, O_co, h1, nI_add, e14, hso, hz, hbc1, hbc2, nIle, hle]
      · rw [uN ha, uN ha, uN ha]
      · rw [uO (Or.inr c), uO (Or.inr b), uO (Or.inr a)]
    · have hle : (cD n (dgN n co q.1) ≤ cD n (dgN n co nu)) = True := eq_true (by omega)
      have hu : updL n co nu k (some q) = some q := if_neg hlt
      rw [hu]
      refine ⟨upd2 g 164 12 (nI (A.1 + 1)), ?_, fun a ha => by rw [uN ha], fun i a b c => by rw [uO (Or.inr a)], uS, by rw [uO (by omega)]; exact h2, by rw [uO (by omega), h3, hA], fun q' hq' => ?_, by rw [uO (by omega)]; exact h5, fun q' hq' => by rw [uO (by omega)]; exact h6 q' hq'⟩
      · simp (disch := first | assumption | omega) only [f_X0_noteStuck, kb_X0_noteStuck_41, kb_X0_noteStuck_31, kb_X0_noteStuck_0, KL, KB, KC, KI, KJ, KZ, bI_0, bI_n, nI00, nI10, ne_eq, Classical.not_not, not_true_eq_false, not_false_eq_true, if_true, if_false, ite_not, ite_self, Bool.false_eq_true, nIne1, O_co, h1, nI_add, e14, hso, hz, hbc1, hbc2, nIle, hle]
      · rw [uO (by omega)]; exact h4 q' hq'
theorem c_noteBoth {n : Nat} {co : Nat → List Goods} {A : SVA} {g : GG} {m o : Nat} (n6 : n ≤ 6) (hlen : ∀ r, (co r).length ≤ 2) (h : SVC n co A g) (nu k : Nat) (hd : DG n co (dgN n co nu)) (hne : slD (dgN n co nu) ≠ 0) : ∃ g', f_X0_noteBoth [.ref 164, .int (nI (slD (dgN n co nu))), .int (nI k)] (hp g m o) = some (none, hp g' m o) ∧ (∀ a, a ≠ 164 → g' a = g a) ∧ (∀ i, i ≠ 13 → i ≠ 16 → i ≠ 17 → g' 164 i = g 164 i) ∧ SVC n co (A.1, A.2.1 + 1, A.2.2.1, updL n co nu k A.2.2.2) g' := by
  obtain ⟨h1, h2, h3, h4, h5, h6⟩ := h
  have hs12 : slD (dgN n co nu) < 4096 := setN_lt12 _
  have e14 : ∀ v : Int32, upd2 g 164 13 v 164 16 = nI (slO n co A.2.2.2) := fun v => by rw [uO (by omega)]; exact h5
  have hset : SVC n co (A.1, A.2.1 + 1, A.2.2.1, some (nu, k)) (upd2 (upd2 (upd2 g 164 13 (nI (A.2.1 + 1))) 164 16 (nI (slD (dgN n co nu)))) 164 17 (nI k)) := by
    refine ⟨by rw [uO (by omega), uO (by omega), uO (by omega)]; exact h1, by rw [uO (by omega), uO (by omega), uS], by rw [uO (by omega), uO (by omega), uO (by omega)]; exact h3, fun q hq => ?_, by rw [uO (by omega), uS]; rfl, fun q hq => ?_⟩
    · rw [uO (by omega), uO (by omega), uO (by omega)]; exact h4 q hq
    · cases hq
      exact ⟨uS, hd, hne⟩
  cases hA : A.2.2.2 with
  | none =>
    rw [hA] at e14
    have hz : (nI (slO n co none) = 0) = True := eq_true rfl
    refine ⟨_, ?_, fun a ha => ?_, fun i a b c => ?_, hset⟩
    · simp (disch := first | assumption | omega) only [f_X0_noteBoth, kb_X0_noteBoth_41, kb_X0_noteBoth_31, kb_X0_noteBoth_0, KL, KB, KC, KI, KJ, KZ, bI_0, bI_n, nI00, nI10, ne_eq, Classical.not_not, not_true_eq_false, not_false_eq_true, if_true, if_false, ite_not, ite_self, Bool.false_eq_true, nIne1, O_co, h2, nI_add, e14, hz]
    · rw [uN ha, uN ha, uN ha]
    · rw [uO (Or.inr c), uO (Or.inr b), uO (Or.inr a)]
  | some q =>
    rw [hA] at e14 h6
    obtain ⟨k1, k2, k3⟩ := h6 q rfl
    have hq12 : slD (dgN n co q.1) < 4096 := setN_lt12 _
    have hz : (nI (slO n co (some q)) = 0) = False := by rw [nIk0 (by show slD (dgN n co q.1) < 2147483648; omega)]; exact eq_false k3
    have hbc1 := fun h => c_bitCount (slD (dgN n co nu)) hs12 h
    have hbc2 := fun h => c_bitCount (slD (dgN n co q.1)) hq12 h
    rw [popN_slD n6 hlen hd] at hbc1
    rw [popN_slD n6 hlen k2] at hbc2
    have b1 : cD n (dgN n co nu) ≤ n := cntN_le _ _
    have b2 : cD n (dgN n co q.1) ≤ n := cntN_le _ _
    have hso : slO n co (some q) = slD (dgN n co q.1) := rfl
    rw [hso] at hz
    by_cases hlt : cD n (dgN n co nu) < cD n (dgN n co q.1)
    · have hle : (cD n (dgN n co q.1) ≤ cD n (dgN n co nu)) = False := eq_false (by omega)
      have hu : updL n co nu k (some q) = some (nu, k) := if_pos hlt
      rw [hu]
      refine ⟨_, ?_, fun a ha => ?_, fun i a b c => ?_, hset⟩
      · simp (disch := first | assumption | omega) only [f_X0_noteBoth, kb_X0_noteBoth_41, kb_X0_noteBoth_31, kb_X0_noteBoth_0, KL, KB, KC, KI, KJ, KZ, bI_0, bI_n, nI00, nI10, ne_eq, Classical.not_not, not_true_eq_false, not_false_eq_true, if_true, if_false, ite_not, ite_self, Bool.false_eq_true, nIne1, O_co, h2, nI_add, e14, hso, hz, hbc1, hbc2, nIle, hle]
      · rw [uN ha, uN ha, uN ha]
      · rw [uO (Or.inr c), uO (Or.inr b), uO (Or.inr a)]
    · have hle : (cD n (dgN n co q.1) ≤ cD n (dgN n co nu)) = True := eq_true (by omega)
      have hu : updL n co nu k (some q) = some q := if_neg hlt
      rw [hu]
      refine ⟨upd2 g 164 13 (nI (A.2.1 + 1)), ?_, fun a ha => by rw [uN ha], fun i a b c => by rw [uO (Or.inr a)], by rw [uO (by omega)]; exact h1, uS, by rw [uO (by omega)]; exact h3, fun q' hq' => by rw [uO (by omega)]; exact h4 q' hq', by rw [uO (by omega), h5, hA], fun q' hq' => ?_⟩
      · simp (disch := first | assumption | omega) only [f_X0_noteBoth, kb_X0_noteBoth_41, kb_X0_noteBoth_31, kb_X0_noteBoth_0, KL, KB, KC, KI, KJ, KZ, bI_0, bI_n, nI00, nI10, ne_eq, Classical.not_not, not_true_eq_false, not_false_eq_true, if_true, if_false, ite_not, ite_self, Bool.false_eq_true, nIne1, O_co, h2, nI_add, e14, hso, hz, hbc1, hbc2, nIle, hle]
      · rw [uO (by omega)]; exact h6 q' hq'
theorem nuN_pos (co : Nat → List Goods) : ∀ n, 1 ≤ nuN co n := by
  intro n
  induction n with
  | zero => exact Nat.le_refl _
  | succ n ih => show 1 ≤ nuN co n * ((co n).length + 1); exact Nat.mul_pos ih (Nat.succ_pos _)
theorem nuN_le (co : Nat → List Goods) (hlen : ∀ r, (co r).length ≤ 2) : ∀ n, nuN co n ≤ 3 ^ n := by
  intro n
  induction n with
  | zero => exact Nat.le_refl _
  | succ n ih =>
    show nuN co n * ((co n).length + 1) ≤ 3 ^ n * 3
    exact Nat.mul_le_mul ih (by have := hlen n; omega)
theorem gS_zero {n : Nat} {co : Nat → List Goods} {d : Nat → Nat} {W : Nat → Nat → Bool} (n6 : n ≤ 6) (hlen : ∀ r, (co r).length ≤ 2) (hd : DG n co d) : (gS d (goS n (sD n d) W) = 0) = (goS n (sD n d) W = 0) := by
  apply propext
  constructor
  · intro h
    apply Classical.byContradiction
    intro hne
    obtain ⟨r, h1, h2, h3⟩ := goS_some hne
    rw [sD_bit d h1] at h3
    have h4 := of_decide_eq_true h3
    have h5 := hd.1 r
    have h6 := hlen r
    have hx : xD d r < 12 := by unfold xD; omega
    have := gS_bit d (goS n (sD n d) W) hx
    rw [h, Nat.zero_testBit, show xD d r / 2 = r by unfold xD; omega, h2, decide_eq_true (by unfold xD; omega)] at this
    cases this
  · intro h
    rw [h]
    apply Nat.eq_of_testBit_eq
    intro i
    unfold gS
    rw [setN_bit, Nat.zero_testBit, Nat.zero_testBit, Bool.and_false, Bool.and_false]
theorem c_survey {X n : Nat} {co : Nat → List Goods} {V : Nat → Nat → Bool → Bool} {g : GG} (hX : isX X) (hX1 : X + 9 < 77) (n3 : 3 ≤ n) (n6 : n ≤ 6) (hC : CO X n co g) (hco : ∀ r, 6 ≤ r → co r = []) (hS : STL co V g) (hO : ORD g) (e5 : g 164 5 = nI (nuN co n)) : ∃ g', f_X0_survey [.ref 164] (hp g X (OO n)) = some (none, hp g' X (OO n)) ∧ (∀ a, a ≠ 164 → a ≠ 170 → g' a = g a) ∧ SVC n co (svNum n co V (nuN co n - 1)) g' := by
  have hlen : ∀ r, (co r).length ≤ 2 := fun r => by
    by_cases q : r < 6
    · exact (hC.2 r q).1
    · rw [hco r (by omega)]; show 0 ≤ 2; omega
  have hth : ∀ x, x < 12 → thB co x = true → x / 2 < n := fun x hx h => (thB_lt hC hx h).1
  have hgo : ∀ x, x < 12 → thB co x = true → (cG co x).1 < 6 := fun x hx h => by have := (thB_lt hC hx h).2.1.1; omega
  have hpos := nuN_pos co n
  have hN := nuN_le co hlen n
  have hN2 : nuN co n ≤ 729 := Nat.le_trans hN (by have : (3 : Nat) ^ n ≤ 3 ^ 6 := Nat.pow_le_pow_right (by omega) n6; omega)
  obtain ⟨o1, o2, o3, o4⟩ := OO_obj n3 n6
  have gi0 : ∀ (g : GG) (k : KK) (ls st : List Value), kGetI 3 3 0 k ls (.ref (OO n) :: st) (hp g X (OO n)) = k ls (.int (g (OO n) 0) :: st) (hp g X (OO n)) := fun g k ls st => gi_at o1 k ls st
  have hoo : OO n ≠ 164 ∧ OO n ≠ 170 ∧ 172 ≤ OO n := by rcases OO_cases n3 n6 with h | h | h | h <;> rw [h] <;> omega
  have hm24 := ordMany_le (n := n) n6
  obtain ⟨g1, e1, p1, p2⟩ := c_beginNumbers (upd2 (upd2 (upd2 (upd2 g 164 12 (nI 0)) 164 13 (nI 0)) 164 14 (nI 0)) 164 16 (nI 0)) X (OO n)
  have key : ∃ g', kl_X0_survey_26 [.ref 164, .int (nI 1)] [] (hp g1 X (OO n)) = some (none, hp g' X (OO n)) ∧ (∀ a, a ≠ 164 → a ≠ 170 → g' a = g a) ∧ SVC n co (svNum n co V (nuN co n - 1)) g' := by
    unfold kl_X0_survey_26
    refine kFor (nuN co n) (by unfold FU; omega) (fun i ls h' => ∃ (g' : GG) (u : List Value) (d : Nat → Nat), ls = [.ref 164, .int (nI i)] ++ u ∧ h' = hp g' X (OO n) ∧ 1 ≤ i ∧ (∀ a, a ≠ 164 → a ≠ 170 → g' a = g a) ∧ g' 164 5 = nI (nuN co n) ∧ SVC n co (svNum n co V (i - 1)) g' ∧ DG n co d ∧ CNT d g' ∧ hv co d n = i - 1) (fun r => ∃ g', r = some (none, hp g' X (OO n)) ∧ (∀ a, a ≠ 164 → a ≠ 170 → g' a = g a) ∧ SVC n co (svNum n co V (nuN co n - 1)) g') ?_ ?_ 1 _ _ hpos ⟨g1, [], fun _ => 0, rfl, rfl, Nat.le_refl _, fun a a1 a2 => by rw [p1 a a2, uN a1, uN a1, uN a1, uN a1], by rw [p1 164 (by omega), uO (by omega), uO (by omega), uO (by omega), uO (by omega)]; exact e5, ⟨by rw [p1 164 (by omega), uO (by omega), uO (by omega), uO (by omega), uS]; rfl, by rw [p1 164 (by omega), uO (by omega), uO (by omega), uS]; rfl, by rw [p1 164 (by omega), uO (by omega), uS]; rfl, fun q hq => (by cases hq), by rw [p1 164 (by omega), uS]; rfl, fun q hq => (by cases hq)⟩, ⟨fun r => Nat.zero_le _, fun _ _ => rfl⟩, p2, hv_zero n⟩
    · rintro s0 ls h' ⟨g', u, d, rfl, rfl, hi1, h1, h5, h2, h3, h4, h6⟩
      have hin : (nuN co n ≤ nuN co n) = True := eq_true (by omega)
      simp (disch := first | assumption | omega) only [KL, KB, KC, KI, KJ, KZ, bI_0, bI_n, nI00, nI10, ne_eq, Classical.not_not, not_true_eq_false, not_false_eq_true, if_true, if_false, ite_not, ite_self, Bool.false_eq_true, nIne1, List.cons_append, List.nil_append, kMask, mask, O_co, h5, nIle, hin]
      exact ⟨g', rfl, h1, h2⟩
    · rintro s0 i hi ih ls h' ⟨g', u, d, rfl, rfl, hi1, h1, h5, h2, h3, h4, h6⟩
      have hin : (nuN co n ≤ i) = False := eq_false (by omega)
      have hC' : CO X n co g' := hC.congr (h1 _ (by omega) (by omega)) (h1 _ (by omega) (by omega)) (h1 _ (by omega) (by omega))
      obtain ⟨g2, d', e2, q1, q2, q3, q4⟩ := c_nextNumber (o := OO n) hX (by omega) n3 n6 hC' hlen h3 h4 (by omega)
      have hnu : hv co d' n = i := by omega
      have hdd := dgN_eq q2 hnu
      have hd' : DG n co (dgN n co i) := hdd ▸ q2
      have hne : slD (dgN n co i) ≠ 0 := hdd ▸ slD_ne n6 hlen q2 (by omega)
      rw [hdd] at e2
      -- the orders
      have inner : ∀ u, ∃ g'', kl_X0_survey_41 s0 ([.ref 164, .int (nI i), .int (nI (slD (dgN n co i))), .int (nI 0)] ++ u) [] (hp g2 X (OO n)) = some (none, hp g'' X (OO n)) ∧ (∀ a, a ≠ 164 → a ≠ 170 → g'' a = g a) ∧ SVC n co (svNum n co V (nuN co n - 1)) g'' := by
        intro u
        unfold kl_X0_survey_41
        refine kFor (ordMany n) (by unfold FU; omega) (fun k ls h' => ∃ (g3 : GG) (u : List Value), ls = [.ref 164, .int (nI i), .int (nI (slD (dgN n co i))), .int (nI k)] ++ u ∧ h' = hp g3 X (OO n) ∧ (∀ a, a ≠ 164 → g3 a = g2 a) ∧ g3 164 5 = nI (nuN co n) ∧ SVC n co (svOrd n co V i k (svNum n co V (i - 1))) g3) (fun r => ∃ g'', r = some (none, hp g'' X (OO n)) ∧ (∀ a, a ≠ 164 → a ≠ 170 → g'' a = g a) ∧ SVC n co (svNum n co V (nuN co n - 1)) g'') ?_ ?_ 0 _ _ (by omega) ⟨g2, u, rfl, rfl, fun _ _ => rfl, by rw [q1 164 (by omega)]; exact h5, ?_⟩
        · rintro s1 ls h' ⟨g3, u, rfl, rfl, w1, w2, w3⟩
          have em : g3 (OO n) 0 = nI (ordMany n) := by rw [w1 _ hoo.1, q1 _ hoo.2.1, h1 _ hoo.1 hoo.2.1]; exact OO_many n3 n6 hO
          have hin : (ordMany n ≤ ordMany n) = True := eq_true (by omega)
          have := ih ([.ref 164, .int (nI (i + 1))] ++ [.int (nI (slD (dgN n co i))), .int (nI (ordMany n))]) (hp g3 X (OO n)) ⟨g3, [.int (nI (slD (dgN n co i))), .int (nI (ordMany n))], d', rfl, rfl, by omega, fun a a1 a2 => by rw [w1 a a1, q1 a a2]; exact h1 a a1 a2, w2, by
            have hsv : svNum n co V (i + 1 - 1) = svOrd n co V i (ordMany n) (svNum n co V (i - 1)) := by
              obtain ⟨i', rfl⟩ : ∃ i', i = i' + 1 := ⟨i - 1, by omega⟩
              rfl
            rw [hsv]; exact w3, q2, fun r hr => by rw [w1 170 (by omega)]; exact q3 r hr, by omega⟩
          simp only [List.cons_append, List.nil_append] at this
          simp (disch := first | assumption | omega) only [KL, KB, KC, KI, KJ, KZ, bI_0, bI_n, nI00, nI10, ne_eq, Classical.not_not, not_true_eq_false, not_false_eq_true, if_true, if_false, ite_not, ite_self, Bool.false_eq_true, nIne1, List.cons_append, List.nil_append, kMask, mask, O_co, gi0, em, nIle, hin, nI_add]
          exact this
        · rintro s1 k hk ih2 ls h' ⟨g3, u, rfl, rfl, w1, w2, w3⟩
          have em : g3 (OO n) 0 = nI (ordMany n) := by rw [w1 _ hoo.1, q1 _ hoo.2.1, h1 _ hoo.1 hoo.2.1]; exact OO_many n3 n6 hO
          have hin : (ordMany n ≤ k) = False := eq_false (by omega)
          have z : ∀ a, a ≠ 164 → a ≠ 170 → g3 a = g a := fun a a1 a2 => by rw [w1 a a1, q1 a a2]; exact h1 a a1 a2
          have hO3 : ORD g3 := hO.congr (fun a x y => z a (by omega) (by omega))
          have hS3 : STL co V g3 := fun x hx => by rw [z 167 (by omega) (by omega), z 168 (by omega) (by omega), z 169 (by omega) (by omega)]; exact hS x hx
          have eg := c_going (X := X) (k := k) (V := V) (d := dgN n co i) n3 n6 hO3 hS3 hth hlen hd' hk
          have hg12 : gS (dgN n co i) (goS n (sD n (dgN n co i)) (WD n k co V (dgN n co i))) < 4096 := setN_lt12 _
          have hgz : (nI (gS (dgN n co i) (goS n (sD n (dgN n co i)) (WD n k co V (dgN n co i)))) = 0) = (goS n (sD n (dgN n co i)) (WD n k co V (dgN n co i)) = 0) := by rw [nIk0 (by omega), gS_zero n6 hlen hd']
          have hstep : svOrd n co V i (k + 1) (svNum n co V (i - 1)) = svStep n co V i k (svOrd n co V i k (svNum n co V (i - 1))) := rfl
          generalize svOrd n co V i k (svNum n co V (i - 1)) = A at *
          by_cases hg0 : goS n (sD n (dgN n co i)) (WD n k co V (dgN n co i)) = 0
          · have hz : (goS n (sD n (dgN n co i)) (WD n k co V (dgN n co i)) = 0) = True := eq_true hg0
            have hst : svStep n co V i k A = (A.1 + 1, A.2.1, updL n co i k A.2.2.1, A.2.2.2) := if_pos hg0
            obtain ⟨g4, e4, v1, v2, v3⟩ := c_noteStuck (m := X) (o := OO n) n6 hlen w3 i k hd' hne
            rw [hst] at hstep
            simp (disch := first | assumption | omega) only [kb_X0_survey_89, KL, KB, KC, KI, KJ, KZ, bI_0, bI_n, nI00, nI10, ne_eq, Classical.not_not, not_true_eq_false, not_false_eq_true, if_true, if_false, ite_not, ite_self, Bool.false_eq_true, nIne1, List.cons_append, List.nil_append, kMask, mask, O_co, gi0, em, nIle, hin, eg, hgz, hz, e4, nI_add]
            exact ih2 _ _ ⟨g4, _, rfl, rfl, fun a ha => by rw [v1 a ha]; exact w1 a ha, by rw [v2 5 (by omega) (by omega) (by omega)]; exact w2, by rw [hstep]; exact v3⟩
          · have hz : (goS n (sD n (dgN n co i)) (WD n k co V (dgN n co i)) = 0) = False := eq_false hg0
            have hGd : ∀ r, (goS n (sD n (dgN n co i)) (WD n k co V (dgN n co i))).testBit r = true → 0 < dgN n co i r := fun r hr => by
              have h1 : r < n := by
                apply Nat.lt_of_not_le
                intro q
                rw [bit_ge goS_lt r q] at hr
                cases hr
              have := goS_sub r hr
              rw [sD_bit _ h1] at this
              exact of_decide_eq_true this
            have ea := c_anyFight (X := X) (o := OO n) (d := dgN n co i) n6 hS3 hlen hgo hd' hGd
            by_cases hf : ffJ n (goS n (sD n (dgN n co i)) (WD n k co V (dgN n co i))) (FD co (dgN n co i)) ≠ -1
            · have hst : svStep n co V i k A = (A.1, A.2.1 + 1, A.2.2.1, updL n co i k A.2.2.2) := by unfold svStep; rw [if_neg hg0, if_pos hf]
              obtain ⟨g4, e4, v1, v2, v3⟩ := c_noteBoth (m := X) (o := OO n) n6 hlen w3 i k hd' hne
              rw [hst] at hstep
              rw [decide_eq_true hf] at ea
              simp (disch := first | assumption | omega) only [kb_X0_survey_89, KL, KB, KC, KI, KJ, KZ, bI_0, bI_n, nI00, nI10, ne_eq, Classical.not_not, not_true_eq_false, not_false_eq_true, if_true, if_false, ite_not, ite_self, Bool.false_eq_true, nIne1, List.cons_append, List.nil_append, kMask, mask, O_co, gi0, em, nIle, hin, eg, hgz, hz, ea, bW_t, e4, nI_add]
              exact ih2 _ _ ⟨g4, _, rfl, rfl, fun a ha => by rw [v1 a ha]; exact w1 a ha, by rw [v2 5 (by omega) (by omega) (by omega)]; exact w2, by rw [hstep]; exact v3⟩
            · have hst : svStep n co V i k A = A := by unfold svStep; rw [if_neg hg0, if_neg hf]
              rw [hst] at hstep
              rw [decide_eq_false hf] at ea
              simp (disch := first | assumption | omega) only [kb_X0_survey_89, KL, KB, KC, KI, KJ, KZ, bI_0, bI_n, nI00, nI10, ne_eq, Classical.not_not, not_true_eq_false, not_false_eq_true, if_true, if_false, ite_not, ite_self, Bool.false_eq_true, nIne1, List.cons_append, List.nil_append, kMask, mask, O_co, gi0, em, nIle, hin, eg, hgz, hz, ea, bW_f, nI_add]
              exact ih2 _ _ ⟨g3, _, rfl, rfl, w1, w2, by rw [hstep]; exact w3⟩
        · obtain ⟨w1, w2, w3, w4, w5, w6⟩ := h2
          have z := q1 164 (by omega)
          exact ⟨by rw [z]; exact w1, by rw [z]; exact w2, by rw [z]; exact w3, fun q hq => by rw [z]; exact w4 q hq, by rw [z]; exact w5, fun q hq => by rw [z]; exact w6 q hq⟩
      have h0 := inner []
      simp only [List.cons_append, List.nil_append] at h0
      match u with
      | [] =>
        simp (disch := first | assumption | omega) only [KL, KB, KC, KI, KJ, KZ, bI_0, bI_n, nI00, nI10, ne_eq, Classical.not_not, not_true_eq_false, not_false_eq_true, if_true, if_false, ite_not, ite_self, Bool.false_eq_true, nIne1, List.cons_append, List.nil_append, kMask, mask, O_co, h5, nIle, hin, e2]
        exact h0
      | u0 :: u1 =>
        simp (disch := first | assumption | omega) only [KL, KB, KC, KI, KJ, KZ, bI_0, bI_n, nI00, nI10, ne_eq, Classical.not_not, not_true_eq_false, not_false_eq_true, if_true, if_false, ite_not, ite_self, Bool.false_eq_true, nIne1, List.cons_append, List.nil_append, kMask, mask, O_co, h5, nIle, hin, e2]
        exact h0
  obtain ⟨g', e, w⟩ := key
  refine ⟨g', ?_, w⟩
  rw [← e]
  simp (disch := first | assumption | omega) only [f_X0_survey, kb_X0_survey_0, KL, KB, KC, KI, KJ, KZ, bI_0, bI_n, nI00, nI10, ne_eq, Classical.not_not, not_true_eq_false, not_false_eq_true, if_true, if_false, ite_not, ite_self, Bool.false_eq_true, nIne1, O_co, e1]
