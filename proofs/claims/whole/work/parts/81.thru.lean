-- ===== the model goes through all that can come =====
/-- what stays while it does: the base from which who waits is asked -/
def BAS (g0 g : GG) : Prop := (∀ a, a ≠ 188 → a ≠ 194 → a ≠ 195 → a ≠ 200 → a ≠ 201 → a ≠ 202 → a ≠ 203 → a ≠ 204 → a ≠ 207 → g a = g0 a) ∧ ∀ i, (i < 37 ∨ 45 < i) → g 188 i = g0 188 i
theorem BAS.rfl' {g : GG} : BAS g g := ⟨fun _ _ _ _ _ _ _ _ _ _ => rfl, fun _ _ => rfl⟩
theorem BAS.tr {g0 g1 g2 : GG} (h : BAS g0 g1) (h2 : BAS g1 g2) : BAS g0 g2 := ⟨fun a a1 a2 a3 a4 a5 a6 a7 a8 a9 => (h2.1 a a1 a2 a3 a4 a5 a6 a7 a8 a9).trans (h.1 a a1 a2 a3 a4 a5 a6 a7 a8 a9), fun i hi => (h2.2 i hi).trans (h.2 i hi)⟩
/-- a state laid out, with ranks -/
def LYK (n k : Nat) (co : Nat → List Goods) (d : Nat → Nat) (g : GG) : Prop := LYR n 0 co d g ∧ ∀ r, r < n → g 203 r = nI (ordRank n k r)
theorem LYR.congr {n i : Nat} {co : Nat → List Goods} {d : Nat → Nat} {g g' : GG} (h : LYR n i co d g) (h1 : ∀ a, a = 200 ∨ a = 201 ∨ a = 202 ∨ a = 204 ∨ a = 207 → g' a = g a) : LYR n i co d g' := fun r a b => by
  rw [h1 207 (by omega), h1 204 (by omega), h1 200 (by omega), h1 201 (by omega), h1 202 (by omega)]
  exact h r a b
theorem LYR.ml {n : Nat} {co : Nat → List Goods} {d : Nat → Nat} {g : GG} (h : LYR n 0 co d g) (en : g 188 20 = nI n) : ML n (sD n d) g := ⟨en, fun r hr => by rw [(h r (by omega) hr).1, sD_bit d hr]⟩
theorem LYR.tt {n : Nat} {co : Nat → List Goods} {d : Nat → Nat} {g : GG} (h : LYR n 0 co d g) (hgo : ∀ r, r < n → 0 < d r → (cG co (xD d r)).1 < 6) : ∀ r, r < n → (sD n d).testBit r = true → g 200 r = nI (cG co (xD d r)).1 ∧ (cG co (xD d r)).1 < 6 := fun r hr hs => by
  rw [sD_bit d hr] at hs
  have h0 := of_decide_eq_true hs
  exact ⟨((h r (by omega) hr).2.2 h0).1, hgo r hr h0⟩
/-- the model's waitsFor tells V of every state that is laid out over g0 -/
def MWV (n : Nat) (co : Nat → List Goods) (V : Nat → Nat → Bool → Bool) (g0 : GG) (m o : Nat) : Prop := ∀ (g : GG) (d : Nat → Nat) (k : Nat), DG n co d → k < ordMany n → BAS g0 g → LYK n k co d g → MW n (sD n d) (WD n k co V d) g m o
/-- the model's cells for what has been found -/
def SVM (n : Nat) (co : Nat → List Goods) (all : Nat) (A : SVA) (g : GG) : Prop := g 188 37 = nI all ∧ g 188 38 = nI A.1 ∧ g 188 39 = nI A.2.1 ∧ (match A.2.2.1 with
  | none => g 188 40 = -1
  | some q => g 188 40 = nI (cD n (dgN n co q.1)) ∧ g 188 41 = nI q.1 ∧ g 188 42 = nI q.2) ∧ (match A.2.2.2 with
  | none => g 188 43 = -1
  | some q => g 188 43 = nI (cD n (dgN n co q.1)) ∧ g 188 44 = nI q.1 ∧ g 188 45 = nI q.2)
theorem SVM.congr {n all : Nat} {co : Nat → List Goods} {A : SVA} {g g' : GG} (h : SVM n co all A g) (h1 : ∀ i, 37 ≤ i → i ≤ 45 → g' 188 i = g 188 i) : SVM n co all A g' := by
  obtain ⟨a, b, c, d, e⟩ := h
  refine ⟨by rw [h1 37 (by omega) (by omega)]; exact a, by rw [h1 38 (by omega) (by omega)]; exact b, by rw [h1 39 (by omega) (by omega)]; exact c, ?_, ?_⟩
  · rw [h1 40 (by omega) (by omega), h1 41 (by omega) (by omega), h1 42 (by omega) (by omega)]; exact d
  · rw [h1 43 (by omega) (by omega), h1 44 (by omega) (by omega), h1 45 (by omega) (by omega)]; exact e
theorem svStep_mono (n : Nat) (co : Nat → List Goods) (V : Nat → Nat → Bool → Bool) (nu k : Nat) (A : SVA) : A.1 + A.2.1 ≤ (svStep n co V nu k A).1 + (svStep n co V nu k A).2.1 ∧ (svStep n co V nu k A).1 + (svStep n co V nu k A).2.1 ≤ A.1 + A.2.1 + 1 := by
  unfold svStep
  split
  · exact ⟨by show _ ≤ A.1 + 1 + A.2.1; omega, by show A.1 + 1 + A.2.1 ≤ _; omega⟩
  · split
    · exact ⟨by show _ ≤ A.1 + (A.2.1 + 1); omega, by show A.1 + (A.2.1 + 1) ≤ _; omega⟩
    · exact ⟨Nat.le_refl _, by omega⟩
theorem svOrd_mono (n : Nat) (co : Nat → List Goods) (V : Nat → Nat → Bool → Bool) (nu : Nat) (A : SVA) : ∀ k j, (svOrd n co V nu k A).1 + (svOrd n co V nu k A).2.1 ≤ (svOrd n co V nu (k + j) A).1 + (svOrd n co V nu (k + j) A).2.1 ∧ (svOrd n co V nu (k + j) A).1 + (svOrd n co V nu (k + j) A).2.1 ≤ (svOrd n co V nu k A).1 + (svOrd n co V nu k A).2.1 + j := by
  intro k j
  induction j with
  | zero => exact ⟨Nat.le_refl _, Nat.le_refl _⟩
  | succ j ih =>
    have h := svStep_mono n co V nu (k + j) (svOrd n co V nu (k + j) A)
    have e : svOrd n co V nu (k + (j + 1)) A = svStep n co V nu (k + j) (svOrd n co V nu (k + j) A) := rfl
    rw [e]
    exact ⟨by omega, by omega⟩
theorem svNum_mono (n : Nat) (co : Nat → List Goods) (V : Nat → Nat → Bool → Bool) : ∀ i j, (svNum n co V i).1 + (svNum n co V i).2.1 ≤ (svNum n co V (i + j)).1 + (svNum n co V (i + j)).2.1 ∧ (svNum n co V (i + j)).1 + (svNum n co V (i + j)).2.1 ≤ (svNum n co V i).1 + (svNum n co V i).2.1 + j * ordMany n := by
  intro i j
  induction j with
  | zero => exact ⟨Nat.le_refl _, by rw [Nat.zero_mul]; exact Nat.le_refl _⟩
  | succ j ih =>
    have h := svOrd_mono n co V (i + j + 1) (svNum n co V (i + j)) 0 (ordMany n)
    rw [Nat.zero_add] at h
    have e : svNum n co V (i + (j + 1)) = svOrd n co V (i + j + 1) (ordMany n) (svNum n co V (i + j)) := rfl
    have e0 : svOrd n co V (i + j + 1) 0 (svNum n co V (i + j)) = svNum n co V (i + j) := rfl
    rw [e0] at h
    rw [e, Nat.succ_mul]
    exact ⟨by omega, by omega⟩
theorem sv_bound (n : Nat) (co : Nat → List Goods) (V : Nat → Nat → Bool → Bool) (n6 : n ≤ 6) (i : Nat) (hi : i ≤ 729) (k : Nat) (hk : k ≤ ordMany n) : (svOrd n co V (i + 1) k (svNum n co V i)).1 + (svOrd n co V (i + 1) k (svNum n co V i)).2.1 ≤ 20000 := by
  have h1 := (svNum_mono n co V 0 i).2
  have h2 := (svOrd_mono n co V (i + 1) (svNum n co V i) 0 k).2
  have e0 : svOrd n co V (i + 1) 0 (svNum n co V i) = svNum n co V i := rfl
  have e1 : svNum n co V 0 = (0, 0, none, none) := rfl
  rw [Nat.zero_add, e0] at h2
  rw [Nat.zero_add, e1] at h1
  have hm := ordMany_le (n := n) n6
  have h3 : i * ordMany n ≤ 729 * 24 := Nat.mul_le_mul hi hm
  have h1' : (svNum n co V i).1 + (svNum n co V i).2.1 ≤ 0 + 0 + i * ordMany n := h1
  omega
theorem cont211 (s33 s51 : KK) (g : GG) (m o : Nat) (a b c d e k : Value) (kk : Nat) (w : List Value) : kb_X11_goesThrough_211 s33 s51 ([a, b, c, d, e, k, .int (nI kk)] ++ w) [] (hp g m o) = s51 ([a, b, c, d, e, k, .int (nI (kk + 1))] ++ w) [] (hp g m o) := by
  simp (disch := first | assumption | omega) only [kb_X11_goesThrough_211, KL, KB, KC, KI, KJ, KZ, bI_0, bI_n, nI00, nI10, ne_eq, Classical.not_not, not_true_eq_false, not_false_eq_true, if_true, if_false, ite_not, ite_self, Bool.false_eq_true, nIne1, List.cons_append, List.nil_append, nI_add]
/-- after a state has been counted: on, or out -/
theorem thru193 {s33 s51 : KK} {g : GG} {m o : Nat} {stops : Bool} {x y kk : Nat} {c d e k : Value} (hx : g 188 38 = nI x) (hy : g 188 39 = nI y) (hb : x + y < 100000) (w : List Value) : kb_X11_goesThrough_193 s33 s51 ([.ref 188, c, .int (bW stops), d, e, k, .int (nI kk)] ++ w) [] (hp g m o) = if stops = true ∧ 0 < x + y then some (some (.int (nI 0)), hp g m o) else s51 ([.ref 188, c, .int (bW stops), d, e, k, .int (nI (kk + 1))] ++ w) [] (hp g m o) := by
  have h211 := cont211 s33 s51 g m o (.ref 188) c (.int (bW stops)) d e k kk w
  cases stops with
  | false =>
    rw [if_neg (fun q => absurd q.1 (by decide))]
    rw [← h211]
    have hz : (bW false = 0) = True := eq_true rfl
    simp (disch := first | assumption | omega) only [kb_X11_goesThrough_193, KL, KB, KC, KI, KJ, KZ, bI_0, bI_n, nI00, nI10, ne_eq, Classical.not_not, not_true_eq_false, not_false_eq_true, if_true, if_false, ite_not, ite_self, Bool.false_eq_true, nIne1, List.cons_append, List.nil_append, hz]
  | true =>
    have hz : (bW true = 0) = False := eq_false (by decide)
    by_cases h : 0 < x + y
    · rw [if_pos ⟨rfl, h⟩]
      have hle : (nI (x + y) ≤ 0) = False := by rw [nIle0 (by omega)]; exact eq_false (by omega)
      simp (disch := first | assumption | omega) only [kb_X11_goesThrough_193, KL, KB, KC, KI, KJ, KZ, bI_0, bI_n, nI00, nI10, ne_eq, Classical.not_not, not_true_eq_false, not_false_eq_true, if_true, if_false, ite_not, ite_self, Bool.false_eq_true, nIne1, List.cons_append, List.nil_append, hz, O_mo, hx, hy, nI_add, hle]
    · rw [if_neg (fun q => h q.2)]
      rw [← h211]
      have hle : (nI (x + y) ≤ 0) = True := by rw [nIle0 (by omega)]; exact eq_true (by omega)
      simp (disch := first | assumption | omega) only [kb_X11_goesThrough_193, KL, KB, KC, KI, KJ, KZ, bI_0, bI_n, nI00, nI10, ne_eq, Classical.not_not, not_true_eq_false, not_false_eq_true, if_true, if_false, ite_not, ite_self, Bool.false_eq_true, nIne1, List.cons_append, List.nil_append, hz, O_mo, hx, hy, nI_add, hle]
theorem updL_some {n nu k : Nat} {co : Nat → List Goods} {q : Nat × Nat} (h : cD n (dgN n co nu) < cD n (dgN n co q.1)) : updL n co nu k (some q) = some (nu, k) := if_pos h
theorem updL_keep {n nu k : Nat} {co : Nat → List Goods} {q : Nat × Nat} (h : ¬ cD n (dgN n co nu) < cD n (dgN n co q.1)) : updL n co nu k (some q) = some q := if_neg h
theorem m_thru {c n : Nat} {co : Nat → List Goods} {V : Nat → Nat → Bool → Bool} {g0 : GG} {m o : Nat} (stops : Bool) (hc : c < 6) (n3 : 3 ≤ n) (n6 : n ≤ 6) (hM : MO c n co g0) (hco : ∀ r, n ≤ r → co r = []) (hV : MWV n co V g0 m o) : ∃ g', f_X11_goesThrough [.ref 188, .int (nI c), .int (bW stops)] (hp g0 m o) = some (some (.int (bW (decide ((svNum n co V (nuN co n - 1)).1 + (svNum n co V (nuN co n - 1)).2.1 = 0)))), hp g' m o) ∧ BAS g0 g' ∧ (stops = false → SVM n co ((nuN co n - 1) * ordMany n) (svNum n co V (nuN co n - 1)) g') := by
  have hlen : ∀ r, (co r).length ≤ 2 := fun r => by
    by_cases q : r < n
    · exact (hM.2 r q).1
    · rw [hco r (by omega)]; show 0 ≤ 2; omega
  have hpos := nuN_pos co n
  have hN2 : nuN co n ≤ 729 := Nat.le_trans (nuN_le co hlen n) (by have : (3 : Nat) ^ n ≤ 3 ^ 6 := Nat.pow_le_pow_right (by omega) n6; omega)
  have hm24 := ordMany_le (n := n) n6
  have eo := fun h => m_orders n n6 h
  have hgoA : ∀ (d : Nat → Nat), DG n co d → ∀ r, r < n → 0 < d r → (cG co (xD d r)).1 < 6 := fun d hd r hr h0 => by
    have := (hM.2 r hr).2.1 _ (List.mem_of_getElem? (cG_x (hd.1 r) (hlen r) h0))
    have := this.1
    omega
  -- the cells as it begins
  have hbeg : ∃ g1 : GG, f_X11_goesThrough [.ref 188, .int (nI c), .int (bW stops)] (hp g0 m o) = kl_X11_goesThrough_33 [.ref 188, .int (nI c), .int (bW stops), .int (nI (nuN co n)), .int (nI 1)] [] (hp g1 m o) ∧ BAS g0 g1 ∧ SVM n co 0 (0, 0, none, none) g1 := by
    have hMn := m_numbers (c := c) (m := m) (o := o) n6 (hM.congr (g' := upd2 (upd2 (upd2 (upd2 (upd2 g0 188 37 (nI 0)) 188 38 (nI 0)) 188 39 (nI 0)) 188 40 (-1)) 188 43 (-1)) (by rw [uO (by omega), uO (by omega), uO (by omega), uO (by omega), uO (by omega)]) (by rw [uN (by omega), uN (by omega), uN (by omega), uN (by omega), uN (by omega)]) (by rw [uN (by omega), uN (by omega), uN (by omega), uN (by omega), uN (by omega)]))
    refine ⟨upd2 (upd2 (upd2 (upd2 (upd2 g0 188 37 (nI 0)) 188 38 (nI 0)) 188 39 (nI 0)) 188 40 (-1)) 188 43 (-1), by simp (disch := first | assumption | omega) only [f_X11_goesThrough, kb_X11_goesThrough_0, KL, KB, KC, KI, KJ, KZ, bI_0, bI_n, nI00, nI10, ne_eq, Classical.not_not, not_true_eq_false, not_false_eq_true, if_true, if_false, ite_not, ite_self, Bool.false_eq_true, nIne1, O_mo, hMn], ⟨fun a a1 _ _ _ _ _ _ _ _ => by rw [uN a1, uN a1, uN a1, uN a1, uN a1], fun i hi => by rw [uO (by omega), uO (by omega), uO (by omega), uO (by omega), uO (by omega)]⟩, by rw [uO (by omega), uO (by omega), uO (by omega), uO (by omega), uS], by rw [uO (by omega), uO (by omega), uO (by omega), uS], by rw [uO (by omega), uO (by omega), uS], by show _ = -1; rw [uO (by omega), uS], by show _ = -1; rw [uS]⟩
  obtain ⟨g1, e1, b1, s1⟩ := hbeg
  rw [e1]
  unfold kl_X11_goesThrough_33
  refine kFor (nuN co n) (by unfold FU; omega) (fun i ls h' => ∃ (g' : GG) (u : List Value), ls = [.ref 188, .int (nI c), .int (bW stops), .int (nI (nuN co n)), .int (nI i)] ++ u ∧ h' = hp g' m o ∧ 1 ≤ i ∧ BAS g0 g' ∧ SVM n co ((i - 1) * ordMany n) (svNum n co V (i - 1)) g' ∧ (stops = true → (svNum n co V (i - 1)).1 + (svNum n co V (i - 1)).2.1 = 0)) (fun r => ∃ g', r = some (some (.int (bW (decide ((svNum n co V (nuN co n - 1)).1 + (svNum n co V (nuN co n - 1)).2.1 = 0)))), hp g' m o) ∧ BAS g0 g' ∧ (stops = false → SVM n co ((nuN co n - 1) * ordMany n) (svNum n co V (nuN co n - 1)) g')) ?_ ?_ 1 _ _ hpos ⟨g1, [], rfl, rfl, Nat.le_refl _, b1, by rw [Nat.sub_self, Nat.zero_mul]; exact s1, fun _ => rfl⟩
  · rintro s0 ls h' ⟨g', u, rfl, rfl, hi1, h1, h2, h3⟩
    have hin : (nuN co n ≤ nuN co n) = True := eq_true (by omega)
    obtain ⟨w1, w2, w3, w4, w5⟩ := id h2
    have hbd : (svNum n co V (nuN co n - 1)).1 + (svNum n co V (nuN co n - 1)).2.1 ≤ 20000 := sv_bound n co V n6 (nuN co n - 1) (by omega) 0 (by omega)
    generalize svNum n co V (nuN co n - 1) = F at *
    by_cases hz : F.1 + F.2.1 = 0
    · have hz' : (nI (F.1 + F.2.1) = 0) = True := by rw [hz]; exact eq_true rfl
      simp (disch := first | assumption | omega) only [kb_X11_goesThrough_240, KL, KB, KC, KI, KJ, KZ, bI_0, bI_n, nI00, nI10, ne_eq, Classical.not_not, not_true_eq_false, not_false_eq_true, if_true, if_false, ite_not, ite_self, Bool.false_eq_true, nIne1, List.cons_append, List.nil_append, kMask, mask, nIle, hin, O_mo, w2, w3, nI_add, hz']
      exact ⟨g', by rw [decide_eq_true hz]; rfl, h1, fun _ => h2⟩
    · have hz' : (nI (F.1 + F.2.1) = 0) = False := by rw [nIk0 (by omega)]; exact eq_false hz
      simp (disch := first | assumption | omega) only [kb_X11_goesThrough_240, KL, KB, KC, KI, KJ, KZ, bI_0, bI_n, nI00, nI10, ne_eq, Classical.not_not, not_true_eq_false, not_false_eq_true, if_true, if_false, ite_not, ite_self, Bool.false_eq_true, nIne1, List.cons_append, List.nil_append, kMask, mask, nIle, hin, O_mo, w2, w3, nI_add, hz']
      exact ⟨g', by rw [decide_eq_false hz]; rfl, h1, fun _ => h2⟩
  · rintro s0 i hi ih ls h' ⟨g', u, rfl, rfl, hi1, h1, h2, h3⟩
    have hin : (nuN co n ≤ i) = False := eq_false (by omega)
    have hMi : MO c n co g' := hM.congr (h1.2 20 (by omega)) (h1.1 206 (by omega) (by omega) (by omega) (by omega) (by omega) (by omega) (by omega) (by omega) (by omega)) (h1.1 189 (by omega) (by omega) (by omega) (by omega) (by omega) (by omega) (by omega) (by omega) (by omega))
    obtain ⟨g2, e2, q1, q2⟩ := m_lays (m := m) (o := o) hc n3 n6 hMi hi hN2
    obtain ⟨hd, hdv⟩ := dgN_ok hi
    have hB2 : BAS g0 g2 := h1.tr ⟨fun a a1 a2 a3 a4 a5 a6 a7 a8 a9 => q1 a a4 a5 a6 a8 a9, fun i hi => by rw [q1 188 (by omega) (by omega) (by omega) (by omega) (by omega)]⟩
    have hS2 : SVM n co ((i - 1) * ordMany n) (svNum n co V (i - 1)) g2 := h2.congr (fun i _ _ => by rw [q1 188 (by omega) (by omega) (by omega) (by omega) (by omega)])
    have inner : ∀ (u : List Value), ∃ g'', kl_X11_goesThrough_51 s0 ([.ref 188, .int (nI c), .int (bW stops), .int (nI (nuN co n)), .int (nI i), .int (nI (cD n (dgN n co i))), .int (nI 0)] ++ u) [] (hp g2 m o) = some (some (.int (bW (decide ((svNum n co V (nuN co n - 1)).1 + (svNum n co V (nuN co n - 1)).2.1 = 0)))), hp g'' m o) ∧ BAS g0 g'' ∧ (stops = false → SVM n co ((nuN co n - 1) * ordMany n) (svNum n co V (nuN co n - 1)) g'') := by
      intro u
      unfold kl_X11_goesThrough_51
      refine kFor (ordMany n) (by unfold FU; omega) (fun k ls h' => ∃ (g3 : GG) (u : List Value), ls = [.ref 188, .int (nI c), .int (bW stops), .int (nI (nuN co n)), .int (nI i), .int (nI (cD n (dgN n co i))), .int (nI k)] ++ u ∧ h' = hp g3 m o ∧ BAS g0 g3 ∧ LYR n 0 co (dgN n co i) g3 ∧ SVM n co ((i - 1) * ordMany n + k) (svOrd n co V i k (svNum n co V (i - 1))) g3 ∧ (stops = true → (svOrd n co V i k (svNum n co V (i - 1))).1 + (svOrd n co V i k (svNum n co V (i - 1))).2.1 = 0)) (fun r => ∃ g'', r = some (some (.int (bW (decide ((svNum n co V (nuN co n - 1)).1 + (svNum n co V (nuN co n - 1)).2.1 = 0)))), hp g'' m o) ∧ BAS g0 g'' ∧ (stops = false → SVM n co ((nuN co n - 1) * ordMany n) (svNum n co V (nuN co n - 1)) g'')) ?_ ?_ 0 _ _ (by omega) ⟨g2, u, rfl, rfl, hB2, q2, hS2, h3⟩
      · rintro s1 ls h' ⟨g3, u, rfl, rfl, w1, w2, w3, w4⟩
        have en3 : g3 188 20 = nI n := by rw [w1.2 20 (by omega)]; exact hM.1
        have hin : (ordMany n ≤ ordMany n) = True := eq_true (by omega)
        have hsv : svNum n co V (i + 1 - 1) = svOrd n co V i (ordMany n) (svNum n co V (i - 1)) := by
          obtain ⟨i', rfl⟩ : ∃ i', i = i' + 1 := ⟨i - 1, by omega⟩
          rfl
        have hall : (i + 1 - 1) * ordMany n = (i - 1) * ordMany n + ordMany n := by
          obtain ⟨i', rfl⟩ : ∃ i', i = i' + 1 := ⟨i - 1, by omega⟩
          rw [Nat.add_sub_cancel, Nat.add_sub_cancel, Nat.succ_mul]
        have := ih ([.ref 188, .int (nI c), .int (bW stops), .int (nI (nuN co n)), .int (nI (i + 1))] ++ [.int (nI (cD n (dgN n co i))), .int (nI (ordMany n))]) (hp g3 m o) ⟨g3, _, rfl, rfl, by omega, w1, by rw [hsv, hall]; exact w3, by rw [hsv]; exact w4⟩
        simp only [List.cons_append, List.nil_append] at this
        simp (disch := first | assumption | omega) only [KL, KB, KC, KI, KJ, KZ, bI_0, bI_n, nI00, nI10, ne_eq, Classical.not_not, not_true_eq_false, not_false_eq_true, if_true, if_false, ite_not, ite_self, Bool.false_eq_true, nIne1, List.cons_append, List.nil_append, kMask, mask, O_mo, en3, eo, nIle, hin, nI_add]
        exact this
      · rintro s1 k hk ih2 ls h' ⟨g3, u, rfl, rfl, w1, w2, w3, w4⟩
        have en3 : g3 188 20 = nI n := by rw [w1.2 20 (by omega)]; exact hM.1
        have hin : (ordMany n ≤ k) = False := eq_false (by omega)
        obtain ⟨g4, e4, r1, r2⟩ := m_ranks g3 m o n k n3 n6 en3 hk
        have hL4 : LYR n 0 co (dgN n co i) g4 := w2.congr (fun a ha => r1 a (by omega))
        have hB4 : BAS g0 g4 := w1.tr ⟨fun a a1 a2 a3 a4 a5 a6 a7 a8 a9 => r1 a a7, fun i hi => by rw [r1 188 (by omega)]⟩
        have en4 : g4 188 20 = nI n := by rw [r1 188 (by omega)]; exact en3
        obtain ⟨g5, e5, v1⟩ := m_goers (m := m) (o := o) (hL4.ml en4) n6 (hV g4 (dgN n co i) k hd hk hB4 ⟨hL4, r2⟩) g4 SM.rfl'
        have hL5 : LYR n 0 co (dgN n co i) g5 := hL4.congr (fun a ha => v1 a (by omega) (by omega))
        have hB5 : BAS g0 g5 := hB4.tr ⟨fun a a1 a2 a3 a4 a5 a6 a7 a8 a9 => v1 a a2 a3, fun i hi => by rw [v1 188 (by omega) (by omega)]⟩
        have hS5 := w3.congr (g' := g5) (fun i _ _ => by rw [v1 188 (by omega) (by omega), r1 188 (by omega)])
        have en5 : g5 188 20 = nI n := by rw [v1 188 (by omega) (by omega)]; exact en4
        have hbd := sv_bound n co V n6 (i - 1) (by omega) (k + 1) (by omega)
        rw [show i - 1 + 1 = i by omega] at hbd
        have hGl : goS n (sD n (dgN n co i)) (WD n k co V (dgN n co i)) < 64 := goS_lt64 n6
        have hgz : (nI (goS n (sD n (dgN n co i)) (WD n k co V (dgN n co i))) = 0) = (goS n (sD n (dgN n co i)) (WD n k co V (dgN n co i)) = 0) := nIk0 (by omega)
        have hstep : svOrd n co V i (k + 1) (svNum n co V (i - 1)) = svStep n co V i k (svOrd n co V i k (svNum n co V (i - 1))) := rfl
        have hlast : (svOrd n co V i (k + 1) (svNum n co V (i - 1))).1 + (svOrd n co V i (k + 1) (svNum n co V (i - 1))).2.1 ≤ (svNum n co V (nuN co n - 1)).1 + (svNum n co V (nuN co n - 1)).2.1 := by
          have a1 := (svOrd_mono n co V i (svNum n co V (i - 1)) (k + 1) (ordMany n - (k + 1))).1
          have a2 := (svNum_mono n co V i (nuN co n - 1 - i)).1
          rw [show k + 1 + (ordMany n - (k + 1)) = ordMany n by omega] at a1
          rw [show i + (nuN co n - 1 - i) = nuN co n - 1 by omega] at a2
          have hsv : svNum n co V i = svOrd n co V i (ordMany n) (svNum n co V (i - 1)) := by
            obtain ⟨i', rfl⟩ : ∃ i', i = i' + 1 := ⟨i - 1, by omega⟩
            rfl
          rw [hsv] at a2
          omega
        -- from the state once it is counted
        have fin : ∀ (g6 : GG) (u : List Value), BAS g0 g6 → LYR n 0 co (dgN n co i) g6 → SVM n co ((i - 1) * ordMany n + (k + 1)) (svOrd n co V i (k + 1) (svNum n co V (i - 1))) g6 → ∃ g'', kb_X11_goesThrough_193 s0 s1 ([.ref 188, .int (nI c), .int (bW stops), .int (nI (nuN co n)), .int (nI i), .int (nI (cD n (dgN n co i))), .int (nI k)] ++ u) [] (hp g6 m o) = some (some (.int (bW (decide ((svNum n co V (nuN co n - 1)).1 + (svNum n co V (nuN co n - 1)).2.1 = 0)))), hp g'' m o) ∧ BAS g0 g'' ∧ (stops = false → SVM n co ((nuN co n - 1) * ordMany n) (svNum n co V (nuN co n - 1)) g'') := by
          intro g6 u x1 x2 x3
          rw [thru193 x3.2.1 x3.2.2.1 (by omega) u]
          by_cases hs : stops = true ∧ 0 < (svOrd n co V i (k + 1) (svNum n co V (i - 1))).1 + (svOrd n co V i (k + 1) (svNum n co V (i - 1))).2.1
          · rw [if_pos hs]
            refine ⟨g6, ?_, x1, fun q => by rw [hs.1] at q; cases q⟩
            rw [decide_eq_false (by omega)]
            rfl
          · rw [if_neg hs]
            exact ih2 _ _ ⟨g6, u, rfl, rfl, x1, x2, x3, fun q => by
              apply Classical.byContradiction
              intro q2
              exact hs ⟨q, by omega⟩⟩
        have fin7 := fun g6 => fin g6 [.int (nI (goS n (sD n (dgN n co i)) (WD n k co V (dgN n co i))))]
        simp only [List.cons_append, List.nil_append] at fin7
        clear fin hlast hbd
        generalize svOrd n co V i k (svNum n co V (i - 1)) = A at *
        generalize svOrd n co V i (k + 1) (svNum n co V (i - 1)) = A' at *
        obtain ⟨k37, k38, k39, k40, k43⟩ := hS5
        have bD : ∀ x, cD n (dgN n co x) ≤ n := fun x => cntN_le _ _
        have bDi := bD i
        by_cases hg0 : goS n (sD n (dgN n co i)) (WD n k co V (dgN n co i)) = 0
        · have hz : (goS n (sD n (dgN n co i)) (WD n k co V (dgN n co i)) = 0) = True := eq_true hg0
          have hst : svStep n co V i k A = (A.1 + 1, A.2.1, updL n co i k A.2.2.1, A.2.2.2) := if_pos hg0
          rw [hst] at hstep
          have e40 : upd2 (upd2 g5 188 37 (nI ((i - 1) * ordMany n + k + 1))) 188 38 (nI (A.1 + 1)) 188 40 = g5 188 40 := by rw [uO (by omega), uO (by omega)]
          have e38 : upd2 g5 188 37 (nI ((i - 1) * ordMany n + k + 1)) 188 38 = nI A.1 := by rw [uO (by omega)]; exact k38
          have put : A'.2.2.1 = some (i, k) → ∃ g'', kb_X11_goesThrough_193 s0 s1 [.ref 188, .int (nI c), .int (bW stops), .int (nI (nuN co n)), .int (nI i), .int (nI (cD n (dgN n co i))), .int (nI k), .int (nI (goS n (sD n (dgN n co i)) (WD n k co V (dgN n co i))))] [] (hp (upd2 (upd2 (upd2 (upd2 (upd2 g5 188 37 (nI ((i - 1) * ordMany n + k + 1))) 188 38 (nI (A.1 + 1))) 188 40 (nI (cD n (dgN n co i)))) 188 41 (nI i)) 188 42 (nI k)) m o) = some (some (.int (bW (decide ((svNum n co V (nuN co n - 1)).1 + (svNum n co V (nuN co n - 1)).2.1 = 0)))), hp g'' m o) ∧ BAS g0 g'' ∧ (stops = false → SVM n co ((nuN co n - 1) * ordMany n) (svNum n co V (nuN co n - 1)) g'') := by
            intro hq
            refine fin7 _ (hB5.tr ⟨fun a a1 _ _ _ _ _ _ _ _ => by rw [uN a1, uN a1, uN a1, uN a1, uN a1], fun i hi => by rw [uO (by omega), uO (by omega), uO (by omega), uO (by omega), uO (by omega)]⟩) (hL5.congr (fun a ha => by rw [uN (by omega), uN (by omega), uN (by omega), uN (by omega), uN (by omega)])) ?_
            refine ⟨by rw [uO (by omega), uO (by omega), uO (by omega), uO (by omega), uS]; rfl, by rw [uO (by omega), uO (by omega), uO (by omega), uS, hstep], by rw [uO (by omega), uO (by omega), uO (by omega), uO (by omega), uO (by omega), hstep]; exact k39, ?_, ?_⟩
            · rw [hq]
              exact ⟨by rw [uO (by omega), uO (by omega), uS], by rw [uO (by omega), uS], uS⟩
            · rw [hstep]
              rw [uO (by omega), uO (by omega), uO (by omega), uO (by omega), uO (by omega), uO (by omega), uO (by omega), uO (by omega), uO (by omega), uO (by omega), uO (by omega), uO (by omega), uO (by omega), uO (by omega), uO (by omega)]
              exact k43
          cases hA : A.2.2.1 with
          | none =>
            rw [hA] at k40
            have k40' : g5 188 40 = -1 := k40
            rw [k40'] at e40
            have := put (by rw [hstep]; show updL n co i k A.2.2.1 = _; rw [hA]; rfl)
            simp (disch := first | assumption | omega) only [kb_X11_goesThrough_117, KL, KB, KC, KI, KJ, KZ, bI_0, bI_n, nI00, nI10, ne_eq, Classical.not_not, not_true_eq_false, not_false_eq_true, if_true, if_false, ite_not, ite_self, Bool.false_eq_true, nIne1, List.cons_append, List.nil_append, kMask, mask, O_mo, en3, eo, nIle, hin, e4, e5, k37, nI_add, hgz, hz, e38, e40, eq_self]
            exact this
          | some q =>
            rw [hA] at k40
            have k40' : g5 188 40 = nI (cD n (dgN n co q.1)) := k40.1
            rw [k40'] at e40
            have bq := bD q.1
            by_cases hlt : cD n (dgN n co i) < cD n (dgN n co q.1)
            · have hle : (cD n (dgN n co q.1) ≤ cD n (dgN n co i)) = False := eq_false (by omega)
              have := put (by rw [hstep]; show updL n co i k A.2.2.1 = _; rw [hA]; exact updL_some hlt)
              simp (disch := first | assumption | omega) only [kb_X11_goesThrough_117, KL, KB, KC, KI, KJ, KZ, bI_0, bI_n, nI00, nI10, ne_eq, Classical.not_not, not_true_eq_false, not_false_eq_true, if_true, if_false, ite_not, ite_self, Bool.false_eq_true, nIne1, List.cons_append, List.nil_append, kMask, mask, O_mo, en3, eo, nIle, hin, e4, e5, k37, nI_add, hgz, hz, e38, e40, nIne1, hle]
              exact this
            · have hle : (cD n (dgN n co q.1) ≤ cD n (dgN n co i)) = True := eq_true (by omega)
              have := fin7 (upd2 (upd2 g5 188 37 (nI ((i - 1) * ordMany n + k + 1))) 188 38 (nI (A.1 + 1))) (hB5.tr ⟨fun a a1 _ _ _ _ _ _ _ _ => by rw [uN a1, uN a1], fun i hi => by rw [uO (by omega), uO (by omega)]⟩) (hL5.congr (fun a ha => by rw [uN (by omega), uN (by omega)])) ⟨by rw [uO (by omega), uS]; rfl, by rw [uS, hstep], by rw [uO (by omega), uO (by omega), hstep]; exact k39, by
                rw [hstep]
                show (match updL n co i k A.2.2.1 with
                  | none => _
                  | some q => _)
                rw [hA, updL_keep hlt]
                rw [uO (by omega), uO (by omega), uO (by omega), uO (by omega), uO (by omega), uO (by omega)]
                exact k40, by
                rw [hstep]
                rw [uO (by omega), uO (by omega), uO (by omega), uO (by omega), uO (by omega), uO (by omega)]
                exact k43⟩
              simp (disch := first | assumption | omega) only [kb_X11_goesThrough_117, KL, KB, KC, KI, KJ, KZ, bI_0, bI_n, nI00, nI10, ne_eq, Classical.not_not, not_true_eq_false, not_false_eq_true, if_true, if_false, ite_not, ite_self, Bool.false_eq_true, nIne1, List.cons_append, List.nil_append, kMask, mask, O_mo, en3, eo, nIle, hin, e4, e5, k37, nI_add, hgz, hz, e38, e40, nIne1, hle]
              exact this
        · have hz : (goS n (sD n (dgN n co i)) (WD n k co V (dgN n co i)) = 0) = False := eq_false hg0
          have hff := m_firstF (g := upd2 g5 188 37 (nI ((i - 1) * ordMany n + k + 1))) (m := m) (o := o) (s := goS n (sD n (dgN n co i)) (WD n k co V (dgN n co i))) (tt := fun r => (cG co (xD (dgN n co i) r)).1) (by rw [uO (by omega)]; exact en5) n6 hGl (fun r hr hb => by rw [uN (by omega)]; exact hL5.tt (hgoA _ hd) r hr (goS_sub r hb))
          have hFd : (fun x y => wayB x ((fun r => (cG co (xD (dgN n co i) r)).1) x) y ((fun r => (cG co (xD (dgN n co i) r)).1) y)) = FD co (dgN n co i) := rfl
          rw [hFd] at hff
          by_cases hf : ffJ n (goS n (sD n (dgN n co i)) (WD n k co V (dgN n co i))) (FD co (dgN n co i)) = -1
          · have hst : svStep n co V i k A = A := by unfold svStep; rw [if_neg hg0, if_neg (fun q => q hf)]
            rw [hst] at hstep
            have := fin7 (upd2 g5 188 37 (nI ((i - 1) * ordMany n + k + 1))) (hB5.tr ⟨fun a a1 _ _ _ _ _ _ _ _ => by rw [uN a1], fun i hi => by rw [uO (by omega)]⟩) (hL5.congr (fun a ha => by rw [uN (by omega)])) ⟨by rw [uS]; rfl, by rw [uO (by omega), hstep]; exact k38, by rw [uO (by omega), hstep]; exact k39, by
              rw [hstep, uO (by omega), uO (by omega), uO (by omega)]; exact k40, by
              rw [hstep, uO (by omega), uO (by omega), uO (by omega)]; exact k43⟩
            simp (disch := first | assumption | omega) only [KL, KB, KC, KI, KJ, KZ, bI_0, bI_n, nI00, nI10, ne_eq, Classical.not_not, not_true_eq_false, not_false_eq_true, if_true, if_false, ite_not, ite_self, Bool.false_eq_true, nIne1, List.cons_append, List.nil_append, kMask, mask, O_mo, en3, eo, nIle, hin, e4, e5, k37, nI_add, hgz, hz, hff, hf, eq_self]
            exact this
          · have hst : svStep n co V i k A = (A.1, A.2.1 + 1, A.2.2.1, updL n co i k A.2.2.2) := by unfold svStep; rw [if_neg hg0, if_pos hf]
            rw [hst] at hstep
            have e40 : upd2 (upd2 g5 188 37 (nI ((i - 1) * ordMany n + k + 1))) 188 39 (nI (A.2.1 + 1)) 188 43 = g5 188 43 := by rw [uO (by omega), uO (by omega)]
            have e38 : upd2 g5 188 37 (nI ((i - 1) * ordMany n + k + 1)) 188 39 = nI A.2.1 := by rw [uO (by omega)]; exact k39
            have put : A'.2.2.2 = some (i, k) → ∃ g'', kb_X11_goesThrough_193 s0 s1 [.ref 188, .int (nI c), .int (bW stops), .int (nI (nuN co n)), .int (nI i), .int (nI (cD n (dgN n co i))), .int (nI k), .int (nI (goS n (sD n (dgN n co i)) (WD n k co V (dgN n co i))))] [] (hp (upd2 (upd2 (upd2 (upd2 (upd2 g5 188 37 (nI ((i - 1) * ordMany n + k + 1))) 188 39 (nI (A.2.1 + 1))) 188 43 (nI (cD n (dgN n co i)))) 188 44 (nI i)) 188 45 (nI k)) m o) = some (some (.int (bW (decide ((svNum n co V (nuN co n - 1)).1 + (svNum n co V (nuN co n - 1)).2.1 = 0)))), hp g'' m o) ∧ BAS g0 g'' ∧ (stops = false → SVM n co ((nuN co n - 1) * ordMany n) (svNum n co V (nuN co n - 1)) g'') := by
              intro hq
              refine fin7 _ (hB5.tr ⟨fun a a1 _ _ _ _ _ _ _ _ => by rw [uN a1, uN a1, uN a1, uN a1, uN a1], fun i hi => by rw [uO (by omega), uO (by omega), uO (by omega), uO (by omega), uO (by omega)]⟩) (hL5.congr (fun a ha => by rw [uN (by omega), uN (by omega), uN (by omega), uN (by omega), uN (by omega)])) ?_
              refine ⟨by rw [uO (by omega), uO (by omega), uO (by omega), uO (by omega), uS]; rfl, by rw [uO (by omega), uO (by omega), uO (by omega), uO (by omega), uO (by omega), hstep]; exact k38, by rw [uO (by omega), uO (by omega), uO (by omega), uS, hstep], ?_, ?_⟩
              · rw [hstep]
                rw [uO (by omega), uO (by omega), uO (by omega), uO (by omega), uO (by omega), uO (by omega), uO (by omega), uO (by omega), uO (by omega), uO (by omega), uO (by omega), uO (by omega), uO (by omega), uO (by omega), uO (by omega)]
                exact k40
              · rw [hq]
                exact ⟨by rw [uO (by omega), uO (by omega), uS], by rw [uO (by omega), uS], uS⟩
            cases hA : A.2.2.2 with
            | none =>
              rw [hA] at k43
              have k40' : g5 188 43 = -1 := k43
              rw [k40'] at e40
              have := put (by rw [hstep]; show updL n co i k A.2.2.2 = _; rw [hA]; rfl)
              simp (disch := first | assumption | omega) only [kb_X11_goesThrough_175, KL, KB, KC, KI, KJ, KZ, bI_0, bI_n, nI00, nI10, ne_eq, Classical.not_not, not_true_eq_false, not_false_eq_true, if_true, if_false, ite_not, ite_self, Bool.false_eq_true, nIne1, List.cons_append, List.nil_append, kMask, mask, O_mo, en3, eo, nIle, hin, e4, e5, k37, nI_add, hgz, hz, hff, hf, e38, e40, eq_self]
              exact this
            | some q =>
              rw [hA] at k43
              have k40' : g5 188 43 = nI (cD n (dgN n co q.1)) := k43.1
              rw [k40'] at e40
              have bq := bD q.1
              by_cases hlt : cD n (dgN n co i) < cD n (dgN n co q.1)
              · have hle : (cD n (dgN n co q.1) ≤ cD n (dgN n co i)) = False := eq_false (by omega)
                have := put (by rw [hstep]; show updL n co i k A.2.2.2 = _; rw [hA]; exact updL_some hlt)
                simp (disch := first | assumption | omega) only [kb_X11_goesThrough_175, KL, KB, KC, KI, KJ, KZ, bI_0, bI_n, nI00, nI10, ne_eq, Classical.not_not, not_true_eq_false, not_false_eq_true, if_true, if_false, ite_not, ite_self, Bool.false_eq_true, nIne1, List.cons_append, List.nil_append, kMask, mask, O_mo, en3, eo, nIle, hin, e4, e5, k37, nI_add, hgz, hz, hff, hf, e38, e40, nIne1, hle]
                exact this
              · have hle : (cD n (dgN n co q.1) ≤ cD n (dgN n co i)) = True := eq_true (by omega)
                have := fin7 (upd2 (upd2 g5 188 37 (nI ((i - 1) * ordMany n + k + 1))) 188 39 (nI (A.2.1 + 1))) (hB5.tr ⟨fun a a1 _ _ _ _ _ _ _ _ => by rw [uN a1, uN a1], fun i hi => by rw [uO (by omega), uO (by omega)]⟩) (hL5.congr (fun a ha => by rw [uN (by omega), uN (by omega)])) ⟨by rw [uO (by omega), uS]; rfl, by rw [uO (by omega), uO (by omega), hstep]; exact k38, by rw [uS, hstep], by
                  rw [hstep]
                  rw [uO (by omega), uO (by omega), uO (by omega), uO (by omega), uO (by omega), uO (by omega)]
                  exact k40, by
                  rw [hstep]
                  show (match updL n co i k A.2.2.2 with
                    | none => _
                    | some q => _)
                  rw [hA, updL_keep hlt]
                  rw [uO (by omega), uO (by omega), uO (by omega), uO (by omega), uO (by omega), uO (by omega)]
                  exact k43⟩
                simp (disch := first | assumption | omega) only [kb_X11_goesThrough_175, KL, KB, KC, KI, KJ, KZ, bI_0, bI_n, nI00, nI10, ne_eq, Classical.not_not, not_true_eq_false, not_false_eq_true, if_true, if_false, ite_not, ite_self, Bool.false_eq_true, nIne1, List.cons_append, List.nil_append, kMask, mask, O_mo, en3, eo, nIle, hin, e4, e5, k37, nI_add, hgz, hz, hff, hf, e38, e40, nIne1, hle]
                exact this
    have h0 := inner []
    simp only [List.cons_append, List.nil_append] at h0
    match u with
    | [] =>
      simp (disch := first | assumption | omega) only [KL, KB, KC, KI, KJ, KZ, bI_0, bI_n, nI00, nI10, ne_eq, Classical.not_not, not_true_eq_false, not_false_eq_true, if_true, if_false, ite_not, ite_self, Bool.false_eq_true, nIne1, List.cons_append, List.nil_append, kMask, mask, nIle, hin, O_mo, e2]
      exact h0
    | [u0] =>
      simp (disch := first | assumption | omega) only [KL, KB, KC, KI, KJ, KZ, bI_0, bI_n, nI00, nI10, ne_eq, Classical.not_not, not_true_eq_false, not_false_eq_true, if_true, if_false, ite_not, ite_self, Bool.false_eq_true, nIne1, List.cons_append, List.nil_append, kMask, mask, nIle, hin, O_mo, e2]
      exact h0
    | u0 :: u1 :: u2 =>
      simp (disch := first | assumption | omega) only [KL, KB, KC, KI, KJ, KZ, bI_0, bI_n, nI00, nI10, ne_eq, Classical.not_not, not_true_eq_false, not_false_eq_true, if_true, if_false, ite_not, ite_self, Bool.false_eq_true, nIne1, List.cons_append, List.nil_append, kMask, mask, nIle, hin, O_mo, e2]
      exact h0
