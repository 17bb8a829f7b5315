-- ===== used: sets of lines; the class =====
/-- the line that a rule's rl says of two slots, y first (f) or later -/
def UF (n : Nat) (co : Nat → List Goods) (fa : FA) (x y : Nat) (f : Bool) : Nat → Int32 := fvec n (x / 2) (y / 2) (fun r => nI (fa 0 r)) (fun r => nI (fa 1 r)) (fun r => nI (fa 2 r)) (cG co x) (cG co y) (bW f)
def LNv (n : Nat) (co : Nat → List Goods) (fa : FA) (rl : ARule) (x y : Nat) (f : Bool) : Int32 := firstI (UF n co fa x y f) rl 0
def SUB (a b : Nat) : Prop := ∀ i, a.testBit i = true → b.testBit i = true
def inU (v : Int32) (s : Nat) : Prop := ∀ t, t < 16 → v = nI t → s.testBit t = true
def sndU (n : Nat) (co : Nat → List Goods) (fa : FA) (rl : ARule) (s : Nat) : Prop := s < 65536 ∧ ∀ t, s.testBit t = true → ∃ x y f, ftB co x y = true ∧ LNv n co fa rl x y f = nI t
theorem SUB.rfl' {a : Nat} : SUB a a := fun _ h => h
theorem SUB.tr {a b c : Nat} (h1 : SUB a b) (h2 : SUB b c) : SUB a c := fun i h => h2 i (h1 i h)
theorem SUB.orl (a b : Nat) : SUB a (a ||| b) := fun i h => by rw [Nat.testBit_or, h]; rfl
theorem SUB.orr (a b : Nat) : SUB b (a ||| b) := fun i h => by rw [Nat.testBit_or, h, Bool.or_true]
theorem inU.mono {v : Int32} {s t : Nat} (h : inU v s) (h2 : SUB s t) : inU v t := fun i hi e => h2 i (h i hi e)
theorem sndU.zero {n : Nat} {co : Nat → List Goods} {fa : FA} {rl : ARule} : sndU n co fa rl 0 := ⟨by omega, fun t h => by rw [Nat.zero_testBit] at h; cases h⟩
theorem sndU.or {n : Nat} {co : Nat → List Goods} {fa : FA} {rl : ARule} {a b : Nat} (h1 : sndU n co fa rl a) (h2 : sndU n co fa rl b) : sndU n co fa rl (a ||| b) := ⟨Nat.or_lt_two_pow (n := 16) h1.1 h2.1, fun t h => by
  rw [Nat.testBit_or, Bool.or_eq_true] at h
  exact h.elim (h1.2 t) (h2.2 t)⟩
theorem LNv_cases {n : Nat} {co : Nat → List Goods} {fa : FA} {rl : ARule} (hw : wfR rl) (x y : Nat) (f : Bool) : LNv n co fa rl x y f = -1 ∨ ∃ t, t < 16 ∧ LNv n co fa rl x y f = nI t := by
  rcases firstI_spec (UF n co fa x y f) rl 0 with ⟨a, -⟩ | ⟨t, z, a, b, -⟩
  · exact Or.inl a
  · have ht := (List.getElem?_eq_some_iff.mp a).1
    have := hw.1
    exact Or.inr ⟨t, by omega, by rw [Nat.zero_add] at b; exact b⟩
theorem inU_none {s : Nat} : inU (-1) s := fun t ht e => ((nIne1 (by omega)).mp e.symm).elim
theorem one_shl {t : Nat} (ht : t < 16) : 1 <<< t < 65536 := by
  rw [Nat.one_shiftLeft]
  have : (2 : Nat) ^ t < 2 ^ 16 := Nat.pow_lt_pow_right (by omega) ht
  omega
theorem sndU.put {n : Nat} {co : Nat → List Goods} {fa : FA} {rl : ARule} {x y t : Nat} {f : Bool} (hf : ftB co x y = true) (ht : t < 16) (e : LNv n co fa rl x y f = nI t) : sndU n co fa rl (1 <<< t) ∧ inU (LNv n co fa rl x y f) (1 <<< t) := by
  refine ⟨⟨one_shl ht, fun i h => ⟨x, y, f, hf, ?_⟩⟩, fun i hi h => ?_⟩
  · rw [Nat.one_shiftLeft, Nat.testBit_two_pow] at h
    rw [e, of_decide_eq_true h]
  · rw [e, nIeq (by omega) (by omega)] at h
    rw [Nat.one_shiftLeft, Nat.testBit_two_pow]
    exact decide_eq_true h
/-- sets that hold all the lines, and none else -/
theorem sndU.uniq {n : Nat} {co : Nat → List Goods} {fa : FA} {rl : ARule} {a b : Nat} (ha : sndU n co fa rl a) (hb : sndU n co fa rl b) (ca : ∀ x y f, ftB co x y = true → inU (LNv n co fa rl x y f) a) (cb : ∀ x y f, ftB co x y = true → inU (LNv n co fa rl x y f) b) : a = b := by
  have key : ∀ a b, sndU n co fa rl a → (∀ x y f, ftB co x y = true → inU (LNv n co fa rl x y f) b) → SUB a b := fun a b ha cb t h => by
    have ht : t < 16 := by
      apply Nat.lt_of_not_le
      intro q
      rw [Nat.testBit_lt_two_pow (Nat.lt_of_lt_of_le ha.1 (Nat.pow_le_pow_right (n := 2) (by omega) q))] at h
      cases h
    obtain ⟨x, y, f, hf, e⟩ := ha.2 t h
    exact cb x y f hf t ht e
  apply Nat.eq_of_testBit_eq
  intro i
  have h1 := key a b ha cb i
  have h2 := key b a hb ca i
  cases q1 : a.testBit i <;> cases q2 : b.testBit i <;> simp_all
theorem UF_at {n : Nat} {co : Nat → List Goods} {fa : FA} {x y : Nat} {f f' : Bool} {i : Nat} (h : i ≠ 14) : UF n co fa x y f i = UF n co fa x y f' i := by
  unfold UF fvec
  match i, h with
  | 14, h => exact absurd rfl h
  | 0, _ => rfl
  | 1, _ => rfl
  | 2, _ => rfl
  | 3, _ => rfl
  | 4, _ => rfl
  | 5, _ => rfl
  | 6, _ => rfl
  | 7, _ => rfl
  | 8, _ => rfl
  | 9, _ => rfl
  | 10, _ => rfl
  | 11, _ => rfl
  | 12, _ => rfl
  | 13, _ => rfl
  | _ + 15, _ => rfl
theorem c_linesFor {X n k x y : Nat} {co : Nat → List Goods} {fa : FA} {U : Nat → ARule} {K : Nat → Nat} {g : GG} {o : Nat} (hX : isX X) (hX1 : X + 9 < 77) (hX2 : 16 < X) (n3 : 3 ≤ n) (n6 : n ≤ 6) (hK : CK X n co fa U K g) (hk : k < 4) (hx : x < 12) (hy : y < 12) (hf : ftB co x y = true) : ∃ (l : Nat) (g' : GG), f_X0_linesFor [.ref 164, .ref (5 + 3 * k), .int (nI x), .int (nI y)] (hp g X o) = some (some (.int (nI l)), hp g' X o) ∧ (∀ a, a ≠ 78 → a ≠ 79 → g' a = g a) ∧ sndU n co fa (U k) l ∧ ∀ f, inU (LNv n co fa (U k) x y f) l := by
  have hRk := isR_live k hk
  obtain ⟨u1, u2⟩ := hK.2.2.2.1 k hk
  obtain ⟨t1, t2, t3, t4⟩ := ftB_th hf
  obtain ⟨x1, x2, x3⟩ := thB_lt hK.co hx t1
  obtain ⟨y1, y2, y3⟩ := thB_lt hK.co hy t2
  obtain ⟨g1, e1, p1, p2⟩ := c_put g X o X n (x / 2) (y / 2) (cG co x) (cG co y) hX (by omega) hK.1 n3 n6 x1 y1 (Ne.symm t3) x2.1 x2.2.2.1 x2.2.2.2 y2.1 y2.2.2.1 y2.2.2.2
  have hf0 := fun r (hr : r < n) => (hK.2.1 0 (by omega) r (by omega)).2
  have hf1 := fun r (hr : r < n) => (hK.2.1 1 (by omega) r (by omega)).2
  have hf2 := fun r (hr : r < n) => (hK.2.1 2 (by omega) r (by omega)).2
  simp only [Nat.mul_zero, Nat.zero_add] at hf0
  simp only [show 6 * 1 = 6 from rfl] at hf1
  simp only [show 6 * 2 = 12 from rfl] at hf2
  have hfv : fvec n (x / 2) (y / 2) (fun r => g (X + 1) r) (fun r => g (X + 1) (6 + r)) (fun r => g (X + 1) (12 + r)) (cG co x) (cG co y) (nI 0) = UF n co fa x y false := fvec_congr (hf0 _ x1) (hf0 _ y1) (hf1 _ x1) (hf1 _ y1) (hf2 _ x1) (hf2 _ y1)
  rw [hfv] at p2
  have rc : ∀ (g : GG) (k2 : KK) (ls st : List Value) (v0 : Value), kRecv 7 5 1 k2 ls (v0 :: .ref (5 + 3 * k) :: st) (hp g X o) = k2 ls (v0 :: .ref (5 + 3 * k) :: st) (hp g X o) := fun g k2 ls st v0 => rc_at hRk.1 rfl
  have lo : ∃ (l : Nat) (g' : GG), kl_X0_linesFor_41 [.ref 164, .ref (5 + 3 * k), .int (nI x), .int (nI y), .int (nI 0), .int (nI 0)] [] (hp g1 X o) = some (some (.int (nI l)), hp g' X o) ∧ (∀ a, a ≠ 78 → a ≠ 79 → g' a = g a) ∧ sndU n co fa (U k) l ∧ ∀ f, inU (LNv n co fa (U k) x y f) l := by
    unfold kl_X0_linesFor_41
    refine kFor 2 (by unfold FU; omega) (fun i ls h => ∃ (l : Nat) (g' : GG) (v w : Value) (u : List Value), ls = [.ref 164, .ref (5 + 3 * k), v, w, .int (nI l), .int (nI i)] ++ u ∧ h = hp g' X o ∧ (∀ a, a ≠ 78 → a ≠ 79 → g' a = g a) ∧ (∀ t, t < 16 → t ≠ 14 → g' 78 t = UF n co fa x y false t) ∧ sndU n co fa (U k) l ∧ ∀ f, bN f < i → inU (LNv n co fa (U k) x y f) l) (fun r => ∃ (l : Nat) (g' : GG), r = some (some (.int (nI l)), hp g' X o) ∧ (∀ a, a ≠ 78 → a ≠ 79 → g' a = g a) ∧ sndU n co fa (U k) l ∧ ∀ f, inU (LNv n co fa (U k) x y f) l) ?_ ?_ 0 _ _ (by omega) ⟨0, g1, _, _, [], rfl, rfl, fun a a1 _ => p1 a a1, fun t ht _ => p2 t ht, sndU.zero, fun f h => absurd h (by omega)⟩
    · rintro s0 ls h ⟨l, g', v, w, u, rfl, rfl, h1, h2, h3, h4⟩
      have hin : (2 ≤ 2) = True := eq_true (by omega)
      simp (disch := first | assumption | omega) only [KL, KB, KC, KI, KJ, KZ, bI_0, bI_n, nI00, nI10, ne_eq, Classical.not_not, not_true_eq_false, not_false_eq_true, if_true, if_false, ite_not, ite_self, Bool.false_eq_true, nIne1, List.cons_append, List.nil_append, kMask, mask, mask_n, nIle, hin]
      exact ⟨l, g', rfl, h1, h3, fun f => h4 f (by cases f <;> decide)⟩
    · rintro s0 i hi ih ls h ⟨l, g', v, w, u, rfl, rfl, h1, h2, h3, h4⟩
      have hin : (2 ≤ i) = False := eq_false (by omega)
      obtain ⟨f, hfi⟩ : ∃ f, bN f = i := by
        rcases (by omega : i = 0 ∨ i = 1) with e | e
        · exact ⟨false, e.symm⟩
        · exact ⟨true, e.symm⟩
      have hbf : nI i = bW f := by rw [bW_bN, hfi]
      obtain ⟨g2, e2, q2⟩ := c_first (upd2 g' 78 14 (nI i)) X o (5 + 3 * k) (U k) (UF n co fa x y f) hRk (by omega) (u2.congr (fun a _ _ => by rw [uN (by omega)]; exact h1 a (by omega) (by omega))) u1 (fun t ht => by
        by_cases q : t = 14
        · subst q; rw [uS, hbf]; rfl
        · rw [uO (Or.inr q), h2 t ht q]; exact UF_at q)
      have e2' : f_X7_firstLine [.ref (5 + 3 * k), .ref 77] (hp (upd2 g' 78 14 (nI i)) X o) = some (some (.int (LNv n co fa (U k) x y f)), hp g2 X o) := e2
      have hn : (∀ a, a ≠ 78 → a ≠ 79 → g2 a = g a) ∧ ∀ t, t < 16 → t ≠ 14 → g2 78 t = UF n co fa x y false t := ⟨fun a a1 a2 => by rw [q2 a a2, uN a1]; exact h1 a a1 a2, fun t ht h14 => by rw [q2 78 (by omega), uO (Or.inr h14)]; exact h2 t ht h14⟩
      have hlast : ∀ f', bN f' < i + 1 → bN f' < i ∨ f' = f := fun f' h' => by
        rcases (by omega : bN f' < i ∨ bN f' = i) with e | e
        · exact Or.inl e
        · right
          rw [← hfi] at e
          cases f' <;> cases f <;> first | rfl | exact absurd e (by decide)
      rcases LNv_cases (n := n) (co := co) (fa := fa) u1 x y f with e0 | ⟨t, ht, e0⟩
      · rw [e0] at e2'
        simp (disch := first | assumption | omega) only [kb_X0_linesFor_84, KL, KB, KC, KI, KJ, KZ, bI_0, bI_n, nI00, nI10, ne_eq, Classical.not_not, not_true_eq_false, not_false_eq_true, if_true, if_false, ite_not, ite_self, Bool.false_eq_true, nIne1, List.cons_append, List.nil_append, kMask, mask, mask_n, nIle, hin, O_co, O_pr, AR, rc, e2', eq_self, nI_add]
        exact ih _ _ ⟨l, g2, _, _, _, rfl, rfl, hn.1, hn.2, h3, fun f' h' => by
          rcases hlast f' h' with e | e
          · exact h4 f' e
          · rw [e, e0]; exact inU_none⟩
      · rw [e0] at e2'
        obtain ⟨w1, w2⟩ := sndU.put (f := f) hf ht e0
        simp (disch := first | assumption | omega) only [kb_X0_linesFor_84, KL, KB, KC, KI, KJ, KZ, bI_0, bI_n, nI00, nI10, ne_eq, Classical.not_not, not_true_eq_false, not_false_eq_true, if_true, if_false, ite_not, ite_self, Bool.false_eq_true, nIne1, List.cons_append, List.nil_append, kMask, mask, mask_n, nIle, hin, O_co, O_pr, AR, rc, e2', nI_shl, nI_or, nI_add]
        exact ih _ _ ⟨l ||| 1 <<< t, g2, _, _, _, rfl, rfl, hn.1, hn.2, h3.or w1, fun f' h' => by
          rcases hlast f' h' with e | e
          · exact (h4 f' e).mono (SUB.orl _ _)
          · rw [e]; exact w2.mono (SUB.orr _ _)⟩
  obtain ⟨l, g', e2, q1, q2, q3⟩ := lo
  refine ⟨l, g', ?_, q1, q2, q3⟩
  rw [← e2]
  simp (disch := first | assumption | omega) only [f_X0_linesFor, kb_X0_linesFor_0, KL, KB, KC, KI, KJ, KZ, bI_0, bI_n, nI00, nI10, ne_eq, Classical.not_not, not_true_eq_false, not_false_eq_true, if_true, if_false, ite_not, ite_self, Bool.false_eq_true, nIne1, O_co, O_pr, XO, AR, nI_shr, nd2, x3, y3, e1]
theorem c_usedLines {X n k : Nat} {co : Nat → List Goods} {fa : FA} {U : Nat → ARule} {K : Nat → Nat} {g : GG} {m o : Nat} (hX : isX X) (hX1 : X + 9 < 77) (hX2 : 16 < X) (n3 : 3 ≤ n) (n6 : n ≤ 6) (hK : CK X n co fa U K g) (hco : ∀ r, n ≤ r → co r = []) (hk : k < 4) : ∃ (s : Nat) (g' : GG), f_X0_usedLines [.ref 164, .ref X, .ref (5 + 3 * k)] (hp g m o) = some (some (.int (nI s)), hp g' X (OO n)) ∧ (∀ a, a ≠ 78 → a ≠ 79 → a ≠ 164 → a ≠ 167 → g' a = g a) ∧ (∀ i, i ≠ 5 → g' 164 i = g 164 i) ∧ sndU n co fa (U k) s ∧ ∀ x y f, ftB co x y = true → inU (LNv n co fa (U k) x y f) s := by
  obtain ⟨g1, e1, p1, p2, p3, p4⟩ := c_meet (g := g) (m := m) (o := o) hX (by omega) n3 n6 hK.co
  have hK1 : CK X n co fa U K g1 := hK.congr hX1 hX2 (fun a a1 a2 a3 a4 => p1 a (by omega) (by omega))
  have hb : ∀ x, thB co x = true → x < 12 := fun x tx => by
    have tx' : x % 2 < (co (x / 2)).length := of_decide_eq_true tx
    apply Nat.lt_of_not_le
    intro h
    rw [hco (x / 2) (by omega)] at tx'
    exact absurd tx' (Nat.not_lt_zero _)
  have lo : ∃ (s : Nat) (g' : GG), kl_X0_usedLines_10 [.ref 164, .ref X, .ref (5 + 3 * k), .int (nI 0), .int (nI 0)] [] (hp g1 X (OO n)) = some (some (.int (nI s)), hp g' X (OO n)) ∧ SC g1 g' ∧ sndU n co fa (U k) s ∧ ∀ x y f, x < 12 → y < 12 → ftB co x y = true → inU (LNv n co fa (U k) x y f) s := by
    unfold kl_X0_usedLines_10
    refine kFor 12 (by unfold FU; omega) (fun i ls h => ∃ (s : Nat) (g' : GG) (v : Value) (u : List Value), ls = [.ref 164, v, .ref (5 + 3 * k), .int (nI s), .int (nI i)] ++ u ∧ h = hp g' X (OO n) ∧ SC g1 g' ∧ sndU n co fa (U k) s ∧ ∀ x y f, x < i → y < 12 → ftB co x y = true → inU (LNv n co fa (U k) x y f) s) (fun r => ∃ (s : Nat) (g' : GG), r = some (some (.int (nI s)), hp g' X (OO n)) ∧ SC g1 g' ∧ sndU n co fa (U k) s ∧ ∀ x y f, x < 12 → y < 12 → ftB co x y = true → inU (LNv n co fa (U k) x y f) s) ?_ ?_ 0 _ _ (by omega) ⟨0, g1, _, [], rfl, rfl, SC.rfl', sndU.zero, fun x y f h => absurd h (by omega)⟩
    · rintro s0 ls h ⟨s, g', v, u, rfl, rfl, h1, h2, h3⟩
      have hin : (12 ≤ 12) = True := eq_true (by omega)
      simp (disch := first | assumption | omega) only [KL, KB, KC, KI, KJ, KZ, bI_0, bI_n, nI00, nI10, ne_eq, Classical.not_not, not_true_eq_false, not_false_eq_true, if_true, if_false, ite_not, ite_self, Bool.false_eq_true, nIne1, List.cons_append, List.nil_append, kMask, mask, mask_n, nIle, hin]
      exact ⟨s, g', rfl, h1, h2, h3⟩
    · rintro s0 i hi ih ls h ⟨s, g', v, u, rfl, rfl, h1, h2, h3⟩
      have hin : (12 ≤ i) = False := eq_false (by omega)
      have inn : ∀ v, (fun r => ∃ (s : Nat) (g' : GG), r = some (some (.int (nI s)), hp g' X (OO n)) ∧ SC g1 g' ∧ sndU n co fa (U k) s ∧ ∀ x y f, x < 12 → y < 12 → ftB co x y = true → inU (LNv n co fa (U k) x y f) s) (kl_X0_usedLines_20 s0 [.ref 164, v, .ref (5 + 3 * k), .int (nI s), .int (nI i), .int (nI 0)] [] (hp g' X (OO n))) := by
        intro v
        unfold kl_X0_usedLines_20
        refine kFor 12 (by unfold FU; omega) (fun jj ls h => ∃ (s' : Nat) (g' : GG) (v : Value), ls = [.ref 164, v, .ref (5 + 3 * k), .int (nI s'), .int (nI i), .int (nI jj)] ∧ h = hp g' X (OO n) ∧ SC g1 g' ∧ SUB s s' ∧ sndU n co fa (U k) s' ∧ ∀ y f, y < jj → ftB co i y = true → inU (LNv n co fa (U k) i y f) s') (fun r => ∃ (s : Nat) (g' : GG), r = some (some (.int (nI s)), hp g' X (OO n)) ∧ SC g1 g' ∧ sndU n co fa (U k) s ∧ ∀ x y f, x < 12 → y < 12 → ftB co x y = true → inU (LNv n co fa (U k) x y f) s) ?_ ?_ 0 _ _ (by omega) ⟨s, g', v, rfl, rfl, h1, SUB.rfl', h2, fun y f h => absurd h (by omega)⟩
        · rintro s1 ls h ⟨s', g2, v, rfl, rfl, w1, w2, w3, w4⟩
          have hin : (12 ≤ 12) = True := eq_true (by omega)
          have := ih [.ref 164, .long 0, .ref (5 + 3 * k), .int (nI s'), .int (nI (i + 1)), .int (nI 12)] (hp g2 X (OO n)) ⟨s', g2, _, [.int (nI 12)], rfl, rfl, w1, w3, fun x y f hx hy hxy => by
            by_cases q : x = i
            · subst q; exact w4 y f hy hxy
            · exact (h3 x y f (by omega) hy hxy).mono w2⟩
          simp (disch := first | assumption | omega) only [KL, KB, KC, KI, KJ, KZ, bI_0, bI_n, nI00, nI10, ne_eq, Classical.not_not, not_true_eq_false, not_false_eq_true, if_true, if_false, ite_not, ite_self, Bool.false_eq_true, nIne1, List.cons_append, List.nil_append, kMask, mask, mask_n, nIle, hin, nI_add]
          exact this
        · rintro s1 jj hj ih2 ls h ⟨s', g2, v, rfl, rfl, w1, w2, w3, w4⟩
          have hin : (12 ≤ jj) = False := eq_false (by omega)
          have ef : g2 167 i = nI (setN (ftB co i) 12) := by rw [w1 167 (by omega) (by omega)]; exact p4 i hi
          have hS12 := setN_lt12 (ftB co i)
          have hb1 : (nI ((setN (ftB co i) 12 >>> jj) &&& 1) = 0) = (ftB co i jj = false) := by
            rw [bit0, Nat.testBit_shiftRight, Nat.add_zero, setN_bit, decide_eq_true hj, Bool.true_and]
          cases hxy : ftB co i jj with
          | false =>
            have hx' : (ftB co i jj = false) = True := eq_true hxy
            simp (disch := first | assumption | omega) only [kb_X0_usedLines_54, KL, KB, KC, KI, KJ, KZ, bI_0, bI_n, nI00, nI10, ne_eq, Classical.not_not, not_true_eq_false, not_false_eq_true, if_true, if_false, ite_not, ite_self, Bool.false_eq_true, nIne1, List.cons_append, List.nil_append, kMask, mask, mask_n, nIle, hin, O_co, AR, ef, nI_shr, nI_and, hb1, hx', nI_add]
            refine ih2 _ _ ⟨s', g2, _, rfl, rfl, w1, w2, w3, fun y f hy hxy' => ?_⟩
            by_cases q : y = jj
            · subst q; rw [hxy] at hxy'; cases hxy'
            · exact w4 y f (by omega) hxy'
          | true =>
            have hx' : (ftB co i jj = false) = False := eq_false (by rw [hxy]; decide)
            have hK2 : CK X n co fa U K g2 := hK1.congr hX1 hX2 (fun a a1 a2 a3 a4 => w1 a (by omega) (by omega))
            obtain ⟨l, g3, e3, v1, v2, v3⟩ := c_linesFor (o := OO n) hX hX1 hX2 n3 n6 hK2 hk hi hj hxy
            simp (disch := first | assumption | omega) only [kb_X0_usedLines_54, KL, KB, KC, KI, KJ, KZ, bI_0, bI_n, nI00, nI10, ne_eq, Classical.not_not, not_true_eq_false, not_false_eq_true, if_true, if_false, ite_not, ite_self, Bool.false_eq_true, nIne1, List.cons_append, List.nil_append, kMask, mask, mask_n, nIle, hin, O_co, AR, ef, nI_shr, nI_and, hb1, hx', nI_add, e3, nI_or]
            refine ih2 _ _ ⟨s' ||| l, g3, _, rfl, rfl, w1.tr v1, w2.tr (SUB.orl _ _), w3.or v2, fun y f hy hxy' => ?_⟩
            by_cases q : y = jj
            · subst q; exact (v3 f).mono (SUB.orr _ _)
            · exact (w4 y f (by omega) hxy').mono (SUB.orl _ _)
      have h0 := inn (.long 0)
      simp (disch := first | assumption | omega) only [KL, KB, KC, KI, KJ, KZ, bI_0, bI_n, nI00, nI10, ne_eq, Classical.not_not, not_true_eq_false, not_false_eq_true, if_true, if_false, ite_not, ite_self, Bool.false_eq_true, nIne1, List.cons_append, List.nil_append, kMask, mask, mask_n, nIle, hin]
      exact h0
  obtain ⟨s, g', e2, q1, q2, q3⟩ := lo
  refine ⟨s, g', ?_, fun a a1 a2 a3 a4 => by rw [q1 a a1 a2, p1 a (by omega) (by omega)], fun i hi => by rw [q1 164 (by omega) (by omega)]; exact p2 i hi, q2, fun x y f hxy => ?_⟩
  · rw [← e2]
    simp (disch := first | assumption | omega) only [f_X0_usedLines, kb_X0_usedLines_0, KL, KB, KC, KI, KJ, KZ, bI_0, bI_n, nI00, nI10, ne_eq, Classical.not_not, not_true_eq_false, not_false_eq_true, if_true, if_false, ite_not, ite_self, Bool.false_eq_true, nIne1, O_co, e1]
  · obtain ⟨t1, t2, -⟩ := ftB_th hxy
    exact q3 x y f (hb x t1) (hb y t2) hxy
