-- ===== the class's reader follows the automaton: the leaves =====
theorem O_dr : (∀ (k : KK) (ls st : List Value) (g : GG) (m o : Nat), kRecv 7 5 0 k ls (.ref 160 :: st) (hp g m o) = k ls (.ref 160 :: st) (hp g m o)) ∧ (∀ (k : KK) (ls st : List Value) (g : GG) (m o : Nat) (v0 : Value), kRecv 7 5 1 k ls (v0 :: .ref 160 :: st) (hp g m o) = k ls (v0 :: .ref 160 :: st) (hp g m o)) ∧ (∀ (k : KK) (ls st : List Value) (g : GG) (m o : Nat), kGetI 7 5 0 k ls (.ref 160 :: st) (hp g m o) = k ls (.int (g 160 0) :: st) (hp g m o)) ∧ (∀ (k : KK) (ls st : List Value) (g : GG) (m o : Nat), kGetI 7 5 1 k ls (.ref 160 :: st) (hp g m o) = k ls (.int (g 160 1) :: st) (hp g m o)) ∧ (∀ (k : KK) (ls st : List Value) (g : GG) (m o : Nat) (x : Int32), kPutI 7 5 0 k ls (.int x :: .ref 160 :: st) (hp g m o) = k ls st (hp (upd2 g 160 0 x) m o)) ∧ (∀ (k : KK) (ls st : List Value) (g : GG) (m o : Nat) (x : Int32), kPutI 7 5 1 k ls (.int x :: .ref 160 :: st) (hp g m o) = k ls st (hp (upd2 g 160 1 x) m o)) ∧ (∀ (k : KK) (ls st : List Value) (g : GG) (m o : Nat), kGetI 7 5 2 k ls (.ref 160 :: st) (hp g m o) = k ls (.int (g 160 2) :: st) (hp g m o)) ∧ (∀ (k : KK) (ls st : List Value) (g : GG) (m o : Nat) (x : Int32), kPutI 7 5 2 k ls (.int x :: .ref 160 :: st) (hp g m o) = k ls st (hp (upd2 g 160 2 x) m o)) ∧ (∀ (k : KK) (ls st : List Value) (g : GG) (m o : Nat), kGetR 7 5 3 k ls (.ref 160 :: st) (hp g m o) = k ls (.ref 161 :: st) (hp g m o)) ∧ (∀ (k : KK) (ls st : List Value) (g : GG) (m o : Nat), kGetR 7 5 4 k ls (.ref 160 :: st) (hp g m o) = k ls (.ref 162 :: st) (hp g m o)) ∧ (∀ (k : KK) (ls st : List Value) (g : GG) (m o i : Nat) (x : Int32), i < 17 → kIas k ls (.int x :: .int (nI i) :: .ref 161 :: st) (hp g m o) = k ls st (hp (upd2 g 161 i x) m o)) ∧ (∀ (k : KK) (ls st : List Value) (g : GG) (m o i : Nat) (x : Int32), i < 400 → kIas k ls (.int x :: .int (nI i) :: .ref 162 :: st) (hp g m o) = k ls st (hp (upd2 g 162 i x) m o)) :=
  have s0 : SH 160 = (47, 5) := isR_168.1
  have sR := isR_168.2.2.2
  ⟨fun _ _ _ _ _ _ => rc_at s0 rfl, fun _ _ _ _ _ _ _ => rc_at s0 rfl, fun k ls st _ _ _ => gi_at s0 k ls st, fun k ls st _ _ _ => gi_at s0 k ls st, fun k ls st _ _ _ _ => pi_at s0 k ls st, fun k ls st _ _ _ _ => pi_at s0 k ls st, fun k ls st _ _ _ => gi_at s0 k ls st, fun k ls st _ _ _ _ => pi_at s0 k ls st, fun k ls st _ m o => gr_at s0 (sR m o 1 (by decide) (by decide)) k ls st, fun k ls st _ m o => gr_at s0 (sR m o 2 (by decide) (by decide)) k ls st, fun k ls st _ _ _ _ _ hi => ias_at isR_168.2.1 (by decide) hi k ls st, fun k ls st _ _ _ _ _ hi => ias_at isR_168.2.2.1 (by decide) hi k ls st⟩
theorem c_bindK {k : Nat} (hk : okP k ∨ k = 26) (h : HP) : f_X5_binding [.int (nI k)] h = some (some (.int (nI (bnd k))), h) := by
  have : k = 19 ∨ k = 20 ∨ k = 21 ∨ k = 23 ∨ k = 24 ∨ k = 25 ∨ k = 26 ∨ k = 27 ∨ k = 29 ∨ k = 30 ∨ k = 31 := by unfold okP at hk; omega
  rcases this with rfl | rfl | rfl | rfl | rfl | rfl | rfl | rfl | rfl | rfl | rfl
  all_goals exact Eq.trans rfl rfl
theorem opC_pend {k : Nat} (hk : okP k) (h : k ≠ 27) : opC (opM k, 0) = nI k := by
  have : k = 19 ∨ k = 20 ∨ k = 21 ∨ k = 23 ∨ k = 24 ∨ k = 25 ∨ k = 29 ∨ k = 30 ∨ k = 31 := by unfold okP at hk; omega
  rcases this with rfl | rfl | rfl | rfl | rfl | rfl | rfl | rfl | rfl
  all_goals exact Eq.trans rfl rfl
theorem bnd_le (k : Nat) : bnd k ≤ 6 := by unfold bnd; (repeat' split) <;> omega
theorem c_add {g : GG} {m o n : Nat} (h1 : g 160 1 = nI n) (hn : n < 400) (x : Int32) : f_X7_add [.ref 160, .int x] (hp g m o) = some (none, hp (upd2 (upd2 g 162 n x) 160 1 (nI (n + 1))) m o) := by
  have hin : (400 ≤ n) = False := eq_false (by omega)
  have e1 : upd2 g 162 n x 160 1 = nI n := by rw [uN (by omega)]; exact h1
  simp (disch := first | assumption | omega) only [f_X7_add, kb_X7_add_30, kb_X7_add_0, KL, KB, KC, KI, KJ, KZ, bI_0, bI_n, nI00, nI10, ne_eq, Classical.not_not, not_true_eq_false, not_false_eq_true, if_true, if_false, ite_not, ite_self, Bool.false_eq_true, nIne1, O_dr, h1, e1, nIle, hin, nI_add]
def PK (g : GG) (pe : List Nat) : Prop := ∀ (i k : Nat), pe[i]? = some k → g 163 (pe.length - 1 - i) = nI k
theorem PK.tail {g : GG} {x : Nat} {t : List Nat} (h : PK g (x :: t)) : PK g t := by
  intro i y hy
  have hi := (List.getElem?_eq_some_iff.mp hy).1
  have := h (i + 1) y (by rw [List.getElem?_cons_succ]; exact hy)
  rw [List.length_cons] at this
  rw [show t.length - 1 - i = t.length + 1 - 1 - (i + 1) by omega]
  exact this
theorem PK.top {g : GG} {x : Nat} {t : List Nat} (h : PK g (x :: t)) : g 163 t.length = nI x := by
  have := h 0 x rfl
  rwa [List.length_cons, Nat.add_sub_cancel, Nat.sub_zero] at this
theorem PK.put {g : GG} {t : List Nat} (h : PK g t) (v : Nat) : PK (upd2 g 163 t.length (nI v)) (v :: t) := by
  intro i y hy
  rw [List.length_cons]
  cases i with
  | zero => cases hy; rw [show t.length + 1 - 1 - 0 = t.length by omega, uS]
  | succ i =>
    rw [List.getElem?_cons_succ] at hy
    have hi := (List.getElem?_eq_some_iff.mp hy).1
    rw [uO (by omega), show t.length + 1 - 1 - (i + 1) = t.length - 1 - i by omega]
    exact h i y hy
theorem PK.congr {g g' : GG} {t : List Nat} (h : PK g t) (e : g' 163 = g 163) : PK g' t := fun i k hk => by rw [e]; exact h i k hk
def PKR (g : GG) (pe : List Nat) : Prop := g 158 6 = nI pe.length ∧ PK g pe ∧ g 158 7 = nI (opn pe)
def DRF (g : GG) (rl : ARule) (cur : List (Nat × Nat)) : Prop := g 160 0 = nI rl.length ∧ g 160 1 = nI (allS rl ++ cur).length ∧ g 160 2 = nI (wtN rl) ∧ (∀ i, i ≤ rl.length → g 161 i = nI (lnB rl i)) ∧ ∀ (t : Nat) (z : Nat × Nat), (allS rl ++ cur)[t]? = some z → g 162 t = opC z
theorem DRF.congr {g g' : GG} {rl : ARule} {cur : List (Nat × Nat)} (h : DRF g rl cur) (h1 : ∀ a, 160 ≤ a → a ≤ 162 → g' a = g a) : DRF g' rl cur := by
  obtain ⟨a, b, c, d, e⟩ := h
  refine ⟨by rw [h1 160 (by omega) (by omega)]; exact a, by rw [h1 160 (by omega) (by omega)]; exact b, by rw [h1 160 (by omega) (by omega)]; exact c, fun i hi => by rw [h1 161 (by omega) (by omega)]; exact d i hi, fun t z hz => by rw [h1 162 (by omega) (by omega)]; exact e t z hz⟩
theorem DRF.add {g : GG} {rl : ARule} {cur : List (Nat × Nat)} (h : DRF g rl cur) (z : Nat × Nat) : DRF (upd2 (upd2 g 162 (allS rl ++ cur).length (opC z)) 160 1 (nI ((allS rl ++ cur).length + 1))) rl (cur ++ [z]) := by
  obtain ⟨a, b, c, d, e⟩ := h
  have en : (allS rl ++ (cur ++ [z])).length = (allS rl ++ cur).length + 1 := by rw [← List.append_assoc, List.length_append, List.length_cons, List.length_nil]
  refine ⟨by rw [uO (by omega), uN (by omega)]; exact a, by rw [en]; exact uS, by rw [uO (by omega), uN (by omega)]; exact c, fun i hi => by rw [uN (by omega), uN (by omega)]; exact d i hi, fun t y hy => ?_⟩
  rw [← List.append_assoc] at hy
  rw [uN (by omega)]
  by_cases w : t < (allS rl ++ cur).length
  · rw [List.getElem?_append_left w] at hy
    rw [uO (by omega)]; exact e t y hy
  · have hlt := (List.getElem?_eq_some_iff.mp hy).1
    rw [List.length_append, List.length_cons, List.length_nil] at hlt
    have ht : t = (allS rl ++ cur).length := by omega
    rw [ht] at hy ⊢
    rw [List.getElem?_append_right (Nat.le_refl _), Nat.sub_self] at hy
    cases hy
    exact uS
/-- what a release may change -/
def RFR (g g' : GG) : Prop := (∀ a, a ≠ 158 → a ≠ 160 → a ≠ 162 → a ≠ 163 → g' a = g a) ∧ ∀ i, i ≠ 6 → i ≠ 7 → g' 158 i = g 158 i
theorem c_release {g : GG} {m o mm : Nat} {rl : ARule} (h1 : 1 ≤ mm) (hm6 : mm ≤ 6) {pe : List Nat} {cur : List (Nat × Nat)} (hok : ∀ k ∈ pe, okP k) (hp60 : pe.length ≤ 62) (hsz : (allS rl).length + cur.length + pe.length ≤ 400) (hP : PKR g pe) (hD : DRF g rl cur) : ∃ g', f_X5_release [.ref 158, .int (nI mm)] (hp g m o) = some (none, hp g' m o) ∧ PKR g' (rlA mm pe cur).1 ∧ DRF g' rl (rlA mm pe cur).2 ∧ RFR g g' := by
  have key : ∃ g', kl_X5_release_0 [.ref 158, .int (nI mm)] [] (hp g m o) = some (none, hp g' m o) ∧ PKR g' (rlA mm pe cur).1 ∧ DRF g' rl (rlA mm pe cur).2 ∧ RFR g g' := by
    unfold kl_X5_release_0
    refine kFix_rule (fun n ls st h => ∃ (l : List Nat) (c : List (Nat × Nat)) (g1 : GG), l.length = n ∧ ls = [.ref 158, .int (nI mm)] ∧ st = [] ∧ h = hp g1 m o ∧ (∀ k ∈ l, okP k) ∧ l.length ≤ 62 ∧ (allS rl).length + c.length + l.length ≤ 400 ∧ PKR g1 l ∧ DRF g1 rl c ∧ RFR g g1 ∧ rlA mm l c = rlA mm pe cur) (fun r => ∃ g', r = some (none, hp g' m o) ∧ PKR g' (rlA mm pe cur).1 ∧ DRF g' rl (rlA mm pe cur).2 ∧ RFR g g') ?_ FU pe.length (by unfold FU; omega) _ _ _ ⟨pe, cur, g, rfl, rfl, rfl, rfl, hok, hp60, hsz, hP, hD, ⟨fun _ _ _ _ _ => rfl, fun _ _ _ => rfl⟩, rfl⟩
    rintro s n ih ls st h ⟨l, c, g1, hn, rfl, rfl, rfl, w1, w2, w3, w4, w5, w6, w7⟩
    obtain ⟨p1, p2, p3⟩ := w4
    cases l with
    | nil =>
      have z0 : (nI 0 ≤ (0 : Int32)) = True := eq_true (by decide)
      have p1' : g1 158 6 = nI 0 := p1
      have e7 : rlA mm pe cur = ([], c) := w7.symm
      rw [e7]
      refine ⟨g1, ?_, ⟨p1, p2, p3⟩, w5, w6⟩
      simp (disch := first | assumption | omega) only [kb_X5_release_78, KL, KB, KC, KI, KJ, KZ, bI_0, bI_n, nI00, nI10, ne_eq, Classical.not_not, not_true_eq_false, not_false_eq_true, if_true, if_false, ite_not, ite_self, Bool.false_eq_true, nIne1, kMask, mask, mask_n, O_rd, p1', z0]
    | cons k l =>
      have hk := w1 k (List.mem_cons_self ..)
      rw [List.length_cons] at w2 w3 hn p1
      have pos : (nI (l.length + 1) ≤ (0 : Int32)) = False := by rw [nIle0 (by omega)]; exact eq_false (by omega)
      have hsub : nI (l.length + 1) - nI 1 = nI l.length := by rw [nI_sub (by omega)]; rfl
      have l400 : l.length < 64 := by omega
      have top := p2.top
      have eb := fun h => c_bindK (Or.inl hk) h
      have b6 := bnd_le k
      by_cases cc : bnd k < mm
      · have cc' : (bnd k < mm) = True := eq_true cc
        have e7 : rlA mm pe cur = (k :: l, c) := by rw [← w7]; exact if_pos cc
        rw [e7]
        refine ⟨g1, ?_, ⟨p1, p2, p3⟩, w5, w6⟩
        simp (disch := first | assumption | omega) only [kb_X5_release_78, KL, KB, KC, KI, KJ, KZ, bI_0, bI_n, nI00, nI10, ne_eq, Classical.not_not, not_true_eq_false, not_false_eq_true, if_true, if_false, ite_not, ite_self, Bool.false_eq_true, nIne1, kMask, mask, mask_n, O_rd, AR, p1, pos, hsub, top, eb, nIlt, cc']
      · have cc' : (bnd k < mm) = False := eq_false cc
        have e7 : rlA mm l (c ++ [(opM k, 0)]) = rlA mm pe cur := by rw [← w7]; exact (if_neg cc).symm
        have hk27 : k ≠ 27 := fun e => cc (by rw [e]; unfold bnd; rw [if_pos rfl]; omega)
        have e166 : upd2 g1 158 6 (nI l.length) 158 6 = nI l.length := uS
        have e172 : upd2 g1 158 6 (nI l.length) 163 l.length = nI k := by rw [uN (by omega)]; exact top
        have w5' : DRF (upd2 g1 158 6 (nI l.length)) rl c := w5.congr (fun a _ _ => uN (by omega))
        have ea := c_add (m := m) (o := o) w5'.2.1 (by rw [List.length_append]; omega) (nI k)
        have w8 := w5'.add (opM k, 0)
        rw [opC_pend hk hk27] at w8
        generalize hg2 : upd2 (upd2 (upd2 g1 158 6 (nI l.length)) 162 (allS rl ++ c).length (nI k)) 160 1 (nI ((allS rl ++ c).length + 1)) = g2 at ea w8
        have q166 : ∀ i, i ≠ 6 → g2 158 i = g1 158 i := fun i hi => by rw [← hg2, uN (by omega), uN (by omega), uO (by omega)]
        have q6 : g2 158 6 = nI l.length := by rw [← hg2, uN (by omega), uN (by omega)]; exact uS
        have q172 : g2 163 = g1 163 := by rw [← hg2, uN (by omega), uN (by omega), uN (by omega)]
        have qo : ∀ a, a ≠ 158 → a ≠ 160 → a ≠ 162 → g2 a = g1 a := fun a x y z => by rw [← hg2, uN y, uN z, uN x]
        have t2 : g2 163 l.length = nI k := by rw [q172]; exact top
        have r6 : RFR g g2 := ⟨fun a x y z w => by rw [qo a x y z]; exact w6.1 a x y z w, fun i x y => by rw [q166 i x]; exact w6.2 i x y⟩
        by_cases k21 : k = 21
        · have k21' : (k = 21) = True := eq_true k21
          have o7 : g2 158 7 = nI (opn l + 1) := by rw [q166 7 (by omega), p3, k21]; show nI (1 + opn l) = _; rw [Nat.add_comm]
          have osub : nI (opn l + 1) - nI 1 = nI (opn l) := by rw [nI_sub (by omega)]; rfl
          have t2' : g2 163 l.length = nI 21 := by rw [t2, k21]
          simp (disch := first | assumption | omega) only [KL, KB, KC, KI, KJ, KZ, bI_0, bI_n, nI00, nI10, ne_eq, Classical.not_not, not_true_eq_false, not_false_eq_true, if_true, if_false, ite_not, ite_self, Bool.false_eq_true, nIne1, kMask, mask, mask_n, O_rd, O_dr, AR, p1, pos, hsub, top, eb, nIlt, cc', e166, e172, ea, q6, t2', o7, osub]
          exact ih l.length (by omega) _ _ _ ⟨l, c ++ [(opM k, 0)], upd2 g2 158 7 (nI (opn l)), rfl, rfl, rfl, rfl, fun x hx => w1 x (List.mem_cons_of_mem _ hx), by omega, by rw [List.length_append, List.length_cons, List.length_nil]; omega, ⟨by rw [uO (by omega)]; exact q6, p2.tail.congr (by rw [uN (by omega)]; exact q172), uS⟩, w8.congr (fun a x y => uN (by omega)), ⟨fun a x y z w => by rw [uN x]; exact r6.1 a x y z w, fun i x y => by rw [uO (by omega)]; exact r6.2 i x y⟩, e7⟩
        · have k21' : (k = 21) = False := eq_false k21
          have kb : k < 100 := by unfold okP at hk; omega
          have oeq : opn (k :: l) = opn l := by show (if k = 21 ∨ k = 27 then 1 else 0) + opn l = opn l; rw [if_neg (by omega)]; exact Nat.zero_add _
          simp (disch := first | assumption | omega) only [KL, KB, KC, KI, KJ, KZ, bI_0, bI_n, nI00, nI10, ne_eq, Classical.not_not, not_true_eq_false, not_false_eq_true, if_true, if_false, ite_not, ite_self, Bool.false_eq_true, nIne1, kMask, mask, mask_n, O_rd, O_dr, AR, p1, pos, hsub, top, eb, nIlt, cc', e166, e172, ea, q6, t2, nIeq, k21']
          exact ih l.length (by omega) _ _ _ ⟨l, c ++ [(opM k, 0)], g2, rfl, rfl, rfl, rfl, fun x hx => w1 x (List.mem_cons_of_mem _ hx), by omega, by rw [List.length_append, List.length_cons, List.length_nil]; omega, ⟨q6, p2.tail.congr q172, by rw [q166 7 (by omega), p3, oeq]⟩, w8, r6, e7⟩
  exact key
