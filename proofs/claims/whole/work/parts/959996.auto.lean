-- ===== the reader of the class, as a plain automaton =====
/-- pos, mode, pending, compared, the line waits, its steps, the lines -/
abbrev CS : Type := Nat × Nat × List Nat × Bool × Bool × List (Nat × Nat) × ARule
def mkS (a b : Nat) (c : List Nat) (d e : Bool) (f : List (Nat × Nat)) (g : ARule) : CS := (a, b, c, d, e, f, g)
def CS.pos (s : CS) : Nat := s.1
def CS.mode (s : CS) : Nat := s.2.1
def CS.pe (s : CS) : List Nat := s.2.2.1
def CS.cp (s : CS) : Bool := s.2.2.2.1
def CS.lw (s : CS) : Bool := s.2.2.2.2.1
def CS.cur (s : CS) : List (Nat × Nat) := s.2.2.2.2.2.1
def CS.rl (s : CS) : ARule := s.2.2.2.2.2.2
def bnd (k : Nat) : Nat := if k = 27 then 0 else if k = 19 then 1 else if k = 20 then 2 else if k = 21 then 3 else if 29 ≤ k ∧ k ≤ 31 then 4 else if k = 23 ∨ k = 24 then 5 else 6
def opM (k : Nat) : Nat := if k = 20 then 25 else if k = 21 then 24 else if k = 23 then 17 else if k = 24 then 18 else if k = 25 then 19 else if k = 29 then 21 else if k = 30 then 22 else if k = 31 then 23 else 26
def okP (k : Nat) : Prop := (19 ≤ k ∧ k ≤ 21) ∨ (23 ≤ k ∧ k ≤ 25) ∨ k = 27 ∨ (29 ≤ k ∧ k ≤ 31)
/-- how many stand open -/
def opn : List Nat → Nat
  | [] => 0
  | k :: l => (if k = 21 ∨ k = 27 then 1 else 0) + opn l
theorem opn_app (a b : List Nat) : opn (a ++ b) = opn a + opn b := by
  induction a with
  | nil => exact (Nat.zero_add _).symm
  | cons k a ih => show (if k = 21 ∨ k = 27 then 1 else 0) + opn (a ++ b) = (if k = 21 ∨ k = 27 then 1 else 0) + opn a + opn b; rw [ih, Nat.add_assoc]
def mO (P : List Nat) : List (Nat × Nat) := P.map (fun k => (opM k, 0))
def rlA (m : Nat) : List Nat → List (Nat × Nat) → List Nat × List (Nat × Nat)
  | [], c => ([], c)
  | k :: l, c => if bnd k < m then (k :: l, c) else rlA m l (c ++ [(opM k, 0)])
theorem rlA_app {m : Nat} {S : List Nat} (hS : ∀ k, S.head? = some k → bnd k < m) : ∀ (P : List Nat) (c : List (Nat × Nat)), (∀ k ∈ P, m ≤ bnd k) → rlA m (P ++ S) c = (S, c ++ mO P) := by
  intro P
  induction P with
  | nil =>
    intro c _
    show rlA m S c = (S, c ++ [])
    rw [List.append_nil]
    cases S with
    | nil => rfl
    | cons k l => show (if bnd k < m then (k :: l, c) else _) = _; rw [if_pos (hS k rfl)]
  | cons k P ih =>
    intro c h
    show (if bnd k < m then (k :: (P ++ S), c) else rlA m (P ++ S) (c ++ [(opM k, 0)])) = _
    rw [if_neg (by have := h k (List.mem_cons_self ..); omega), ih _ (fun x hx => h x (List.mem_cons_of_mem _ hx))]
    show (S, c ++ [(opM k, 0)] ++ mO P) = (S, c ++ ((opM k, 0) :: mO P))
    rw [List.append_assoc]; rfl
theorem rlA_inv (m : Nat) : ∀ (l : List Nat) (c : List (Nat × Nat)), (rlA m l c).1.length + (rlA m l c).2.length = l.length + c.length ∧ (rlA m l c).1.length ≤ l.length ∧ ∀ k ∈ (rlA m l c).1, k ∈ l := by
  intro l
  induction l with
  | nil => intro c; exact ⟨rfl, Nat.le_refl _, fun k hk => hk⟩
  | cons k l ih =>
    intro c
    by_cases h : bnd k < m
    · rw [show rlA m (k :: l) c = (k :: l, c) from if_pos h]; exact ⟨rfl, Nat.le_refl _, fun k hk => hk⟩
    · rw [show rlA m (k :: l) c = rlA m l (c ++ [(opM k, 0)]) from if_neg h]
      obtain ⟨a, a2, b⟩ := ih (c ++ [(opM k, 0)])
      refine ⟨by rw [a, List.length_append, List.length_cons, List.length_cons, List.length_nil]; omega, by rw [List.length_cons]; omega, fun x hx => List.mem_cons_of_mem _ (b x hx)⟩
def CS.rel (s : CS) (m : Nat) : CS := (mkS (s.pos) (s.mode) ((rlA m s.pe s.cur).1) (s.cp) (s.lw) ((rlA m s.pe s.cur).2) (s.rl))
def finL (s : CS) : Nat × CS := if (s.rel 1).pe = [] then (0, (mkS ((s.rel 1).pos) (0) ((s.rel 1).pe) ((s.rel 1).cp) ((s.rel 1).lw) ([]) (s.rl ++ [(s.lw, (s.rel 1).cur)]))) else (1, s.rel 1)
def opnd (s : CS) (k v : Nat) : Nat × CS := if k = 32 then (0, (mkS (s.pos) (5) (s.pe) (s.cp) (s.lw) (s.cur ++ [(0, v)]) (s.rl))) else if 16 ≤ k then (1, s) else (0, (mkS (s.pos) (5) (s.pe) (s.cp) (s.lw) (s.cur ++ [(k + 1, 0)]) (s.rl)))
def cst0 (s : CS) (k : Nat) : Nat × CS := if k = 16 ∨ k = 17 then (if s.rl.length < 16 then (0, (mkS (s.pos) (1) (s.pe) (s.cp) (decide (k = 16)) (s.cur) (s.rl))) else (3, s)) else (1, s)
def cst1 (s : CS) (k : Nat) : Nat × CS := if k = 18 then (0, (mkS (s.pos) (2) (s.pe) (s.cp) (s.lw) (s.cur) (s.rl))) else if k = 22 then finL s else (1, s)
def cst2 (s : CS) (k v : Nat) : Nat × CS := if k = 21 ∨ k = 27 then (if opn s.pe < 8 then (0, (mkS (s.pos) (s.mode) (k :: s.pe) (s.cp) (s.lw) (s.cur) (s.rl))) else (3, s)) else opnd (mkS (s.pos) (s.mode) (s.pe) (false) (s.lw) (s.cur) (s.rl)) k v
def cst4 (s : CS) (k v : Nat) : Nat × CS := if k = 32 then (if v = 0 then (2, s) else (0, (mkS (s.pos) (5) (s.pe) (s.cp) (s.lw) (s.cur ++ [(20, v)]) (s.rl)))) else (1, s)
def cstO (s : CS) (k : Nat) : Nat × CS := if s.mode ≠ 5 ∨ (29 ≤ k ∧ s.cp = true) then (1, s) else if k = 26 then (0, (mkS ((s.rel (bnd k)).pos) (4) ((s.rel (bnd k)).pe) ((s.rel (bnd k)).cp) ((s.rel (bnd k)).lw) ((s.rel (bnd k)).cur) ((s.rel (bnd k)).rl))) else (0, (mkS ((s.rel (bnd k)).pos) (3) (k :: (s.rel (bnd k)).pe) (s.cp || decide (29 ≤ k)) ((s.rel (bnd k)).lw) ((s.rel (bnd k)).cur) ((s.rel (bnd k)).rl)))
def cstC (s : CS) : Nat × CS := match (s.rel 1).pe with
  | [] => (1, s.rel 1)
  | _ :: l => (0, (mkS ((s.rel 1).pos) (6) (l) ((s.rel 1).cp) ((s.rel 1).lw) ((s.rel 1).cur) ((s.rel 1).rl)))
def cstJ (s : CS) (k : Nat) : Nat × CS := if s.mode = 5 ∧ s.cp = false then (1, s) else if k = 19 ∨ k = 20 then (0, (mkS ((s.rel (bnd k)).pos) (2) (k :: (s.rel (bnd k)).pe) ((s.rel (bnd k)).cp) ((s.rel (bnd k)).lw) ((s.rel (bnd k)).cur) ((s.rel (bnd k)).rl))) else if k = 28 then cstC s else if k = 22 then finL s else (1, s)
def cst (s : CS) (k v : Nat) : Nat × CS :=
  if s.mode = 0 then cst0 s k else if s.mode = 1 then cst1 s k else if s.mode = 2 then cst2 s k v else if s.mode = 3 then opnd s k v else if s.mode = 4 then cst4 s k v
  else if (23 ≤ k ∧ k ≤ 26) ∨ (29 ≤ k ∧ k ≤ 31) then cstO s k else cstJ s k
/-- all that a state holds -/
def szS (s : CS) : Nat := (allS s.rl).length + s.cur.length + s.pe.length
def OKS (s : CS) : Prop := (∀ k ∈ s.pe, okP k) ∧ s.mode ≤ 6 ∧ s.rl.length ≤ 16
theorem rel_ok {s : CS} (h : OKS s) (m : Nat) : OKS (s.rel m) ∧ szS (s.rel m) = szS s := by
  obtain ⟨a, a2, b⟩ := rlA_inv m s.pe s.cur
  exact ⟨⟨fun k hk => h.1 k (b k hk), h.2⟩, by unfold szS; show (allS s.rl).length + (rlA m s.pe s.cur).2.length + (rlA m s.pe s.cur).1.length = _; omega⟩
theorem allS_app (a b : ARule) : allS (a ++ b) = allS a ++ allS b := by unfold allS; rw [List.flatMap_append]
theorem allS_one (z : Bool × List (Nat × Nat)) : allS [z] = z.2 := by unfold allS; simp
def NXT (s : CS) (r : Nat × CS) : Prop := OKS r.2 ∧ szS r.2 ≤ szS s + 1 ∧ r.2.pos = s.pos ∧ (r.1 = 0 → r.2.mode ≠ 0 → r.2.rl.length < 16)
theorem finL_ok {s : CS} (h : OKS s) (hl : s.rl.length < 16) : NXT s (finL s) := by
  obtain ⟨a, b⟩ := rel_ok h 1
  unfold finL
  by_cases c : (s.rel 1).pe = []
  · rw [if_pos c]
    refine ⟨⟨a.1, by show 0 ≤ 6; omega, ?_⟩, ?_, rfl, fun _ q => absurd rfl q⟩
    · show (s.rl ++ [(s.lw, (s.rel 1).cur)]).length ≤ 16
      rw [List.length_append, List.length_cons, List.length_nil]; omega
    · unfold szS at b ⊢
      show (allS (s.rl ++ [(s.lw, (s.rel 1).cur)])).length + 0 + (s.rel 1).pe.length ≤ _
      rw [allS_app, allS_one, List.length_append]
      have : (s.rel 1).rl = s.rl := rfl
      rw [this] at b
      show (allS s.rl).length + (s.rel 1).cur.length + 0 + (s.rel 1).pe.length ≤ _
      omega
  · rw [if_neg c]; exact ⟨a, by show szS (s.rel 1) ≤ _; omega, rfl, fun q => absurd q Nat.one_ne_zero⟩
theorem opnd_ok {s : CS} (h : OKS s) (hl : s.rl.length < 16) (k v : Nat) : NXT s (opnd s k v) := by
  unfold opnd
  have sz : ∀ z : Nat × Nat, (allS s.rl).length + (s.cur ++ [z]).length + s.pe.length ≤ szS s + 1 := fun z => by
    unfold szS; rw [List.length_append, List.length_cons, List.length_nil]; omega
  split
  · exact ⟨⟨h.1, by show 5 ≤ 6; omega, h.2.2⟩, sz _, rfl, fun _ _ => hl⟩
  · split
    · exact ⟨h, Nat.le_succ _, rfl, fun _ _ => hl⟩
    · exact ⟨⟨h.1, by show 5 ≤ 6; omega, h.2.2⟩, sz _, rfl, fun _ _ => hl⟩
theorem hold_ok {s : CS} (h : OKS s) (hl : s.rl.length < 16) {k : Nat} (hk : okP k) (md : Nat) (hm : md ≤ 6) (c : Bool) : NXT s (0, (mkS (s.pos) (md) (k :: s.pe) (c) (s.lw) (s.cur) (s.rl))) := by
  refine ⟨⟨fun x hx => ?_, hm, h.2.2⟩, ?_, rfl, fun _ _ => hl⟩
  · rcases List.mem_cons.mp hx with rfl | hx
    · exact hk
    · exact h.1 x hx
  · unfold szS
    show (allS s.rl).length + s.cur.length + (k :: s.pe).length ≤ _
    rw [List.length_cons]; omega
theorem NXT.rel {s : CS} {r : Nat × CS} {m : Nat} (hs : OKS s) (h : NXT (s.rel m) r) : NXT s r := ⟨h.1, by rw [← (rel_ok hs m).2]; exact h.2.1, h.2.2.1, h.2.2.2⟩
theorem cst_ok {s : CS} (h : OKS s) (hl : s.mode ≠ 0 → s.rl.length < 16) (k v : Nat) : NXT s (cst s k v) := by
  have same : ∀ e : Nat, e ≠ 0 → NXT s (e, s) := fun e he => ⟨h, Nat.le_succ _, rfl, fun q => absurd q he⟩
  unfold cst
  split
  · unfold cst0
    split
    · split
      · rename_i q
        exact ⟨⟨h.1, by show 1 ≤ 6; omega, h.2.2⟩, Nat.le_succ _, rfl, fun _ _ => q⟩
      · exact same _ (by decide)
    · exact same _ (by decide)
  · rename_i m0
    have hl' := hl m0
    split
    · unfold cst1
      split
      · exact ⟨⟨h.1, by show 2 ≤ 6; omega, h.2.2⟩, Nat.le_succ _, rfl, fun _ _ => hl'⟩
      · split
        · exact finL_ok h hl'
        · exact same _ (by decide)
    · split
      · unfold cst2
        split
        · rename_i hk
          split
          · exact hold_ok h hl' (by unfold okP; omega) s.mode h.2.1 s.cp
          · exact same _ (by decide)
        · exact opnd_ok (s := (mkS (s.pos) (s.mode) (s.pe) (false) (s.lw) (s.cur) (s.rl))) h hl' k v
      · split
        · exact opnd_ok h hl' k v
        · split
          · unfold cst4
            split
            · split
              · exact same _ (by decide)
              · refine ⟨⟨h.1, by show 5 ≤ 6; omega, h.2.2⟩, ?_, rfl, fun _ _ => hl'⟩
                unfold szS
                show (allS s.rl).length + (s.cur ++ [(20, v)]).length + s.pe.length ≤ _
                rw [List.length_append, List.length_cons, List.length_nil]; omega
            · exact same _ (by decide)
          · split
            · rename_i hk
              unfold cstO
              split
              · exact same _ (by decide)
              · obtain ⟨a, b⟩ := rel_ok h (bnd k)
                split
                · exact ⟨⟨a.1, by show 4 ≤ 6; omega, a.2.2⟩, by show szS (s.rel (bnd k)) ≤ _; omega, rfl, fun _ _ => hl'⟩
                · exact NXT.rel h (hold_ok a hl' (by unfold okP; omega) 3 (by omega) (s.cp || decide (29 ≤ k)))
            · unfold cstJ
              split
              · exact same _ (by decide)
              · split
                · rename_i hk
                  exact NXT.rel h (hold_ok (rel_ok h (bnd k)).1 hl' (by unfold okP; omega) 2 (by omega) s.cp)
                · split
                  · unfold cstC
                    obtain ⟨a, b⟩ := rel_ok h 1
                    split
                    · exact ⟨a, by show szS (s.rel 1) ≤ _; omega, rfl, fun q => absurd q Nat.one_ne_zero⟩
                    · rename_i x l hx
                      refine ⟨⟨fun y hy => a.1 y (by rw [hx]; exact List.mem_cons_of_mem _ hy), by show 6 ≤ 6; omega, a.2.2⟩, ?_, rfl, fun _ _ => hl'⟩
                      unfold szS at b ⊢
                      rw [hx, List.length_cons] at b
                      show (allS s.rl).length + (s.rel 1).cur.length + l.length ≤ _
                      have : (s.rel 1).rl = s.rl := rfl
                      rw [this] at b
                      omega
                  · split
                    · exact finL_ok h hl'
                    · exact same _ (by decide)
theorem cst_end {s : CS} (h : s.mode ≠ 0) (v : Nat) : (cst s 33 v).1 ≠ 0 := by
  have ho : ∀ s : CS, (opnd s 33 v).1 ≠ 0 := fun s => by
    unfold opnd; rw [if_neg (by decide), if_pos (by decide)]; exact Nat.one_ne_zero
  unfold cst
  rw [if_neg h]
  by_cases m1 : s.mode = 1
  · rw [if_pos m1]; unfold cst1; rw [if_neg (by decide), if_neg (by decide)]; exact Nat.one_ne_zero
  rw [if_neg m1]
  by_cases m2 : s.mode = 2
  · rw [if_pos m2]; unfold cst2; rw [if_neg (by decide)]; exact ho _
  rw [if_neg m2]
  by_cases m3 : s.mode = 3
  · rw [if_pos m3]; exact ho _
  rw [if_neg m3]
  by_cases m4 : s.mode = 4
  · rw [if_pos m4]; unfold cst4; rw [if_neg (by decide)]; exact Nat.one_ne_zero
  rw [if_neg m4, if_neg (by decide)]
  unfold cstJ
  by_cases m5 : s.mode = 5 ∧ s.cp = false
  · rw [if_pos m5]; exact Nat.one_ne_zero
  rw [if_neg m5, if_neg (by decide), if_neg (by decide), if_neg (by decide)]
  exact Nat.one_ne_zero
/-- the automaton runs: the fault, its place, the rule -/
def cgo (t : Nat → Nat) (L : Nat) : Nat → CS → Option (Nat × Nat × ARule)
  | 0, _ => none
  | n + 1, s => if 60 < s.pe.length then none else if lxK t L (stE blB t L s.pos) = 33 ∧ s.mode = 0 then (if s.cur = [] then some (0, 0, s.rl) else none)
    else if (cst s (lxK t L (stE blB t L s.pos)) (lxV t L (stE blB t L s.pos))).1 = 0 then cgo t L n (mkS (lxE t L (stE blB t L s.pos)) (((cst s (lxK t L (stE blB t L s.pos)) (lxV t L (stE blB t L s.pos))).2).mode) (((cst s (lxK t L (stE blB t L s.pos)) (lxV t L (stE blB t L s.pos))).2).pe) (((cst s (lxK t L (stE blB t L s.pos)) (lxV t L (stE blB t L s.pos))).2).cp) (((cst s (lxK t L (stE blB t L s.pos)) (lxV t L (stE blB t L s.pos))).2).lw) (((cst s (lxK t L (stE blB t L s.pos)) (lxV t L (stE blB t L s.pos))).2).cur) (((cst s (lxK t L (stE blB t L s.pos)) (lxV t L (stE blB t L s.pos))).2).rl))
    else some ((cst s (lxK t L (stE blB t L s.pos)) (lxV t L (stE blB t L s.pos))).1, stE blB t L s.pos, [])
theorem cst_zero {s : CS} (h : s.mode = 0) (k v : Nat) : szS (cst s k v).2 = szS s := by
  unfold cst
  rw [if_pos h]
  unfold cst0
  split
  · split
    · rfl
    · rfl
  · rfl
def IV (L : Nat) (s : CS) : Prop := OKS s ∧ (s.mode ≠ 0 → s.rl.length < 16) ∧ szS s ≤ s.pos ∧ s.pos ≤ L ∧ (s.mode ≠ 0 → szS s < s.pos)
theorem lx_in {t : Nat → Nat} {L q : Nat} (hq : q < L) : q < lxE t L q ∧ lxE t L q ≤ L ∧ lxK t L q ≠ 33 := by
  by_cases a : leB (t q) = true
  · have eE : lxE t L q = stE leB t L q := by unfold lxE; rw [if_neg (by omega), if_pos a]
    have eK : lxK t L q = kwC t q (stE leB t L q - q) := by unfold lxK; rw [if_neg (by omega), if_pos a]
    rw [eE, eK]
    obtain ⟨c1, c2, c3, c4⟩ := stE_prop leB t (show q ≤ L by omega)
    refine ⟨?_, c2, ?_⟩
    · apply Nat.lt_of_le_of_ne c1
      intro e
      rw [← e] at c4
      rw [c4 hq] at a; cases a
    · rcases kwC_ne t q (stE leB t L q - q) with h | h <;> omega
  · by_cases b : diB (t q) = true
    · have eE : lxE t L q = stE diB t L q := by unfold lxE; rw [if_neg (by omega), if_neg a, if_pos b]
      have eK : lxK t L q = if stE diB t L q - q ≤ 4 then 32 else 34 := by unfold lxK; rw [if_neg (by omega), if_neg a, if_pos b]
      rw [eE, eK]
      obtain ⟨c1, c2, c3, c4⟩ := stE_prop diB t (show q ≤ L by omega)
      refine ⟨?_, c2, ?_⟩
      · apply Nat.lt_of_le_of_ne c1
        intro e
        rw [← e] at c4
        rw [c4 hq] at b; cases b
      · split <;> omega
    · have eE : lxE t L q = q + 1 := by unfold lxE; rw [if_neg (by omega), if_neg a, if_neg b]
      have eK : lxK t L q = mkC (t q) := by unfold lxK; rw [if_neg (by omega), if_neg a, if_neg b]
      rw [eE, eK]
      refine ⟨by omega, by omega, ?_⟩
      rcases mkC_lt (t q) with h | h <;> omega
theorem lx_end {t : Nat → Nat} {L q : Nat} (hq : L ≤ q) : lxE t L q = q ∧ lxK t L q = 33 := by
  exact ⟨by unfold lxE; rw [if_pos hq], by unfold lxK; rw [if_pos hq]⟩
/-- one token on -/
theorem IV.step {t : Nat → Nat} {L : Nat} {s : CS} (h : IV L s) (hc : ¬ (lxK t L (stE blB t L s.pos) = 33 ∧ s.mode = 0)) (h0 : (cst s (lxK t L (stE blB t L s.pos)) (lxV t L (stE blB t L s.pos))).1 = 0) : IV L (mkS (lxE t L (stE blB t L s.pos)) (((cst s (lxK t L (stE blB t L s.pos)) (lxV t L (stE blB t L s.pos))).2).mode) (((cst s (lxK t L (stE blB t L s.pos)) (lxV t L (stE blB t L s.pos))).2).pe) (((cst s (lxK t L (stE blB t L s.pos)) (lxV t L (stE blB t L s.pos))).2).cp) (((cst s (lxK t L (stE blB t L s.pos)) (lxV t L (stE blB t L s.pos))).2).lw) (((cst s (lxK t L (stE blB t L s.pos)) (lxV t L (stE blB t L s.pos))).2).cur) (((cst s (lxK t L (stE blB t L s.pos)) (lxV t L (stE blB t L s.pos))).2).rl)) ∧ s.pos < lxE t L (stE blB t L s.pos) := by
  obtain ⟨i1, i2, i3, i4, i5⟩ := h
  obtain ⟨b1, b2, -, -⟩ := stE_prop blB t i4
  obtain ⟨o1, o2, o3, hr⟩ := cst_ok i1 i2 (lxK t L (stE blB t L s.pos)) (lxV t L (stE blB t L s.pos))
  have hq : stE blB t L s.pos < L := by
    apply Nat.lt_of_not_le
    intro hh
    have e := (lx_end (t := t) hh).2
    rw [e] at h0 hc
    exact cst_end (fun m => hc ⟨rfl, m⟩) _ h0
  obtain ⟨x1, x2, x3⟩ := lx_in (t := t) hq
  have hlt : szS (cst s (lxK t L (stE blB t L s.pos)) (lxV t L (stE blB t L s.pos))).2 < lxE t L (stE blB t L s.pos) := by
    by_cases m0 : s.mode = 0
    · rw [cst_zero m0]; omega
    · have := i5 m0; omega
  refine ⟨⟨o1, hr h0, Nat.le_of_lt hlt, x2, fun _ => hlt⟩, by omega⟩
