-- ===== a line's value, on both sides =====
def bothA (s : Nat) (x y : Int32) : Int32 :=
  if s = 17 then x + y else if s = 18 then x - y else if s = 19 then x * y else if s = 21 then (if x < y then nI 1 else nI 0) else if s = 22 then (if x = y then nI 1 else nI 0) else if s = 23 then (if y < x then nI 1 else nI 0) else if s = 25 then x &&& y else x ||| y
def opS (F : Nat → Int32) (q : Nat × Nat) (st : List Int32) : List Int32 :=
  if q.1 = 0 then nI q.2 :: st
  else if q.1 ≤ 16 then F (q.1 - 1) :: st
  else match st with
    | [] => []
    | a :: t => if q.1 = 20 then a / nI q.2 :: t else if q.1 = 24 then (nI 1 - a) :: t else match t with
      | [] => []
      | b :: u => bothA q.1 b a :: u
def TyS : List Bool → List Int32 → Prop
  | [], [] => True
  | t :: ts, v :: vs => (t = true → v = nI 0 ∨ v = nI 1) ∧ TyS ts vs
  | _, _ => False
theorem TyS.len : ∀ {ts : List Bool} {st : List Int32}, TyS ts st → st.length = ts.length
  | [], [], _ => rfl
  | t :: ts, v :: vs, h => congrArg (· + 1) (TyS.len h.2)
  | [], v :: vs, h => h.elim
  | t :: ts, [], h => h.elim
theorem b01 {p : Prop} [Decidable p] : (if p then nI 1 else nI 0) = nI 0 ∨ (if p then nI 1 else nI 0) = nI 1 := by split <;> simp
/-- the binary kinds -/
def isBin (s : Nat) : Prop := s = 17 ∨ s = 18 ∨ s = 19 ∨ s = 21 ∨ s = 22 ∨ s = 23 ∨ s = 25 ∨ s = 26
theorem opTy_cases {s : Nat} {ts ts' : List Bool} (h : opTy s ts = some ts') : (s ≤ 16 ∧ ts' = false :: ts) ∨ (s = 20 ∧ ∃ t, ts = false :: t ∧ ts' = false :: t) ∨ (s = 24 ∧ ∃ t, ts = true :: t ∧ ts' = true :: t) ∨ ((s = 17 ∨ s = 18 ∨ s = 19) ∧ ∃ t, ts = false :: false :: t ∧ ts' = false :: t) ∨ ((s = 21 ∨ s = 22 ∨ s = 23) ∧ ∃ t, ts = false :: false :: t ∧ ts' = true :: t) ∨ ((s = 25 ∨ s = 26) ∧ ∃ t, ts = true :: true :: t ∧ ts' = true :: t) := by
  unfold opTy at h
  split at h
  · left; cases h; exact ⟨by assumption, rfl⟩
  · right
    split at h
    · left
      split at h
      · cases h; exact ⟨by assumption, _, rfl, rfl⟩
      · cases h
    · right
      split at h
      · right; left
        split at h
        · cases h; exact ⟨by omega, _, rfl, rfl⟩
        · cases h
      · split at h
        · right; right; left
          split at h
          · cases h; exact ⟨by omega, _, rfl, rfl⟩
          · cases h
        · split at h
          · left
            split at h
            · cases h; exact ⟨by assumption, _, rfl, rfl⟩
            · cases h
          · split at h
            · right; right; right
              split at h
              · cases h; exact ⟨by omega, _, rfl, rfl⟩
              · cases h
            · cases h
theorem opS_num (F : Nat → Int32) (q : Nat × Nat) (st : List Int32) (h : q.1 = 0) : opS F q st = nI q.2 :: st := by unfold opS; rw [if_pos h]
theorem opS_word (F : Nat → Int32) (q : Nat × Nat) (st : List Int32) (h : q.1 ≠ 0) (h2 : q.1 ≤ 16) : opS F q st = F (q.1 - 1) :: st := by unfold opS; rw [if_neg h, if_pos h2]
theorem opS_part (F : Nat → Int32) (q : Nat × Nat) (a : Int32) (t : List Int32) (h : q.1 = 20) : opS F q (a :: t) = a / nI q.2 :: t := by unfold opS; rw [if_neg (by omega), if_neg (by omega)]; simp only []; rw [if_pos h]
theorem opS_not (F : Nat → Int32) (q : Nat × Nat) (a : Int32) (t : List Int32) (h : q.1 = 24) : opS F q (a :: t) = (nI 1 - a) :: t := by unfold opS; rw [if_neg (by omega), if_neg (by omega)]; simp only []; rw [if_neg (by omega), if_pos h]
theorem opS_bin (F : Nat → Int32) (q : Nat × Nat) (a b : Int32) (t : List Int32) (h : isBin q.1) : opS F q (a :: b :: t) = bothA q.1 b a :: t := by
  unfold isBin at h
  unfold opS; rw [if_neg (by omega), if_neg (by omega)]; simp only []; rw [if_neg (by omega), if_neg (by omega)]
theorem c_joined (q : Nat × Nat) (hq : isBin q.1) (a b : Int32) (h : HP) : f_X7_joined [.int (opC q), .int a, .int b] h = some (some (.int (bothA q.1 a b)), h) := by
  obtain ⟨s, v⟩ := q
  unfold isBin at hq
  simp only [] at hq
  rcases hq with rfl | rfl | rfl | rfl | rfl | rfl | rfl | rfl
  · rfl
  · rfl
  · rfl
  · show (if b ≤ a then some (some (Value.int (nI 0)), h) else some (some (Value.int (nI 1)), h)) = some (some (.int (if a < b then nI 1 else nI 0)), h)
    by_cases hlt : a < b
    · rw [if_pos hlt, if_neg (Int32.not_le.mpr hlt)]
    · rw [if_neg hlt, if_pos (Int32.not_lt.mp hlt)]
  · show (if a ≠ b then some (some (Value.int (nI 0)), h) else some (some (Value.int (nI 1)), h)) = some (some (.int (if a = b then nI 1 else nI 0)), h)
    by_cases hlt : a = b
    · rw [if_pos hlt, if_neg (fun q => q hlt)]
    · rw [if_neg hlt, if_pos hlt]
  · show (if a ≤ b then some (some (Value.int (nI 0)), h) else some (some (Value.int (nI 1)), h)) = some (some (.int (if b < a then nI 1 else nI 0)), h)
    by_cases hlt : b < a
    · rw [if_pos hlt, if_neg (Int32.not_le.mpr hlt)]
    · rw [if_neg hlt, if_pos (Int32.not_lt.mp hlt)]
  · rfl
  · rfl
theorem m_both (q : Nat × Nat) (hq : isBin q.1) (a b : Int32) (h : HP) : f_X11_both0 [.int (nI q.1), .int a, .int b] h = some (some (.int (bothA q.1 a b)), h) := by
  obtain ⟨s, v⟩ := q
  unfold isBin at hq
  simp only [] at hq
  rcases hq with rfl | rfl | rfl | rfl | rfl | rfl | rfl | rfl
  · rfl
  · rfl
  · rfl
  · show (if b ≤ a then some (some (Value.int (nI 0)), h) else some (some (Value.int (nI 1)), h)) = some (some (.int (if a < b then nI 1 else nI 0)), h)
    by_cases hlt : a < b
    · rw [if_pos hlt, if_neg (Int32.not_le.mpr hlt)]
    · rw [if_neg hlt, if_pos (Int32.not_lt.mp hlt)]
  · show (if a ≠ b then some (some (Value.int (nI 0)), h) else some (some (Value.int (nI 1)), h)) = some (some (.int (if a = b then nI 1 else nI 0)), h)
    by_cases hlt : a = b
    · rw [if_pos hlt, if_neg (fun q => q hlt)]
    · rw [if_neg hlt, if_pos hlt]
  · show (if a ≤ b then some (some (Value.int (nI 0)), h) else some (some (Value.int (nI 1)), h)) = some (some (.int (if b < a then nI 1 else nI 0)), h)
    by_cases hlt : b < a
    · rw [if_pos hlt, if_neg (Int32.not_le.mpr hlt)]
    · rw [if_neg hlt, if_pos (Int32.not_lt.mp hlt)]
  · rfl
  · rfl
/-- a stack (its top first) in an array -/
def SK (g : GG) (a : Nat) (st : List Int32) : Prop := ∀ (i : Nat) (x : Int32), st[i]? = some x → g a (st.length - 1 - i) = x
theorem SK.tail {g : GG} {a : Nat} {x : Int32} {t : List Int32} (h : SK g a (x :: t)) : SK g a t := by
  intro i y hy
  have hi := (List.getElem?_eq_some_iff.mp hy).1
  have := h (i + 1) y (by rw [List.getElem?_cons_succ]; exact hy)
  rw [List.length_cons] at this
  rw [show t.length - 1 - i = t.length + 1 - 1 - (i + 1) by omega]
  exact this
theorem SK.top {g : GG} {a : Nat} {x : Int32} {t : List Int32} (h : SK g a (x :: t)) : g a t.length = x := by
  have := h 0 x rfl
  rwa [List.length_cons, Nat.add_sub_cancel, Nat.sub_zero] at this
theorem SK.put {g : GG} {a : Nat} {t : List Int32} (h : SK g a t) (v : Int32) : SK (upd2 g a t.length v) a (v :: t) := by
  intro i y hy
  rw [List.length_cons]
  cases i with
  | zero => cases hy; rw [show t.length + 1 - 1 - 0 = t.length by omega, uS]
  | succ i =>
    rw [List.getElem?_cons_succ] at hy
    have hi := (List.getElem?_eq_some_iff.mp hy).1
    rw [uO (by omega), show t.length + 1 - 1 - (i + 1) = t.length - 1 - i by omega]
    exact h i y hy
def runS (F : Nat → Int32) : List (Nat × Nat) → List Int32 → List Int32
  | [], st => st
  | q :: l, st => runS F l (opS F q st)
def lineV (F : Nat → Int32) (l : List (Nat × Nat)) : Int32 := (runS F l []).headD 0
/-- one step keeps the sorts -/
theorem TyS.step {F : Nat → Int32} {q : Nat × Nat} {ts ts' : List Bool} {st : List Int32} (h : TyS ts st) (hq : opTy q.1 ts = some ts') : TyS ts' (opS F q st) := by
  rcases opTy_cases hq with ⟨hs, rfl⟩ | ⟨hs, t, rfl, rfl⟩ | ⟨hs, t, rfl, rfl⟩ | ⟨hs, t, rfl, rfl⟩ | ⟨hs, t, rfl, rfl⟩ | ⟨hs, t, rfl, rfl⟩
  · by_cases h0 : q.1 = 0
    · rw [opS_num F q st h0]; exact ⟨fun e => (by cases e), h⟩
    · rw [opS_word F q st h0 hs]; exact ⟨fun e => (by cases e), h⟩
  · match st, h with
    | a :: st, h => rw [opS_part F q a st hs]; exact ⟨fun e => (by cases e), h.2⟩
  · match st, h with
    | a :: st, h =>
      rw [opS_not F q a st hs]
      refine ⟨fun _ => ?_, h.2⟩
      rcases h.1 rfl with rfl | rfl
      · right; decide
      · left; decide
  · match st, h with
    | a :: b :: st, h => rw [opS_bin F q a b st (by unfold isBin; omega)]; exact ⟨fun e => (by cases e), h.2.2⟩
  · match st, h with
    | a :: b :: st, h =>
      rw [opS_bin F q a b st (by unfold isBin; omega)]
      refine ⟨fun _ => ?_, h.2.2⟩
      unfold bothA
      rw [if_neg (by omega), if_neg (by omega), if_neg (by omega)]
      split
      · exact b01
      · split
        · exact b01
        · rw [if_pos (by omega)]; exact b01
  · match st, h with
    | a :: b :: st, h =>
      rw [opS_bin F q a b st (by unfold isBin; omega)]
      refine ⟨fun _ => ?_, h.2.2⟩
      unfold bothA
      rw [if_neg (by omega), if_neg (by omega), if_neg (by omega), if_neg (by omega), if_neg (by omega), if_neg (by omega)]
      rcases h.1 rfl with rfl | rfl <;> rcases h.2.1 rfl with rfl | rfl <;> split <;> decide
theorem opRun_cons {q : Nat × Nat} {l : List (Nat × Nat)} {ts : List Bool} (h : opRun (q :: l) ts = true) : (q.1 = 20 → 0 < q.2) ∧ q.2 < 10000 ∧ ∃ ts', opTy q.1 ts = some ts' ∧ ts'.length ≤ 60 ∧ opRun l ts' = true := by
  unfold opRun at h
  simp only [Bool.and_eq_true, decide_eq_true_eq] at h
  obtain ⟨⟨h1, h2⟩, h3⟩ := h
  refine ⟨h1, h2, ?_⟩
  split at h3
  · rename_i t ht
    simp only [Bool.and_eq_true, decide_eq_true_eq] at h3
    exact ⟨t, ht, h3.1, h3.2⟩
  · cases h3
theorem opRun_end {F : Nat → Int32} : ∀ (l : List (Nat × Nat)) (ts : List Bool) (st : List Int32), opRun l ts = true → TyS ts st → ∃ v, runS F l st = [v] ∧ (v = nI 0 ∨ v = nI 1) := by
  intro l
  induction l with
  | nil =>
    intro ts st h ht
    unfold opRun at h
    have hts : ts = [true] := of_decide_eq_true h
    subst hts
    match st, ht with
    | [v], ht => exact ⟨v, rfl, ht.1 rfl⟩
  | cons q l ih =>
    intro ts st h ht
    obtain ⟨h1, h2, ts', h3, h4, h5⟩ := opRun_cons h
    exact ih ts' _ h5 (ht.step h3)
theorem opC_num (q : Nat × Nat) (h : q.1 = 0) : opC q = nI (100 + q.2) := by unfold opC; rw [if_pos h]
theorem opC_word (q : Nat × Nat) (h : q.1 ≠ 0) (h2 : q.1 ≤ 16) : opC q = nI (q.1 - 1) := by unfold opC; rw [if_neg h, if_pos h2]
theorem opC_part (q : Nat × Nat) (h : q.1 = 20) : opC q = - nI q.2 := by unfold opC; rw [if_neg (by omega), if_neg (by omega), if_pos h]
theorem opC_not (q : Nat × Nat) (h : q.1 = 24) : opC q = nI 21 := by
  obtain ⟨s, v⟩ := q
  simp only [] at h
  subst h
  rfl
theorem opC_bin (q : Nat × Nat) (h : isBin q.1) : ∃ k, opC q = nI k ∧ k < 100 ∧ 16 ≤ k ∧ k ≠ 21 := by
  obtain ⟨s, v⟩ := q
  unfold isBin at h
  simp only [] at h
  rcases h with rfl | rfl | rfl | rfl | rfl | rfl | rfl | rfl
  · exact ⟨23, rfl, by omega, by omega, by omega⟩
  · exact ⟨24, rfl, by omega, by omega, by omega⟩
  · exact ⟨25, rfl, by omega, by omega, by omega⟩
  · exact ⟨29, rfl, by omega, by omega, by omega⟩
  · exact ⟨30, rfl, by omega, by omega, by omega⟩
  · exact ⟨31, rfl, by omega, by omega, by omega⟩
  · exact ⟨20, rfl, by omega, by omega, by omega⟩
  · exact ⟨19, rfl, by omega, by omega, by omega⟩
theorem neg_lt0 {v : Nat} (h : 0 < v) (h2 : v < 10000) : - nI v < 0 := by
  rw [Int32.lt_iff_toInt_lt, Int32.toInt_neg, nI_toInt (by omega)]
  rw [Int.bmod_eq_of_le (by omega) (by omega)]
  show -(v : Int) < 0
  omega
