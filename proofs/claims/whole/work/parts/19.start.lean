/-! THE CLAIM OUT OF ONE WALK OF THE LAW'S BODY. Your part is whole_start (and what it stands on); all else here is the same for every law, but numbers. -/
def R_law : String := "FourPalmsLaw"
def lw_P (b : Addr) (xs : List Int32) (args : Array Value) (s : State) : Prop := args = #[.ref b] ∧ s.IntsAt b xs ∧ xs.length ≤ 4096 ∧ (Jvm.Cond.and given_1 narrow_1).before args s = true
def lw_Q (_ : Array Value) (s : State) (o : Outcome) (t : State) : Prop := o = .returned (some (.int 1)) ∧ Framed s o t [] 600000 7302250
def lw_Z (below : List Frame) (a : Array Value) (s : State) : State → Prop := fun t => ∃ o, t.status = .running ∧ Ended t below o ∧ lw_Q a s o t
/-- the law's own end, with 1 on the stack, nothing written that was there before, its room as the claim has it -/
theorem lw_ret {p : Program} {l : Launch} {e : Env} {s : State} {m : MethodId} {below : List Frame} {meth : Method} {c : Code} {b : Nat} (hx : p.tables.exec = Jvm.exec) (hb : c.code = code) (hr : meth.sig.returnType = ret) (hlocks : meth.locks = false) {pc : Nat} {H : Heap} {ls : Array Slot} (hdg : decode code pc = .ok (.ireturn, 1)) : W p l e room_1 s m #[Value.ref b] below meth c H [] 600000 7302250 (lw_Z below #[Value.ref b] s) (F0 m pc ls [.int 1]) := by
  intro T hT X
  obtain ⟨fs, hret, hrun, hended, hW, hframe⟩ := X.leave (v := some (.int 1)) (hlocks := hlocks) (fun h => by rw [hr] at h; cases h)
  have hmeth' : T.vm.method? m = some meth := X.method'
  refine ⟨T.setFrames fs, ?_, .returned (some (.int 1)), hrun, hended, rfl, ⟨_, rfl⟩, hW, hframe⟩
  jvm_step X.here [X.here.top, hx, hb, hdg, hmeth', hr, ret, narrow_b1]
  (try refine ⟨rfl, ?_⟩); (try refine ⟨rfl, ?_⟩)
  first | (intro acts; rw [hret _ acts rfl rfl rfl]) | rw [hret _ _ rfl rfl rfl]
  exact Steps.refl _
/-- what holds at the law's entry: the machine, the code, the tables' words (any of lw_tbl by 'hts w (by decide +kernel)'), the script of L ints xs at the cell b, what the Statement gives of the start (any of its parts by flat_of_before) -/
def lw_At (p : Program) (s : State) (m : MethodId) (meth : Method) (c : Code) (b L : Nat) (xs : Nat → Int32) : Prop :=
  p.tables.exec = Jvm.exec ∧ c.code = code ∧ meth.sig.returnType = ret ∧ c.maxLocals = 4 ∧ s.vm.findClass R_law = some m.cls ∧ (∀ w ∈ lw_tbl, w.before #[Value.ref b] s = true) ∧ va_X b L xs s s.heap ∧ b < s.heap.size ∧ meth.locks = false ∧ (Jvm.Cond.and given_1 narrow_1).before #[Value.ref b] s = true
-- ===== THE START: the layout out of what the Statement gives; the law's end =====
def h00 : HP := (fun _ => (0, 0), fun _ _ => 0, fun _ _ => none, 0, 0)
def tmS (i : Nat) : Term := match SRL[i]? with
  | some q => .string q.1 q.2.1
  | none => .string "" 0
theorem i32_sur (x : Int32) : ∃ n : Nat, Int32.ofNat n = x := ⟨x.toBitVec.toNat, by
  apply Int32.toBitVec_inj.mp
  show BitVec.ofNat 32 x.toBitVec.toNat = x.toBitVec
  simp⟩
def isSub : List Cond → List Cond → Bool
  | [], _ => true
  | _ :: _, [] => false
  | a :: l, b :: r => if a = b then isSub l r else isSub (a :: l) r
theorem isSub_ok : ∀ (r l : List Cond), isSub l r = true → ∀ x ∈ l, x ∈ r
  | _, [], _, x, hx => by cases hx
  | [], a :: l, h, x, hx => by cases h
  | b :: r, a :: l, h, x, hx => by
    unfold isSub at h
    split at h
    · rename_i e
      subst e
      rcases List.mem_cons.mp hx with rfl | hx
      · exact List.mem_cons_self
      · exact List.mem_cons_of_mem _ (isSub_ok r l h x hx)
    · exact List.mem_cons_of_mem _ (isSub_ok r (a :: l) h x hx)
def oEx : List Nat := [0, 1, 2, 3, 4, 5, 6, 7, 8, 9, 10, 11, 12, 13, 14, 15, 16, 17, 18, 19, 20, 21, 22, 23]
def oCo : List Nat := [0, 1, 2, 3, 4, 5, 6, 7, 8, 9, 10, 11, 12, 13, 14, 15, 16, 17, 18, 19, 20, 21, 22, 23]
def oAr : List Nat := [0, 1, 2, 3, 4, 5, 6, 7, 8, 9, 10, 11, 12, 13, 14, 15, 16, 17, 18, 19, 20, 21, 22, 23]
def oLe : List Nat := [0, 1, 2, 3, 4, 5, 6, 7, 8, 9, 10, 11, 12, 13, 14, 15, 16, 17, 18, 19, 20, 21, 22, 23]
def oEl : List (Nat × Nat) := [(0, 0), (0, 1), (0, 2), (0, 3), (0, 4), (0, 5), (0, 6), (0, 7), (0, 8), (0, 9), (0, 10), (0, 11), (0, 12), (0, 13), (0, 14), (0, 15), (0, 16), (0, 17), (0, 18), (0, 19), (0, 20), (0, 21), (0, 22), (0, 23), (0, 24), (0, 25), (0, 26), (0, 27), (0, 28), (0, 29), (0, 30), (0, 31), (0, 32), (0, 33), (0, 34), (0, 35), (0, 36), (0, 37), (0, 38), (0, 39), (0, 40), (0, 41), (0, 42), (0, 43), (0, 44), (0, 45), (0, 46), (0, 47), (0, 48), (0, 49), (0, 50), (0, 51), (0, 52), (0, 53), (0, 54), (0, 55), (0, 56), (0, 57), (0, 58), (0, 59), (0, 60), (0, 61), (0, 62), (0, 63), (0, 64), (0, 65), (0, 66), (0, 67), (0, 68), (0, 69), (0, 70), (0, 71), (0, 72), (0, 73), (0, 74), (0, 75), (0, 76), (0, 77), (0, 78), (0, 79), (0, 80), (0, 81), (0, 82), (0, 83), (0, 84), (0, 85), (0, 86), (0, 87), (0, 88), (0, 89), (0, 90), (0, 91), (0, 92), (0, 93), (0, 94), (0, 95), (0, 96), (0, 97), (0, 98), (0, 99), (0, 100), (0, 101), (0, 102), (0, 103), (0, 104), (0, 105), (0, 106), (0, 107), (0, 108), (0, 109), (0, 110), (0, 111), (0, 112), (0, 113), (0, 114), (0, 115), (0, 116), (0, 117), (0, 118), (0, 119), (0, 120), (0, 121), (0, 122), (0, 123), (0, 124), (0, 125), (0, 126), (0, 127), (0, 128), (0, 129), (0, 130), (0, 131), (1, 0), (1, 1), (1, 2), (1, 3), (1, 4), (1, 5), (1, 6), (1, 7), (1, 8), (1, 9), (2, 0), (2, 1), (2, 2), (2, 3), (3, 0), (3, 1), (4, 0), (4, 1), (4, 2), (4, 3), (5, 0), (5, 1), (6, 0), (6, 1), (6, 2), (7, 0), (7, 1), (7, 2), (8, 0), (8, 1), (8, 2), (8, 3), (8, 4), (9, 0), (9, 1), (9, 2), (9, 3), (10, 0), (10, 1), (10, 2), (10, 3), (11, 0), (11, 1), (11, 2), (11, 3), (11, 4), (12, 0), (12, 1), (12, 2), (12, 3), (13, 0), (13, 1), (13, 2), (13, 3), (13, 4), (14, 0), (14, 1), (14, 2), (14, 3), (15, 0), (15, 1), (15, 2), (15, 3), (15, 4), (16, 0), (16, 1), (16, 2), (16, 3), (16, 4), (17, 0), (17, 1), (17, 2), (17, 3), (17, 4), (17, 5), (18, 0), (18, 1), (18, 2), (18, 3), (19, 0), (19, 1), (19, 2), (19, 3), (19, 4), (20, 0), (20, 1), (20, 2), (20, 3), (21, 0), (21, 1), (21, 2), (21, 3), (21, 4), (22, 0), (22, 1), (22, 2), (22, 3), (22, 4), (23, 0), (23, 1), (23, 2), (23, 3), (23, 4)]
def oNe : List (Nat × Nat) := [(0, 1), (0, 2), (1, 2), (0, 3), (1, 3), (2, 3), (0, 4), (1, 4), (2, 4), (3, 4), (0, 5), (1, 5), (2, 5), (3, 5), (4, 5), (0, 6), (1, 6), (2, 6), (3, 6), (4, 6), (5, 6), (0, 7), (1, 7), (2, 7), (3, 7), (4, 7), (5, 7), (6, 7), (0, 8), (1, 8), (2, 8), (3, 8), (4, 8), (5, 8), (6, 8), (7, 8), (0, 9), (1, 9), (2, 9), (3, 9), (4, 9), (5, 9), (6, 9), (7, 9), (8, 9), (0, 10), (1, 10), (2, 10), (3, 10), (4, 10), (5, 10), (6, 10), (7, 10), (8, 10), (9, 10), (0, 11), (1, 11), (2, 11), (3, 11), (4, 11), (5, 11), (6, 11), (7, 11), (8, 11), (9, 11), (10, 11), (0, 12), (1, 12), (2, 12), (3, 12), (4, 12), (5, 12), (6, 12), (7, 12), (8, 12), (9, 12), (10, 12), (11, 12), (0, 13), (1, 13), (2, 13), (3, 13), (4, 13), (5, 13), (6, 13), (7, 13), (8, 13), (9, 13), (10, 13), (11, 13), (12, 13), (0, 14), (1, 14), (2, 14), (3, 14), (4, 14), (5, 14), (6, 14), (7, 14), (8, 14), (9, 14), (10, 14), (11, 14), (12, 14), (13, 14), (0, 15), (1, 15), (2, 15), (3, 15), (4, 15), (5, 15), (6, 15), (7, 15), (8, 15), (9, 15), (10, 15), (11, 15), (12, 15), (13, 15), (14, 15), (0, 16), (1, 16), (2, 16), (3, 16), (4, 16), (5, 16), (6, 16), (7, 16), (8, 16), (9, 16), (10, 16), (11, 16), (12, 16), (13, 16), (14, 16), (15, 16), (0, 17), (1, 17), (2, 17), (3, 17), (4, 17), (5, 17), (6, 17), (7, 17), (8, 17), (9, 17), (10, 17), (11, 17), (12, 17), (13, 17), (14, 17), (15, 17), (16, 17), (0, 18), (1, 18), (2, 18), (3, 18), (4, 18), (5, 18), (6, 18), (7, 18), (8, 18), (9, 18), (10, 18), (11, 18), (12, 18), (13, 18), (14, 18), (15, 18), (16, 18), (17, 18), (0, 19), (1, 19), (2, 19), (3, 19), (4, 19), (5, 19), (6, 19), (7, 19), (8, 19), (9, 19), (10, 19), (11, 19), (12, 19), (13, 19), (14, 19), (15, 19), (16, 19), (17, 19), (18, 19), (0, 20), (1, 20), (2, 20), (3, 20), (4, 20), (5, 20), (6, 20), (7, 20), (8, 20), (9, 20), (10, 20), (11, 20), (12, 20), (13, 20), (14, 20), (15, 20), (16, 20), (17, 20), (18, 20), (19, 20), (0, 21), (1, 21), (2, 21), (3, 21), (4, 21), (5, 21), (6, 21), (7, 21), (8, 21), (9, 21), (10, 21), (11, 21), (12, 21), (13, 21), (14, 21), (15, 21), (16, 21), (17, 21), (18, 21), (19, 21), (20, 21), (0, 22), (1, 22), (2, 22), (3, 22), (4, 22), (5, 22), (6, 22), (7, 22), (8, 22), (9, 22), (10, 22), (11, 22), (12, 22), (13, 22), (14, 22), (15, 22), (16, 22), (17, 22), (18, 22), (19, 22), (20, 22), (21, 22), (0, 23), (1, 23), (2, 23), (3, 23), (4, 23), (5, 23), (6, 23), (7, 23), (8, 23), (9, 23), (10, 23), (11, 23), (12, 23), (13, 23), (14, 23), (15, 23), (16, 23), (17, 23), (18, 23), (19, 23), (20, 23), (21, 23), (22, 23)]
def fEx (i : Nat) : Cond := Cond.exactly (tmS i) "java/lang/String"
def fCo (i : Nat) : Cond := Cond.eq (.field (tmS i) "java/lang/String" "coder" "B") (.int 0)
def fAr (i : Nat) : Cond := Cond.arrayOf (.field (tmS i) "java/lang/String" "value" "[B") .byte
def fLe (i : Nat) : Cond := Cond.eq (.length (.field (tmS i) "java/lang/String" "value" "[B")) (.int (Int32.ofNat (SRn.getD i 0)))
def fEl (q : Nat × Nat) : Cond := Cond.eq (.elem (.field (tmS q.1) "java/lang/String" "value" "[B") (.int (Int32.ofNat q.2))) (.int ((SRb.getD q.1 []).getD q.2 0))
def fNe (q : Nat × Nat) : Cond := Cond.not (Cond.eq (tmS q.1) (tmS q.2))
theorem sub_map {α : Type} {f : α → Cond} {l : List α} (h : isSub (l.map f) (flatC narrow_1) = true) {x : α} (hx : x ∈ l) : f x ∈ flatC narrow_1 := isSub_ok _ _ h _ (List.mem_map.mpr ⟨x, hx, rfl⟩)
set_option maxRecDepth 100000 in
theorem bEx : isSub (oEx.map fEx) (flatC narrow_1) = true := by decide +kernel
set_option maxRecDepth 100000 in
theorem bCo : isSub (oCo.map fCo) (flatC narrow_1) = true := by decide +kernel
set_option maxRecDepth 100000 in
theorem bAr : isSub (oAr.map fAr) (flatC narrow_1) = true := by decide +kernel
set_option maxRecDepth 100000 in
theorem bLe : isSub (oLe.map fLe) (flatC narrow_1) = true := by decide +kernel
set_option maxRecDepth 100000 in
theorem bEl : isSub (oEl.map fEl) (flatC narrow_1) = true := by decide +kernel
set_option maxRecDepth 100000 in
theorem bNe : isSub (oNe.map fNe) (flatC narrow_1) = true := by decide +kernel
theorem oEx_all : ∀ i : Nat, i < 24 → i ∈ oEx := by decide +kernel
theorem oCo_all : ∀ i : Nat, i < 24 → i ∈ oCo := by decide +kernel
theorem oAr_all : ∀ i : Nat, i < 24 → i ∈ oAr := by decide +kernel
theorem oLe_all : ∀ i : Nat, i < 24 → i ∈ oLe := by decide +kernel
theorem oEl_all : ∀ i : Nat, i < 24 → ∀ j : Nat, j < SRn.getD i 0 → (i, j) ∈ oEl := by decide +kernel
theorem oNe_all : ∀ i : Nat, i < 24 → ∀ j : Nat, j < 24 → (i = j ∨ (i, j) ∈ oNe ∨ (j, i) ∈ oNe) := by decide +kernel
theorem sr_ex (i : Nat) (hi : i < 24) : fEx i ∈ flatC narrow_1 := sub_map bEx (oEx_all i hi)
theorem sr_co (i : Nat) (hi : i < 24) : fCo i ∈ flatC narrow_1 := sub_map bCo (oCo_all i hi)
theorem sr_ar (i : Nat) (hi : i < 24) : fAr i ∈ flatC narrow_1 := sub_map bAr (oAr_all i hi)
theorem sr_le (i : Nat) (hi : i < 24) : fLe i ∈ flatC narrow_1 := sub_map bLe (oLe_all i hi)
theorem sr_el (i : Nat) (hi : i < 24) (j : Nat) (hj : j < SRn.getD i 0) : fEl (i, j) ∈ flatC narrow_1 := sub_map bEl (oEl_all i hi j hj)
theorem sr_ne (i : Nat) (hi : i < 24) (j : Nat) (hj : j < 24) (hij : i ≠ j) : fNe (i, j) ∈ flatC narrow_1 ∨ fNe (j, i) ∈ flatC narrow_1 := ((oNe_all i hi j hj).resolve_left hij).elim (fun q => Or.inl (sub_map bNe q)) (fun q => Or.inr (sub_map bNe q))
theorem sr_n : ∀ i : Nat, i < 24 → SRn.getD i 0 < 2 ^ 31 := by decide +kernel
theorem sr_w : ∀ q ∈ SRL, Cond.stringRef q.1 q.2.1 q.2.2 ∈ lw_tbl := (List.forall_mem_cons.mpr ⟨tl3 81 rfl, (List.forall_mem_cons.mpr ⟨tl3 125 rfl, (List.forall_mem_cons.mpr ⟨tl7 27 rfl, (List.forall_mem_cons.mpr ⟨tl7 34 rfl, (List.forall_mem_cons.mpr ⟨tl7 35 rfl, (List.forall_mem_cons.mpr ⟨tl7 36 rfl, (List.forall_mem_cons.mpr ⟨tl7 37 rfl, (List.forall_mem_cons.mpr ⟨tl7 38 rfl, (List.forall_mem_cons.mpr ⟨tl7 43 rfl, (List.forall_mem_cons.mpr ⟨tl7 44 rfl, (List.forall_mem_cons.mpr ⟨tl7 45 rfl, (List.forall_mem_cons.mpr ⟨tl7 46 rfl, (List.forall_mem_cons.mpr ⟨tl7 47 rfl, (List.forall_mem_cons.mpr ⟨tl7 48 rfl, (List.forall_mem_cons.mpr ⟨tl7 49 rfl, (List.forall_mem_cons.mpr ⟨tl7 50 rfl, (List.forall_mem_cons.mpr ⟨tl7 51 rfl, (List.forall_mem_cons.mpr ⟨tl7 52 rfl, (List.forall_mem_cons.mpr ⟨tl7 53 rfl, (List.forall_mem_cons.mpr ⟨tl7 54 rfl, (List.forall_mem_cons.mpr ⟨tl7 55 rfl, (List.forall_mem_cons.mpr ⟨tl7 56 rfl, (List.forall_mem_cons.mpr ⟨tl7 57 rfl, (List.forall_mem_cons.mpr ⟨tl7 58 rfl, (fun q h => absurd h List.not_mem_nil)⟩)⟩)⟩)⟩)⟩)⟩)⟩)⟩)⟩)⟩)⟩)⟩)⟩)⟩)⟩)⟩)⟩)⟩)⟩)⟩)⟩)⟩)⟩)⟩)
theorem nw_w : ∀ q ∈ NWL, Cond.methodLinkNest q.1 q.2.1 q.2.2.1 q.2.2.2 ∈ lw_tbl := (List.forall_mem_cons.mpr ⟨tl1 41 rfl, (List.forall_mem_cons.mpr ⟨tl1 156 rfl, (List.forall_mem_cons.mpr ⟨tl1 208 rfl, (List.forall_mem_cons.mpr ⟨tl1 213 rfl, (List.forall_mem_cons.mpr ⟨tl3 21 rfl, (List.forall_mem_cons.mpr ⟨tl3 24 rfl, (List.forall_mem_cons.mpr ⟨tl3 27 rfl, (List.forall_mem_cons.mpr ⟨tl4 23 rfl, (List.forall_mem_cons.mpr ⟨tl4 28 rfl, (List.forall_mem_cons.mpr ⟨tl4 41 rfl, (List.forall_mem_cons.mpr ⟨tl4 42 rfl, (List.forall_mem_cons.mpr ⟨tl4 43 rfl, (List.forall_mem_cons.mpr ⟨tl4 44 rfl, (List.forall_mem_cons.mpr ⟨tl4 97 rfl, (List.forall_mem_cons.mpr ⟨tl4 156 rfl, (List.forall_mem_cons.mpr ⟨tl4 157 rfl, (List.forall_mem_cons.mpr ⟨tl5 84 rfl, (List.forall_mem_cons.mpr ⟨tl5 109 rfl, (fun q h => absurd h List.not_mem_nil)⟩)⟩)⟩)⟩)⟩)⟩)⟩)⟩)⟩)⟩)⟩)⟩)⟩)⟩)⟩)⟩)⟩)⟩)
theorem arr_prim {s : State} {args : Array Value} {ty : FieldType} (h : (Cond.arrayClass ty).before args s = true) (hp : ∀ C, ty ≠ .object C) : ∃ cA : ClassId, ArrOfT s cA ty ∧ va_RA s cA ty := by
  obtain ⟨c, k, comp, h1, h2, h3⟩ := Cond.arrayClass_spec h
  refine ⟨c, fun N z => ⟨(fun k h => by cases h), k, h2, comp, h3⟩, ?_⟩
  cases ty <;> first | exact h1 | exact absurd rfl (hp _)
theorem arr_obj {s : State} {C : String} (h : va_AO C s) : ∃ cA : ClassId, ArrOfT s cA (.object C) ∧ va_RA s cA (.object C) := by
  obtain ⟨comp, c, k, h1, h2, h3, h4, h5⟩ := Cond.arrayOver_spec h
  exact ⟨c, fun N z => ⟨(fun k h => by cases h), k, h3, comp, h4⟩, k, comp, h3, h4, h1, h5⟩
theorem most_in : ∀ j : Nat, j < 5 → Cond.eq (.elem (.static "FourPalms" "MOST_OF_FACT" "[I") (.int (Int32.ofNat j))) (.int (mostv j)) ∈ flatC narrow_1 := by decide +kernel
set_option maxHeartbeats 2000000 in
/-- the law's start gives a layout with all of GO -/
theorem go_start {s : State} {b L : Nat} {xs : Nat → Int32} (hts : ∀ w ∈ lw_tbl, w.before #[Value.ref b] s = true) (hX : va_X b L xs s s.heap) (hbl : b < s.heap.size) (hgv : (Jvm.Cond.and given_1 narrow_1).before #[Value.ref b] s = true) :
    ∃ E : EN, E.2.2.1 = s.heap.size ∧ E.2.2.2 (OUT + 2000) = b ∧ E.2.2.2 (OUT + 2001) = L ∧ (∀ j, Int32.ofNat (E.2.2.2 (OUT + 10000 + j)) = xs j) ∧ GO E s s.heap := by
  have hfl0 := flat_of_before _ hgv
  have hfl : ∀ c ∈ flatC narrow_1, c.before #[Value.ref b] s = true := fun c hc => hfl0 c (by
    show c ∈ flatC given_1 ++ flatC narrow_1
    exact List.mem_append_right _ hc)
  have htt := TT_hts hts
  have hAn : ∀ a : Nat, a < s.heap.size → ¬ (fun q : Nat => s.heap.size ≤ q) a := fun a ha => Nat.not_le.mpr ha
  -- classes
  have hcl : ∀ c : Nat, ∃ z : ClassId × (Nat → Nat), ∀ q, CLS[c]? = some q → u_Kn s q.1 q.2.1 q.2.2 z.1 z.2 := by
    intro c
    match c with
    | 0 => (obtain ⟨cC, iS, hK⟩ := u_known (C := cn0) (T := ct0) (N := 20) (n := 20) htt cw0 (hts _ (tl2 25 rfl)); exact ⟨(cC, iS), fun q hq => by cases hq; exact hK⟩)
    | 1 => (obtain ⟨cC, iS, hK⟩ := u_known (C := cn1) (T := ct1) (N := 10) (n := 10) htt cw1 (hts _ (tl1 65 rfl)); exact ⟨(cC, iS), fun q hq => by cases hq; exact hK⟩)
    | 2 => (obtain ⟨cC, iS, hK⟩ := u_known (C := cn2) (T := ct2) (N := 2) (n := 2) htt cw2 (hts _ (tl2 133 rfl)); exact ⟨(cC, iS), fun q hq => by cases hq; exact hK⟩)
    | 3 => (obtain ⟨cC, iS, hK⟩ := u_known (C := cn3) (T := ct3) (N := 3) (n := 3) htt cw3 (hts _ (tl2 32 rfl)); exact ⟨(cC, iS), fun q hq => by cases hq; exact hK⟩)
    | 4 => (obtain ⟨cC, iS, hK⟩ := u_known (C := cn4) (T := ct4) (N := 2) (n := 2) htt cw4 (hts _ (tl1 155 rfl)); exact ⟨(cC, iS), fun q hq => by cases hq; exact hK⟩)
    | 5 => (obtain ⟨cC, iS, hK⟩ := u_known (C := cn5) (T := ct5) (N := 15) (n := 15) htt cw5 (hts _ (tl1 207 rfl)); exact ⟨(cC, iS), fun q hq => by cases hq; exact hK⟩)
    | 6 => (obtain ⟨cC, iS, hK⟩ := u_known (C := cn6) (T := ct6) (N := 5) (n := 5) htt cw6 (hts _ (tl2 146 rfl)); exact ⟨(cC, iS), fun q hq => by cases hq; exact hK⟩)
    | 7 => (obtain ⟨cC, iS, hK⟩ := u_known (C := cn7) (T := ct7) (N := 5) (n := 5) htt cw7 (hts _ (tl1 40 rfl)); exact ⟨(cC, iS), fun q hq => by cases hq; exact hK⟩)
    | 8 => (obtain ⟨cC, iS, hK⟩ := u_known (C := cn8) (T := ct8) (N := 8) (n := 8) htt cw8 (hts _ (tl1 172 rfl)); exact ⟨(cC, iS), fun q hq => by cases hq; exact hK⟩)
    | 9 => (obtain ⟨cC, iS, hK⟩ := u_known (C := cn9) (T := ct9) (N := 4) (n := 4) htt cw9 (hts _ (tl1 31 rfl)); exact ⟨(cC, iS), fun q hq => by cases hq; exact hK⟩)
    | 10 => (obtain ⟨cC, iS, hK⟩ := u_known (C := cn10) (T := ct10) (N := 8) (n := 8) htt cw10 (hts _ (tl1 23 rfl)); exact ⟨(cC, iS), fun q hq => by cases hq; exact hK⟩)
    | 11 => (obtain ⟨cC, iS, hK⟩ := u_known (C := cn11) (T := ct11) (N := 49) (n := 49) htt cw11 (hts _ (tl6 20 rfl)); exact ⟨(cC, iS), fun q hq => by cases hq; exact hK⟩)
    | n + 12 => exact ⟨(0, fun _ => 0), fun q hq => by simp [CLS] at hq⟩
  obtain ⟨zc, hzc⟩ := Classical.axiomOfChoice hcl
  have hao2 : va_AO "FourPalms$Rule" s := va_AO.of (hts _ (tl1 37 rfl))
  have hao3 : va_AO "FourPalms$Crossing" s := va_AO.of (hts _ (tl1 39 rfl))
  have hao4 : va_AO "FourPalms$Orders" s := va_AO.of (hts _ (tl2 31 rfl))
  obtain ⟨a0, ha0⟩ := arr_prim (ty := .int) (hts _ (tl1 64 rfl)) (fun C h => by cases h)
  obtain ⟨a1, ha1⟩ := arr_prim (ty := .boolean) (hts _ (tl2 62 rfl)) (fun C h => by cases h)
  obtain ⟨a2, ha2⟩ := arr_obj hao2
  obtain ⟨a3, ha3⟩ := arr_obj hao3
  obtain ⟨a4, ha4⟩ := arr_obj hao4
  -- texts
  obtain ⟨adK, adV, hS, hadK⟩ := vk_Sof (args := #[Value.ref b]) (s := s) (N := 24) (tm := tmS) (len := SRn) (byt := SRb) (A := fun q : Nat => s.heap.size ≤ q) sr_n (fun i hi => hfl _ (sr_ex i hi)) (fun i hi => hfl _ (sr_co i hi)) (fun i hi => hfl _ (sr_ar i hi)) (fun i hi => hfl _ (sr_le i hi)) (fun i hi j hj => hfl _ (sr_el i hi j hj)) (fun i j hi hj hij => (sr_ne i hi j hj hij).elim (fun q => Or.inl (hfl _ q)) (fun q => Or.inr (hfl _ q))) hAn
  -- statics
  have hcs : va_Z "java/lang/String" "COMPACT_STRINGS" "Z" (.int 1) (fun q : Nat => s.heap.size ≤ q) s s.heap := va_Zof (hts _ (tl3 91 rfl)) (hts _ (tl1 15 rfl)) (va_eqi (hfl _ (by decide +kernel))) hAn
  obtain ⟨tm0, htm0, hmT⟩ := va_Tof (args := #[Value.ref b]) (tm := .static "FourPalms" "MOST_OF_FACT" "[I") (ty := .int) (N := 5) (f := fun j => .int (mostv j)) (A := fun q : Nat => s.heap.size ≤ q) (by decide) (hfl (Cond.arrayOf (.static "FourPalms" "MOST_OF_FACT" "[I") .int) (by decide +kernel)) (va_eqt (hfl _ (by decide +kernel))) (fun j hj => va_eqt (hfl _ (most_in j hj))) hAn
  have hmZ : va_Z "FourPalms" "MOST_OF_FACT" "[I" (.ref tm0) (fun q : Nat => s.heap.size ≤ q) s s.heap := va_Zof (hts _ (tl2 224 rfl)) (hts _ (tl1 1 rfl)) htm0 hAn
  obtain ⟨op, hop⟩ : ∃ op : Nat, va_Z "jdk/internal/util/Preconditions" "SIOOBE_FORMATTER" "Ljava/util/function/BiFunction;" (va_rf (if op = 0 then none else some (op - 1))) (fun q : Nat => s.heap.size ≤ q) s s.heap := by
    have h1 := hfl (Cond.isRef (.static "jdk/internal/util/Preconditions" "SIOOBE_FORMATTER" "Ljava/util/function/BiFunction;")) (by decide +kernel)
    rcases va_Zqof (hts (Cond.laysStatic "jdk/internal/util/Preconditions" "SIOOBE_FORMATTER" "Ljava/util/function/BiFunction;") (tl3 99 rfl)) (hts (Cond.initialized "jdk/internal/util/Preconditions") (tl1 17 rfl)) h1 hAn with hz | ⟨t, hz⟩
    · exact ⟨0, hz⟩
    · exact ⟨t + 1, hz⟩
  obtain ⟨nx, hnx⟩ : ∃ f : Nat → Nat, ∀ j, Int32.ofNat (f j) = xs j := Classical.axiomOfChoice (fun j => i32_sur (xs j))
  generalize hout : (fun k : Nat => if k = 901000 then tm0 else if k = 902000 then b else if k = 902001 then L else if k = 903000 then op else if 910000 ≤ k then nx (k - 910000) else if (k - 900000) % 2 = 0 then adK ((k - 900000) / 2) else adV ((k - 900000) / 2)) = out
  have o1 : out 901000 = tm0 := by rw [← hout]; rfl
  have o2 : out 902000 = b := by rw [← hout]; rfl
  have o3 : out 902001 = L := by rw [← hout]; rfl
  have o4 : out 903000 = op := by rw [← hout]; rfl
  have o5 : ∀ j, out (910000 + j) = nx j := by
    intro j
    rw [← hout]
    show (if 910000 + j = 901000 then tm0 else if 910000 + j = 902000 then b else if 910000 + j = 902001 then L else if 910000 + j = 903000 then op else if 910000 ≤ 910000 + j then nx (910000 + j - 910000) else _) = _
    rw [if_neg (by omega), if_neg (by omega), if_neg (by omega), if_neg (by omega), if_pos (by omega), Nat.add_sub_cancel_left]
  have o6 : ∀ i, i < 24 → out (900000 + 2 * i) = adK i := by
    intro i hi
    rw [← hout]
    show (if 900000 + 2 * i = 901000 then tm0 else if 900000 + 2 * i = 902000 then b else if 900000 + 2 * i = 902001 then L else if 900000 + 2 * i = 903000 then op else if 910000 ≤ 900000 + 2 * i then _ else if (900000 + 2 * i - 900000) % 2 = 0 then adK ((900000 + 2 * i - 900000) / 2) else _) = _
    rw [if_neg (by omega), if_neg (by omega), if_neg (by omega), if_neg (by omega), if_neg (by omega), if_pos (by omega)]
    congr 1
    omega
  have o7 : ∀ i, i < 24 → out (900000 + 2 * i + 1) = adV i := by
    intro i hi
    rw [← hout]
    show (if 900000 + 2 * i + 1 = 901000 then tm0 else if 900000 + 2 * i + 1 = 902000 then b else if 900000 + 2 * i + 1 = 902001 then L else if 900000 + 2 * i + 1 = 903000 then op else if 910000 ≤ 900000 + 2 * i + 1 then _ else if (900000 + 2 * i + 1 - 900000) % 2 = 0 then _ else adV ((900000 + 2 * i + 1 - 900000) / 2)) = _
    rw [if_neg (by omega), if_neg (by omega), if_neg (by omega), if_neg (by omega), if_neg (by omega), if_neg (by omega)]
    congr 1
    omega
  refine ⟨((fun c => (zc c).1, fun c => (zc c).2), (fun t => if t = 0 then a0 else if t = 1 then a1 else if t = 2 then a2 else if t = 3 then a3 else a4), s.heap.size, out), rfl, o2, o3, fun j => ?_, ?_⟩
  · show Int32.ofNat (out (900000 + 10000 + j)) = _
    rw [show 900000 + 10000 + j = 910000 + j from rfl, o5]
    exact hnx j
  · obtain ⟨scr, hcb, hof, hkn, hsz, hval⟩ := hX
    refine ⟨⟨fun c q hq => hzc c q hq, fun k q hk => ?_⟩, fun q hq => va_Nw.of rfl (hts _ (nw_w q hq)), ⟨hao2, hao3, hao4⟩, fun i q hq => ?_, ⟨fun i hi => ?_, fun i j hi hj e => ?_⟩, ?_, ?_, hcs, ⟨?_, ?_⟩, Nat.le_refl _⟩
    · match k with
      | 0 => cases hk; exact ha0
      | 1 => cases hk; exact ha1
      | 2 => cases hk; exact ha2
      | 3 => cases hk; exact ha3
      | 4 => cases hk; exact ha4
      | k + 5 => simp [tysA] at hk
    · have hi : i < 24 := (List.getElem?_eq_some_iff.mp hq).1
      refine vk_R.of (A := #[Value.ref b]) (hts _ (sr_w q (List.mem_of_getElem? hq))) ?_
      show _ = some (Value.ref (out (900000 + 2 * i)))
      rw [o6 i hi]
      have h9 := hadK i hi
      unfold tmS at h9
      rw [hq] at h9
      exact h9
    · show va_O "java/lang/String" (out (900000 + 2 * i)) _ s s.heap ∧ va_OF "java/lang/String" "coder" "B" (.int 0) (out (900000 + 2 * i)) _ s s.heap ∧ va_OF "java/lang/String" "value" "[B" (.ref (out (900000 + 2 * i + 1))) (out (900000 + 2 * i)) _ s s.heap ∧ va_T .byte (out (900000 + 2 * i + 1)) (SRn.getD i 0) (fun j => .int ((SRb.getD i []).getD j 0)) _ s s.heap
      rw [o6 i hi, o7 i hi]
      exact hS.1 i hi
    · have e2 : out (900000 + 2 * i) = out (900000 + 2 * j) := e
      rw [o6 i hi, o6 j hj] at e2
      exact hS.2 i j hi hj e2
    · show va_Z "FourPalms" "MOST_OF_FACT" "[I" (.ref (out 901000)) _ s s.heap
      rw [o1]; exact hmZ
    · show va_T .int (out 901000) 5 (fun j => .int (mostv j)) _ s s.heap
      rw [o1]; exact hmT
    · show va_Z _ _ _ (va_rf (if out 903000 = 0 then none else some (out 903000 - 1))) _ s s.heap
      rw [o4]; exact hop
    · show va_T .int (out 902000) (out 902001) (fun j => .int (Int32.ofNat (out (900000 + 10000 + j)))) _ s s.heap
      rw [o2, o3]
      refine ⟨scr, hcb, hof, hkn, Nat.le_of_eq hsz.symm, by rw [hsz], fun j hj => ?_, hAn b hbl⟩
      rw [hval j hj]
      show some (Value.int (xs j)) = some (Value.int (Int32.ofNat (out (910000 + j))))
      rw [o5, hnx]
theorem wfh_h00 : wfh h00 := ⟨Nat.zero_le _, fun a h => absurd rfl h, fun a j k h => by cases h⟩
/-- THE CLAIM OUT OF THE FUNCTION: if it answers true in the room, the law does -/
theorem start_of_pure {p : Program} {e : Env} {s : State} {m : MethodId} {below : List Frame} {meth : Method} {c : Code} (l : Launch) {b L : Nat} {xs : Nat → Int32} (C0 : lw_At p s m meth c b L xs) {h' : HP} (hp : f_law L xs [.ref (OUT + 2000)] h00 = some (some (.int 1), h')) (h1 : hN h' ≤ 600000) (h2 : hZ h' ≤ 7302250) : W p l e room_1 s m #[Value.ref b] below meth c s.heap [] 0 0 (lw_Z below #[Value.ref b] s) (entryFrame m ([Value.ref b] : List Value).toArray 4) := by
  obtain ⟨hx, hb, hr, hml, hown, hts, hX, hbl, hlocks, hgv⟩ := id C0
  obtain ⟨E, e1, e2, e3, e4, hG⟩ := go_start hts hX hbl hgv
  have hl := lv_entry ([.ref b]) (n := 4) (Nat.le_of_ble_eq_true rfl)
  rw [lg_entry_eq]
  have wl : wfs h00 [.ref (OUT + 2000)] := wfs.nil.cons rfl (fun k hk => by cases hk; exact Or.inr (Nat.le_add_right _ _))
  obtain ⟨hm, hw⟩ := okb_L_law_0 l E e3 e4 [.ref (OUT + 2000)] [] h00 (some (.int 1)) h' hp wl.2 wfs.nil wfh_h00
  have hcx : CX E code 4 "FourPalmsLaw" false 48 p room_1 s m #[Value.ref b] meth c := ⟨hx, hb, hml, hown, TT_hts hts, hG, Nat.le_of_ble_eq_true rfl, Nat.le_of_ble_eq_true rfl, fun h => by cases h⟩
  refine hw p e room_1 s m #[Value.ref b] below meth c hcx (lw_Z below #[Value.ref b] s) E.2.2.2 0 (hN h') (hZ h') ⟨h1, h2, fun ad H locs cells slots pc lsA ins hd hri ha1 ha2 hP hD hS hc1 hc2 => ?_⟩ E.2.2.2 s.heap [] 0 0 _ ⟨fun i hi => absurd hi (Nat.not_lt_zero i), fun i hi => rfl, Nat.zero_le _, (fun k q h => by rw [show rep E E.2.2.2 h00 = [] from rfl] at h; simp at h), ⟨(fun i j p q h => by rw [show rep E E.2.2.2 h00 = [] from rfl] at h; simp at h), (fun k q h => by rw [show rep E E.2.2.2 h00 = [] from rfl] at h; simp at h)⟩, va_S.rf, by show 0 + (hN h' - 0) ≤ _; omega, by show 0 + (hZ h' - 0) ≤ _; omega, ?_⟩
  · rcases hri with ⟨-, h, -⟩ | ⟨rfl, x, ty, h, -, -⟩ | ⟨-, v, ty, h, -, -, h9⟩
    · cases h
    · refine va_forget (fun q hq => by have := hS.2.2 q hq; unfold AA at this; rw [e1] at this; exact this) ?_
      refine W.widen (k := 600000) (n := 7302250) (by omega) (by omega) ?_
      exact lw_ret hx hb hr hlocks hd
    · cases h
      rcases h9 with h9 | ⟨k, h9⟩ <;> cases h9
  · refine ⟨hl.1, hl.2.1, fun i v hv hc => ?_⟩
    match i with
    | 0 =>
      cases hv
      have := hl.2.2 (0, .ref b) List.mem_cons_self
      show _ = some (Slot.val (.ref (E.2.2.2 (OUT + 2000))))
      rw [e2]
      exact this
    | i + 1 => simp at hv
