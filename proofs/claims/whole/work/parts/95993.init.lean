-- ===== the constructors: a heap of which the first n objects are made =====
def SHn (n i : Nat) : Nat × Nat := if i < n then SH i else (0, 0)
def RF (H : List (Nat × Nat)) (i j : Nat) : Option Nat := if (i, j) ∈ H then RR 17 175 i j else none
/-- n objects with z slots, their ints g, the references H that are put down -/
def HQ (n z : Nat) (g : GG) (H : List (Nat × Nat)) : HP := (SHn n, g, RF H, n, z)
def INV (n : Nat) (g : GG) (H : List (Nat × Nat)) : Prop := (∀ q, q ∈ H → q.1 < n) ∧ ∀ a j, n ≤ a → g a j = 0
theorem SHn_lt {n a : Nat} (h : a < n) : SHn n a = SH a := if_pos h
theorem INV.up {n m : Nat} {g : GG} {H : List (Nat × Nat)} (h : INV n g H) (hm : n ≤ m) : INV m g H := ⟨fun q hq => Nat.lt_of_lt_of_le (h.1 q hq) hm, fun a j ha => h.2 a j (by omega)⟩
theorem INV.pi {n a i : Nat} {g : GG} {H : List (Nat × Nat)} {v : Int32} (h : INV n g H) (ha : a < n) : INV n (upd2 g a i v) H := ⟨h.1, fun b j hb => by rw [uO (Or.inl (by omega))]; exact h.2 b j hb⟩
theorem INV.pr {n a j : Nat} {g : GG} {H : List (Nat × Nat)} (h : INV n g H) (ha : a < n) : INV n g ((a, j) :: H) := ⟨fun q hq => by
  rcases List.mem_cons.mp hq with e | e
  · rw [e]; exact ha
  · exact h.1 q e, h.2⟩
theorem INV.fl {n a k : Nat} {g : GG} {H : List (Nat × Nat)} {v : Int32} (h : INV n g H) (ha : a < n) : INV n (flA g a k v) H := ⟨h.1, fun b j hb => by rw [flA_ne (by omega)]; exact h.2 b j hb⟩
theorem INV.of {n : Nat} {g g' : GG} {H H' : List (Nat × Nat)} (h : INV n g H) {m : Nat} (hm : n ≤ m) (hg : ∀ a, m ≤ a → g' a = g a) (hH : ∀ q, q ∈ H' → q ∈ H ∨ q.1 < m) : INV m g' H' := ⟨fun q hq => by
  rcases hH q hq with e | e
  · have := h.1 q e; omega
  · exact e, fun a j ha => by rw [hg a ha]; exact h.2 a j (by omega)⟩
theorem new_eq {n z kd N : Nat} {g : GG} {H : List (Nat × Nat)} (hI : INV n g H) (hs : SH n = (kd, N)) : newO (HQ n z g H) kd N = HQ (n + 1) (z + N) g H := by
  have e1 : (fun a => if a = n then (kd, N) else SHn n a) = SHn (n + 1) := by
    funext a
    unfold SHn
    by_cases h : a = n
    · rw [if_pos h, if_pos (by omega), h, hs]
    · rw [if_neg h]
      by_cases h2 : a < n
      · rw [if_pos h2, if_pos (by omega)]
      · rw [if_neg h2, if_neg (by omega)]
  have e2 : (fun a j => if a = n then 0 else g a j) = g := by
    funext a j
    by_cases h : a = n
    · rw [if_pos h]; exact (hI.2 a j (by omega)).symm
    · rw [if_neg h]
  have e3 : (fun a j => if a = n then none else RF H a j) = RF H := by
    funext a j
    by_cases h : a = n
    · rw [if_pos h]
      unfold RF
      rw [if_neg (fun q => by have := hI.1 _ q; omega)]
    · rw [if_neg h]
  show ((fun a => if a = n then (kd, N) else SHn n a), (fun a j => if a = n then 0 else g a j), (fun a j => if a = n then none else RF H a j), n + 1, z + N) = _
  rw [e1, e2, e3]
  rfl
theorem Q_new {n z ci N : Nat} {g : GG} {H : List (Nat × Nat)} (hI : INV n g H) (hn : n < 212) (hs : SH n = (40 + ci, N)) (k : KK) (ls st : List Value) : kNew ci N k ls st (HQ n z g H) = k ls (.ref n :: st) (HQ (n + 1) (z + N) g H) := by
  show (if n < OUT then k ls (.ref n :: st) (newO (HQ n z g H) (40 + ci) N) else none) = _
  rw [if_pos (by unfold OUT; omega), new_eq hI hs]
theorem Q_newA {n z t len : Nat} {g : GG} {H : List (Nat × Nat)} (hI : INV n g H) (hn : n < 212) (hs : SH n = (1 + t, len)) (hl : len ≤ 100000) (k : KK) (ls st : List Value) : kNewA t k ls (.int (nI len) :: st) (HQ n z g H) = k ls (.ref n :: st) (HQ (n + 1) (z + len) g H) := by
  show (if n < OUT ∧ 0 ≤ nI len ∧ (nI len).toNatClampNeg ≤ 100000 then k ls (.ref n :: st) (newO (HQ n z g H) (1 + t) (nI len).toNatClampNeg) else none) = _
  rw [nI_clamp (by omega), if_pos ⟨by unfold OUT; omega, nI_pos' (by omega), hl⟩, new_eq hI hs]
theorem Q_sh {n z a : Nat} {g : GG} {H : List (Nat × Nat)} {s : Nat × Nat} (ha : a < n) (hs : SH a = s) : hSh (HQ n z g H) a = s := (SHn_lt ha).trans hs
theorem Q_pi {n z a ci N kx : Nat} {g : GG} {H : List (Nat × Nat)} {x : Int32} (ha : a < n) (hs : SH a = (40 + ci, N)) (k : KK) (ls st : List Value) : kPutI ci N kx k ls (.int x :: .ref a :: st) (HQ n z g H) = k ls st (HQ n z (upd2 g a kx x) H) := if_pos (Q_sh ha hs)
theorem Q_pz {n z a ci N kx : Nat} {g : GG} {H : List (Nat × Nat)} (ha : a < n) (hs : SH a = (40 + ci, N)) (k : KK) (ls st : List Value) : kPutZ ci N kx k ls (.int (nI 0) :: .ref a :: st) (HQ n z g H) = k ls st (HQ n z (upd2 g a kx (nI 0)) H) := if_pos ⟨Q_sh ha hs, Or.inl rfl⟩
theorem Q_gi {n z a ci N kx : Nat} {g : GG} {H : List (Nat × Nat)} (ha : a < n) (hs : SH a = (40 + ci, N)) (k : KK) (ls st : List Value) : kGetI ci N kx k ls (.ref a :: st) (HQ n z g H) = k ls (.int (g a kx) :: st) (HQ n z g H) := if_pos (Q_sh ha hs)
theorem RF_cons {H : List (Nat × Nat)} {a j b : Nat} (hr : RR 17 175 a j = some b) : upd2 (RF H) a j (some b) = RF ((a, j) :: H) := by
  funext x y
  unfold RF
  by_cases h : x = a ∧ y = j
  · rw [h.1, h.2, upd2_same, if_pos List.mem_cons_self, hr]
  · have e : ((x, y) ∈ (a, j) :: H) = ((x, y) ∈ H) := propext ⟨fun q => by
      rcases List.mem_cons.mp q with e | e
      · exact (h ⟨congrArg Prod.fst e, congrArg Prod.snd e⟩).elim
      · exact e, fun q => List.mem_cons_of_mem _ q⟩
    rw [upd2_other _ _ (by omega)]
    simp only [e]
theorem Q_pr {n z a b ci N kx : Nat} {g : GG} {H : List (Nat × Nat)} (ha : a < n) (hb : b < n) (hs : SH a = (40 + ci, N)) (hr : RR 17 175 a kx = some b) (k : KK) (ls st : List Value) : kPutR ci N kx k ls (.ref b :: .ref a :: st) (HQ n z g H) = k ls st (HQ n z g ((a, kx) :: H)) := by
  have e : kPutR ci N kx k ls (.ref b :: .ref a :: st) (HQ n z g H) = k ls st (setR (HQ n z g H) a kx (some b)) := if_pos ⟨Q_sh ha hs, hb⟩
  rw [e]
  show k ls st (SHn n, g, upd2 (RF H) a kx (some b), n, z) = _
  rw [RF_cons hr]
  rfl
theorem RF_in {H : List (Nat × Nat)} {a j b : Nat} (hm : (a, j) ∈ H) (hr : RR 17 175 a j = some b) : RF H a j = some b := by unfold RF; rw [if_pos hm, hr]
theorem Q_gr {n z a b ci N kx : Nat} {g : GG} {H : List (Nat × Nat)} (ha : a < n) (hs : SH a = (40 + ci, N)) (hm : (a, kx) ∈ H) (hr : RR 17 175 a kx = some b) (k : KK) (ls st : List Value) : kGetR ci N kx k ls (.ref a :: st) (HQ n z g H) = k ls (.ref b :: st) (HQ n z g H) := by
  have e : kGetR ci N kx k ls (.ref a :: st) (HQ n z g H) = k ls (va_rf (RF H a kx) :: st) (HQ n z g H) := if_pos (Q_sh ha hs)
  rw [e, RF_in hm hr]
  rfl
theorem Q_ial {n z a N i : Nat} {g : GG} {H : List (Nat × Nat)} (ha : a < n) (hs : SH a = (1, N)) (hN : N < 2147483648) (hi : i < N) (k : KK) (ls st : List Value) : kIal k ls (.int (nI i) :: .ref a :: st) (HQ n z g H) = k ls (.int (g a i) :: st) (HQ n z g H) := by
  have h1 : hSh (HQ n z g H) a = (1, N) := Q_sh ha hs
  unfold kIal
  simp only [h1]
  rw [if_pos ⟨trivial, inb_nI hi hN⟩, nI_clamp (Nat.lt_trans hi hN)]
  rfl
theorem Q_ias {n z a N i : Nat} {g : GG} {H : List (Nat × Nat)} {x : Int32} (ha : a < n) (hs : SH a = (1, N)) (hN : N < 2147483648) (hi : i < N) (k : KK) (ls st : List Value) : kIas k ls (.int x :: .int (nI i) :: .ref a :: st) (HQ n z g H) = k ls st (HQ n z (upd2 g a i x) H) := by
  have h1 : hSh (HQ n z g H) a = (1, N) := Q_sh ha hs
  unfold kIas
  simp only [h1]
  rw [if_pos ⟨trivial, inb_nI hi hN⟩, nI_clamp (Nat.lt_trans hi hN)]
  rfl
theorem Q_len {n z a kd N : Nat} {g : GG} {H : List (Nat × Nat)} (ha : a < n) (hs : SH a = (kd, N)) (h1 : kd ≠ 0) (h2 : kd < 6) (k : KK) (ls st : List Value) : kLen k ls (.ref a :: st) (HQ n z g H) = k ls (.int (nI N) :: st) (HQ n z g H) := by
  have e : hSh (HQ n z g H) a = (kd, N) := Q_sh ha hs
  show (if (hSh (HQ n z g H) a).1 ≠ 0 ∧ (hSh (HQ n z g H) a).1 < 6 then k ls (.int (Int32.ofNat (hSh (HQ n z g H) a).2) :: st) (HQ n z g H) else none) = _
  rw [e, if_pos ⟨h1, h2⟩]
  rfl
theorem Q_aal {n z a t N i b : Nat} {g : GG} {H : List (Nat × Nat)} (ha : a < n) (hs : SH a = (1 + t, N)) (hN : N < 2147483648) (hi : i < N) (hm : (a, i) ∈ H) (hr : RR 17 175 a i = some b) (k : KK) (ls st : List Value) : kAal t k ls (.int (nI i) :: .ref a :: st) (HQ n z g H) = k ls (.ref b :: st) (HQ n z g H) := by
  have h1 : hSh (HQ n z g H) a = (1 + t, N) := Q_sh ha hs
  unfold kAal
  simp only [h1]
  rw [if_pos ⟨trivial, inb_nI hi hN⟩, nI_clamp (Nat.lt_trans hi hN)]
  show k ls (va_rf (RF H a i) :: st) (HQ n z g H) = _
  rw [RF_in hm hr]
  rfl
theorem Q_aas {n z a t ci nc N i b : Nat} {g : GG} {H : List (Nat × Nat)} (ha : a < n) (hb : b < n) (hs : SH a = (1 + t, N)) (hs2 : SH b = (40 + ci, nc)) (hN : N < 2147483648) (hi : i < N) (hr : RR 17 175 a i = some b) (k : KK) (ls st : List Value) : kAas t ci nc k ls (.ref b :: .int (nI i) :: .ref a :: st) (HQ n z g H) = k ls st (HQ n z g ((a, i) :: H)) := by
  have h1 : hSh (HQ n z g H) a = (1 + t, N) := Q_sh ha hs
  have h2 : hSh (HQ n z g H) b = (40 + ci, nc) := Q_sh hb hs2
  unfold kAas
  simp only [h1, h2]
  rw [if_pos ⟨trivial, inb_nI hi hN, trivial⟩, nI_clamp (Nat.lt_trans hi hN)]
  show k ls st (SHn n, g, upd2 (RF H) a i (some b), n, z) = _
  rw [RF_cons hr]
  rfl
theorem Q_rc0 {n z a ci N : Nat} {g : GG} {H : List (Nat × Nat)} (ha : a < n) (hs : SH a = (40 + ci, N)) (k : KK) (ls st : List Value) : kRecv ci N 0 k ls (.ref a :: st) (HQ n z g H) = k ls (.ref a :: st) (HQ n z g H) := if_pos (Q_sh ha hs)
theorem Q_rc1 {n z a ci N : Nat} {g : GG} {H : List (Nat × Nat)} (ha : a < n) (hs : SH a = (40 + ci, N)) (k : KK) (ls st : List Value) (v0 : Value) : kRecv ci N 1 k ls (v0 :: .ref a :: st) (HQ n z g H) = k ls (v0 :: .ref a :: st) (HQ n z g H) := if_pos (Q_sh ha hs)
theorem Q_rc3 {n z a ci N : Nat} {g : GG} {H : List (Nat × Nat)} (ha : a < n) (hs : SH a = (40 + ci, N)) (k : KK) (ls st : List Value) (v0 v1 v2 : Value) : kRecv ci N 3 k ls (v0 :: v1 :: v2 :: .ref a :: st) (HQ n z g H) = k ls (v0 :: v1 :: v2 :: .ref a :: st) (HQ n z g H) := if_pos (Q_sh ha hs)
theorem Q_ref0 (k : KK) (ls st : List Value) (h : HP) (a : Nat) : kRef 0 k ls (.ref a :: st) h = k ls (.ref a :: st) h := Eq.trans rfl rfl
theorem Q_ref1 (k : KK) (ls st : List Value) (h : HP) (a : Nat) (v : Value) : kRef 1 k ls (v :: .ref a :: st) h = k ls (v :: .ref a :: st) h := Eq.trans rfl rfl
theorem Q_ref2 (k : KK) (ls st : List Value) (h : HP) (a : Nat) (v w : Value) : kRef 2 k ls (v :: w :: .ref a :: st) h = k ls (v :: w :: .ref a :: st) h := Eq.trans rfl rfl
theorem Q_obj (k : KK) (ls : List Value) (h : HP) (a : Nat) : kObjI k ls [.ref a] h = k ls [] h := Eq.trans rfl rfl
theorem Q_ast1 (k : KK) (v : Value) (a : Nat) (st : List Value) (h : HP) : kAst 1 k [v] (.ref a :: st) h = k [v, .ref a] st h := Eq.trans rfl rfl
theorem Q_ast2 (k : KK) (v w : Value) (a : Nat) (st : List Value) (h : HP) : kAst 2 k [v, w] (.ref a :: st) h = k [v, w, .ref a] st h := Eq.trans rfl rfl
theorem Q_ast3 (k : KK) (v w x : Value) (a : Nat) (st : List Value) (h : HP) : kAst 3 k [v, w, x] (.ref a :: st) h = k [v, w, x, .ref a] st h := Eq.trans rfl rfl
theorem Q_fill {n z a N : Nat} {g : GG} {H : List (Nat × Nat)} {v : Int32} (ha : a < n) (hs : SH a = (1, N)) (hn : N < 9999) : f_J7_fill_53178 [.ref a, .int v] (HQ n z g H) = some (none, HQ n z (flA g a N v) H) := by
  have le : ∀ (k : KK) (ls st : List Value) (g : GG), kLen k ls (.ref a :: st) (HQ n z g H) = k ls (.int (nI N) :: st) (HQ n z g H) := fun k ls st g => Q_len ha hs (by decide) (by decide) k ls st
  simp only [f_J7_fill_53178, kb_J7_fill_53178_0, KL, KB, KC, KI, KJ, KZ, bI_0, bI_n, nI00, nI10, ne_eq, Classical.not_not, not_true_eq_false, not_false_eq_true, if_true, if_false, ite_not, ite_self, Bool.false_eq_true, nIne1, le]
  unfold kl_J7_fill_53178_5
  refine kFor N (by unfold FU; omega) (fun i ls h => ls = [.ref a, .int v, .int (nI i), .int (nI N)] ∧ h = HQ n z (flA g a i v) H) (fun r => r = some (none, HQ n z (flA g a N v) H)) ?_ ?_ 0 _ _ (by omega) ⟨rfl, ?_⟩
  · rintro s ls h ⟨rfl, rfl⟩
    have hin : (N ≤ N) = True := eq_true (by omega)
    simp (disch := first | assumption | omega) only [KL, KB, KC, KI, KJ, KZ, bI_0, bI_n, nI00, nI10, ne_eq, Classical.not_not, not_true_eq_false, not_false_eq_true, if_true, if_false, ite_not, ite_self, Bool.false_eq_true, nIne1, kMask, mask, mask_n, nIle, hin]
  · rintro s i hi ih ls h ⟨rfl, rfl⟩
    have hin : (N ≤ i) = False := eq_false (by omega)
    have ei := fun (k : KK) (ls st : List Value) => Q_ias (n := n) (z := z) (g := flA g a i v) (H := H) (x := v) ha hs (by omega) hi k ls st
    simp (disch := first | assumption | omega) only [KL, KB, KC, KI, KJ, KZ, bI_0, bI_n, nI00, nI10, ne_eq, Classical.not_not, not_true_eq_false, not_false_eq_true, if_true, if_false, ite_not, ite_self, Bool.false_eq_true, nIne1, kMask, mask, mask_n, nIle, hin, ei, nI_add]
    refine ih _ _ ⟨rfl, ?_⟩
    congr 1
    funext b j
    unfold upd2 flA
    by_cases q : b = a ∧ j = i
    · rw [if_pos q, if_pos ⟨q.1, by omega⟩]
    · rw [if_neg q]
      by_cases q2 : b = a ∧ j < i
      · rw [if_pos q2, if_pos ⟨q2.1, by omega⟩]
      · rw [if_neg q2, if_neg (fun q3 => by omega)]
  · congr 1
    funext b j
    unfold flA
    rw [if_neg (fun q => by omega)]
/-- what a run of a constructor leaves: up to n', by z' slots more -/
def CTR (n n' z' : Nat) (g : GG) (H : List (Nat × Nat)) (z : Nat) (r : RS) (P : GG → List (Nat × Nat) → Prop) : Prop := ∃ (g' : GG) (H' : List (Nat × Nat)), r = some (none, HQ n' (z + z') g' H') ∧ INV n' g' H' ∧ (∀ q, q ∈ H → q ∈ H') ∧ P g' H'
-- a rule
theorem i_rule {q z : Nat} {g : GG} {H : List (Nat × Nat)} (hR : isR q) (hq : q + 3 ≤ 212) (hI : INV (q + 1) g H) : CTR (q + 1) (q + 3) 417 g H z (f_X7_init [.ref q] (HQ (q + 1) z g H)) (fun g' H' => (∀ a, a ≠ q → g' a = g a) ∧ (∀ i, g q i = 0 → g' q i = 0) ∧ ∀ j, 3 ≤ j → j ≤ 4 → (q, j) ∈ H') := by
  obtain ⟨s0, s1, s2, sR⟩ := hR
  have r3 : RR 17 175 q 3 = some (q + 1) := sR 17 175 1 (by omega) (by omega)
  have r4 : RR 17 175 q 4 = some (q + 2) := sR 17 175 2 (by omega) (by omega)
  refine ⟨upd2 (upd2 (upd2 g q 0 (nI 0)) q 1 (nI 0)) q 2 (nI 0), (q, 4) :: (q, 3) :: H, ?_, ?_, fun x hx => ?_, fun a ha => by rw [uN ha, uN ha, uN ha], fun i hi => ?_, fun j h1 h2 => ?_⟩
  · simp (disch := first | assumption | omega | (repeat first | assumption | omega | apply INV.pi | apply INV.pr | (refine INV.up (by assumption) ?_))) only [f_X7_init, kb_X7_init_0, KL, KB, KC, KI, KJ, KZ, bI_0, bI_n, nI00, nI10, ne_eq, Classical.not_not, not_true_eq_false, not_false_eq_true, if_true, if_false, ite_not, ite_self, Bool.false_eq_true, nIne1, Q_obj, Q_pi, Q_newA, Q_pr]
  · exact INV.pr (INV.pr (INV.pi (INV.pi (INV.pi (hI.up (by omega)) (by omega)) (by omega)) (by omega)) (by omega)) (by omega)
  · exact List.mem_cons_of_mem _ (List.mem_cons_of_mem _ hx)
  · by_cases q2 : i = 2
    · rw [q2]; exact uS
    · rw [uO (Or.inr q2)]
      by_cases q1 : i = 1
      · rw [q1]; exact uS
      · rw [uO (Or.inr q1)]
        by_cases q0 : i = 0
        · rw [q0]; exact uS
        · rw [uO (Or.inr q0)]; exact hi
  · rcases (by omega : j = 3 ∨ j = 4) with rfl | rfl
    · exact List.mem_cons_of_mem _ List.mem_cons_self
    · exact List.mem_cons_self
