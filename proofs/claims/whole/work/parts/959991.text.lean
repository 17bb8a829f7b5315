-- ===== texts =====
def chI (i j : Nat) : Int32 := (SRb.getD i []).getD j 0
theorem sIdx_at {i : Nat} (hi : i < 24) : sIdx (OUT + 2 * i) = some i := by
  unfold sIdx
  rw [if_pos ⟨by omega, by omega, by omega⟩]
  congr 1
  omega
theorem bIdx_at {i : Nat} (hi : i < 24) : bIdx (OUT + 2 * i + 1) = some i := by
  unfold bIdx
  rw [if_pos ⟨by omega, by omega, by omega⟩]
  congr 1
  omega
theorem S_rc0 {i : Nat} (hi : i < 24) (k : KK) (ls st : List Value) (h : HP) : kRecvS 0 k ls (.ref (OUT + 2 * i) :: st) h = k ls (.ref (OUT + 2 * i) :: st) h := by
  show (match sIdx (OUT + 2 * i) with | some _ => k ls (.ref (OUT + 2 * i) :: st) h | none => none) = _
  rw [sIdx_at hi]
theorem S_rc1 {i : Nat} (hi : i < 24) (k : KK) (ls st : List Value) (h : HP) (v : Value) : kRecvS 1 k ls (v :: .ref (OUT + 2 * i) :: st) h = k ls (v :: .ref (OUT + 2 * i) :: st) h := by
  show (match sIdx (OUT + 2 * i) with | some _ => k ls (v :: .ref (OUT + 2 * i) :: st) h | none => none) = _
  rw [sIdx_at hi]
theorem S_rc2 {i : Nat} (hi : i < 24) (k : KK) (ls st : List Value) (h : HP) (v w : Value) : kRecvS 2 k ls (v :: w :: .ref (OUT + 2 * i) :: st) h = k ls (v :: w :: .ref (OUT + 2 * i) :: st) h := by
  show (match sIdx (OUT + 2 * i) with | some _ => k ls (v :: w :: .ref (OUT + 2 * i) :: st) h | none => none) = _
  rw [sIdx_at hi]
theorem S_val {i : Nat} (hi : i < 24) (k : KK) (ls st : List Value) (h : HP) : kSVal k ls (.ref (OUT + 2 * i) :: st) h = k ls (.ref (OUT + 2 * i + 1) :: st) h := by
  show (match sIdx (OUT + 2 * i) with | some i => k ls (.ref (OUT + 2 * i + 1) :: st) h | none => none) = _
  rw [sIdx_at hi]
theorem S_cod {i : Nat} (hi : i < 24) (k : KK) (ls st : List Value) (h : HP) : kSCod k ls (.ref (OUT + 2 * i) :: st) h = k ls (.int 0 :: st) h := by
  show (match sIdx (OUT + 2 * i) with | some _ => k ls (.int 0 :: st) h | none => none) = _
  rw [sIdx_at hi]
theorem S_len {i : Nat} (hi : i < 24) (k : KK) (ls st : List Value) (h : HP) : kSLen k ls (.ref (OUT + 2 * i + 1) :: st) h = k ls (.int (nI (SRn.getD i 0)) :: st) h := by
  show (match bIdx (OUT + 2 * i + 1) with | some i => k ls (.int (Int32.ofNat (SRn.getD i 0)) :: st) h | none => none) = _
  rw [bIdx_at hi]
  rfl
theorem S_bal {i j : Nat} (hi : i < 24) (hj : j < SRn.getD i 0) (h31 : SRn.getD i 0 < 2147483648) (k : KK) (ls st : List Value) (h : HP) : kSBal k ls (.int (nI j) :: .ref (OUT + 2 * i + 1) :: st) h = k ls (.int (chI i j) :: st) h := by
  show (match bIdx (OUT + 2 * i + 1) with | some i => if inb (nI j) (SRn.getD i 0) then k ls (.int ((SRb.getD i []).getD (nI j).toNatClampNeg 0) :: st) h else none | none => none) = _
  rw [bIdx_at hi]
  show (if inb (nI j) (SRn.getD i 0) then k ls (.int ((SRb.getD i []).getD (nI j).toNatClampNeg 0) :: st) h else none) = _
  rw [if_pos (inb_nI hj h31), nI_clamp (Nat.lt_trans hj h31)]
  rfl
theorem S_push (v : Value) (k : KK) (ls st : List Value) (h : HP) : kPush v k ls st h = k ls (v :: st) h := Eq.trans rfl rfl
theorem S_pop (v : Value) (k : KK) (ls st : List Value) (h : HP) : kPop k ls (v :: st) h = k ls st h := Eq.trans rfl rfl
theorem S_str (i : Nat) (k : KK) (ls st : List Value) (h : HP) : kStr i k ls st h = k ls (.ref (OUT + 2 * i) :: st) h := Eq.trans rfl rfl
theorem S_uc (k : KK) (f : Int32 → Int32) (x : Int32) (ls st : List Value) (h : HP) : kUn f k ls (.int x :: st) h = k ls (.int (f x) :: st) h := Eq.trans rfl rfl
theorem srn_tab : (List.range 24).all (fun i => decide (SRn.getD i 0 < 191)) = true := by decide +kernel
theorem srn_b {i : Nat} (hi : i < 24) : SRn.getD i 0 < 191 := by
  have h := srn_tab
  rw [List.all_eq_true] at h
  exact of_decide_eq_true (h i (List.mem_range.mpr hi))
theorem ch_tab : (List.range 24).all (fun i => (List.range (SRn.getD i 0)).all (fun j => decide (((chI i j &&& nI 255).toUInt32 % 65536).toInt32 = chI i j) && decide (narrow .char (.int (chI i j)) = .int (chI i j)))) = true := by decide +kernel
theorem ch_ok {i j : Nat} (hi : i < 24) (hj : j < SRn.getD i 0) : ((chI i j &&& nI 255).toUInt32 % 65536).toInt32 = chI i j ∧ narrow .char (.int (chI i j)) = .int (chI i j) := by
  have h := ch_tab
  rw [List.all_eq_true] at h
  have h1 := h i (List.mem_range.mpr hi)
  rw [List.all_eq_true] at h1
  have h2 := h1 j (List.mem_range.mpr hj)
  rw [Bool.and_eq_true] at h2
  exact ⟨of_decide_eq_true h2.1, of_decide_eq_true h2.2⟩
theorem S_retc {i j : Nat} (hi : i < 24) (hj : j < SRn.getD i 0) (ls : List Value) (h : HP) : kRetW .char ls [.int (chI i j)] h = some (some (.int (chI i j)), h) := if_pos (ch_ok hi hj).2
theorem z11' : ((1 : Int32) = 0) = False := eq_false (by decide)
theorem s_latin {i : Nat} (hi : i < 24) (h : HP) : f_J0_isLatin1_aae02 [.ref (OUT + 2 * i)] h = some (some (.int (nI 1)), h) := by
  have z0 : ((0 : Int32) = 0) = True := eq_true rfl
  simp (disch := first | assumption | omega) only [f_J0_isLatin1_aae02, kb_J0_isLatin1_aae02_18, kb_J0_isLatin1_aae02_17, kb_J0_isLatin1_aae02_0, KL, KB, KC, KI, KJ, KZ, bI_0, bI_n, nI00, nI10, ne_eq, Classical.not_not, not_true_eq_false, not_false_eq_true, if_true, if_false, ite_not, ite_self, Bool.false_eq_true, nIne1, S_cod, z11', z0]
theorem s_charAt {i j : Nat} (hi : i < 24) (hj : j < SRn.getD i 0) (h : HP) : f_J0_charAt_5068e [.ref (OUT + 2 * i), .int (nI j)] h = some (some (.int (chI i j)), h) := by
  have hb := srn_b hi
  have el := s_latin hi h
  have z10 : (nI 1 = 0) = False := eq_false (by decide)
  have hneg : (nI j < 0) = False := nIlt0 (by omega)
  have hlt : (j < SRn.getD i 0) = True := eq_true hj
  have hb31 : SRn.getD i 0 < 2147483648 := by omega
  have hc := (ch_ok hi hj).1
  have e1 : f_J1_charAt_3b067 [.ref (OUT + 2 * i + 1), .int (nI j)] h = some (some (.int (chI i j)), h) := by
    simp (disch := first | assumption | omega) only [f_J1_charAt_3b067, kb_J1_charAt_3b067_0, f_J0_checkIndex_df160, kb_J0_checkIndex_df160_0, f_J3_checkIndex_8e157, kb_J3_checkIndex_8e157_0, KL, KB, KC, KI, KJ, KZ, bI_0, bI_n, nI00, nI10, ne_eq, Classical.not_not, not_true_eq_false, not_false_eq_true, if_true, if_false, ite_not, ite_self, Bool.false_eq_true, nIne1, S_len, S_push, S_pop, hneg, nIlt, hlt, S_bal, S_uc, hc, S_retc]
  simp (disch := first | assumption | omega) only [f_J0_charAt_5068e, kb_J0_charAt_5068e_0, KL, KB, KC, KI, KJ, KZ, bI_0, bI_n, nI00, nI10, ne_eq, Classical.not_not, not_true_eq_false, not_false_eq_true, if_true, if_false, ite_not, ite_self, Bool.false_eq_true, nIne1, S_rc0, el, z10, S_val, e1, S_retc]
theorem s_length {i : Nat} (hi : i < 24) (h : HP) : f_J0_length_8abf5 [.ref (OUT + 2 * i)] h = some (some (.int (nI (SRn.getD i 0))), h) := by
  have hb := srn_b hi
  have h0 : ∀ (ls : List Value) (h : HP), kRetW .byte ls [.int 0] h = some (some (.int 0), h) := fun ls h => by
    show (if narrow .byte (Value.int 0) = Value.int 0 then some (some (Value.int 0), h) else none) = _
    exact if_pos (by decide)
  have hs : nI (SRn.getD i 0) >>> ((0 : Int32) &&& 31) = nI (SRn.getD i 0) := by
    have := nI_shr (SRn.getD i 0) 0 (by omega) (by omega)
    rw [Nat.shiftRight_zero] at this
    exact this
  have ec : f_J0_coder_7d493 [.ref (OUT + 2 * i)] h = some (some (.int 0), h) := by
    simp (disch := first | assumption | omega) only [f_J0_coder_7d493, kb_J0_coder_7d493_14, kb_J0_coder_7d493_0, KL, KB, KC, KI, KJ, KZ, bI_0, bI_n, nI00, nI10, ne_eq, Classical.not_not, not_true_eq_false, not_false_eq_true, if_true, if_false, ite_not, ite_self, Bool.false_eq_true, nIne1, S_cod, z11', h0]
  simp (disch := first | assumption | omega) only [f_J0_length_8abf5, kb_J0_length_8abf5_0, KL, KB, KC, KI, KJ, KZ, bI_0, bI_n, nI00, nI10, ne_eq, Classical.not_not, not_true_eq_false, not_false_eq_true, if_true, if_false, ite_not, ite_self, Bool.false_eq_true, nIne1, S_val, S_len, S_rc0, ec, hs]
/-- the marks' codes; NO_TOKEN for any other sign -/
def mkC (c : Nat) : Nat := if c = 59 then 22 else if c = 43 then 23 else if c = 45 then 24 else if c = 42 then 25 else if c = 47 then 26 else if c = 40 then 27 else if c = 41 then 28 else if c = 60 then 29 else if c = 61 then 30 else if c = 62 then 31 else 34
def mkL (k : Nat) : Nat := [59, 43, 45, 42, 47, 40, 41, 60, 61, 62].getD k 0
theorem mk_tab : (List.range 256).all (fun c => (List.range 10).all (fun k => (decide (chI 1 k = (nI c).toInt8.toInt32) == decide (mkL k = c)))) = true := by decide +kernel
theorem mk_tab2 : (List.range 256).all (fun c => decide (firstJ (fun k => decide (mkL k = c)) 10 0 = if mkC c = 34 then -1 else nI (mkC c - 22))) = true := by decide +kernel
theorem s_index {c : Nat} (hc : c < 256) (h : HP) : f_J0_indexOf_0f7a4 [.ref (OUT + 2 * 1), .int (nI c)] h = some (some (.int (if mkC c = 34 then -1 else nI (mkC c - 22))), h) := by
  have t1 := mk_tab
  rw [List.all_eq_true] at t1
  have t1 := t1 c (List.mem_range.mpr hc)
  rw [List.all_eq_true] at t1
  have t2 := mk_tab2
  rw [List.all_eq_true] at t2
  have t2 := of_decide_eq_true (t2 c (List.mem_range.mpr hc))
  have hk : ∀ k, k < 10 → (chI 1 k = (nI c).toInt8.toInt32) = (mkL k = c) := fun k hk => by
    have := eq_of_beq (t1 k (List.mem_range.mpr hk))
    exact propext (by rw [← decide_eq_true_eq (p := chI 1 k = _), this, decide_eq_true_eq])
  have el := s_latin (i := 1) (by decide) h
  have eln := s_length (i := 1) (by decide) h
  have e10 : SRn.getD 1 0 = 10 := rfl
  rw [e10] at eln
  have z10 : (nI 1 = 0) = False := eq_false (by decide)
  have i1 : 1 < 24 := by decide
  have ln := fun (k : KK) (ls st : List Value) => S_len (i := 1) (by decide) k ls st h
  have ec : f_J1_canEncode_9a6ad [.int (nI c)] h = some (some (.int (nI 1)), h) := by
    have hneg : (nI c < 0) = False := nIlt0 (by omega)
    have h255 : (255 < c) = False := eq_false (by omega)
    simp (disch := first | assumption | omega) only [f_J1_canEncode_9a6ad, kb_J1_canEncode_9a6ad_16, kb_J1_canEncode_9a6ad_15, kb_J1_canEncode_9a6ad_0, KL, KB, KC, KI, KJ, KZ, bI_0, bI_n, nI00, nI10, ne_eq, Classical.not_not, not_true_eq_false, not_false_eq_true, if_true, if_false, ite_not, ite_self, Bool.false_eq_true, nIne1, hneg, nIlt, h255]
  have ei : f_J1_indexOfChar_4cfef [.ref (OUT + 2 * 1 + 1), .int (nI c), .int (nI 0), .int (nI 10)] h = some (some (.int (firstJ (fun k => decide (mkL k = c)) 10 0)), h) := by
    have key : kl_J1_indexOfChar_4cfef_7 [.ref (OUT + 2 * 1 + 1), .int (nI c), .int (nI 0), .int (nI 10), .int ((nI c).toInt8.toInt32), .int (nI 0)] [] h = some (some (.int (firstJ (fun k => decide (mkL k = c)) 10 0)), h) := by
      unfold kl_J1_indexOfChar_4cfef_7
      refine kFor 10 (by unfold FU; omega) (fun k ls h' => ∃ v w : Value, ls = [.ref (OUT + 2 * 1 + 1), v, w, .int (nI 10), .int ((nI c).toInt8.toInt32), .int (nI k)] ∧ h' = h ∧ k ≤ 10 ∧ firstJ (fun k => decide (mkL k = c)) 10 0 = firstJ (fun k => decide (mkL k = c)) (10 - k) k) (fun r => r = some (some (.int (firstJ (fun k => decide (mkL k = c)) 10 0)), h)) ?_ ?_ 0 _ _ (by omega) ⟨_, _, rfl, rfl, by omega, rfl⟩
      · rintro s ls h' ⟨v, w, rfl, rfl, -, h1⟩
        have hin : (10 ≤ 10) = True := eq_true (by omega)
        rw [h1]
        simp (disch := first | assumption | omega) only [KL, KB, KC, KI, KJ, KZ, bI_0, bI_n, nI00, nI10, ne_eq, Classical.not_not, not_true_eq_false, not_false_eq_true, if_true, if_false, ite_not, ite_self, Bool.false_eq_true, nIne1, kMask, mask, mask_n, nIle, hin]
        rfl
      · rintro s k hk10 ih ls h' ⟨v, w, rfl, rfl, -, h1⟩
        have hin : (10 ≤ k) = False := eq_false (by omega)
        have hs : firstJ (fun k => decide (mkL k = c)) (10 - k) k = if (decide (mkL k = c)) = true then nI k else firstJ (fun k => decide (mkL k = c)) (10 - (k + 1)) (k + 1) := by
          rw [show 10 - k = (10 - (k + 1)) + 1 by omega]; rfl
        have hb := fun (kk : KK) (ls st : List Value) => S_bal (i := 1) (j := k) (by decide) (by rw [e10]; exact hk10) (by decide) kk ls st h'
        have hkk := hk k hk10
        by_cases q : mkL k = c
        · have q' : (mkL k = c) = True := eq_true q
          rw [if_pos (decide_eq_true q)] at hs
          rw [h1, hs]
          simp (disch := first | assumption | omega) only [KL, KB, KC, KI, KJ, KZ, bI_0, bI_n, nI00, nI10, ne_eq, Classical.not_not, not_true_eq_false, not_false_eq_true, if_true, if_false, ite_not, ite_self, Bool.false_eq_true, nIne1, kMask, mask, mask_n, nIle, hin, hb, hkk, q']
        · have q' : (mkL k = c) = False := eq_false q
          rw [if_neg (fun e => q (of_decide_eq_true e))] at hs
          simp (disch := first | assumption | omega) only [KL, KB, KC, KI, KJ, KZ, bI_0, bI_n, nI00, nI10, ne_eq, Classical.not_not, not_true_eq_false, not_false_eq_true, if_true, if_false, ite_not, ite_self, Bool.false_eq_true, nIne1, kMask, mask, mask_n, nIle, hin, hb, hkk, q', nI_add]
          exact ih _ _ ⟨_, _, rfl, rfl, by omega, by rw [h1, hs]⟩
    rw [← key]
    simp (disch := first | assumption | omega) only [f_J1_indexOfChar_4cfef, kb_J1_indexOfChar_4cfef_0, KL, KB, KC, KI, KJ, KZ, bI_0, bI_n, nI00, nI10, ne_eq, Classical.not_not, not_true_eq_false, not_false_eq_true, if_true, if_false, ite_not, ite_self, Bool.false_eq_true, nIne1]
  have h00 : (nI 0 < nI 0) = False := eq_false (by decide)
  have h1010 : (nI 10 < nI 10) = False := eq_false (by decide)
  have h010 : (nI 0 < nI 10) = True := eq_true (by decide)
  have e4 : f_J1_indexOf_4cfef [.ref (OUT + 2 * 1 + 1), .int (nI c), .int (nI 0), .int (nI 10)] h = some (some (.int (firstJ (fun k => decide (mkL k = c)) 10 0)), h) := by
    simp (disch := first | assumption | omega) only [f_J1_indexOf_4cfef, kb_J1_indexOf_4cfef_0, KL, KB, KC, KI, KJ, KZ, bI_0, bI_n, nI00, nI10, ne_eq, Classical.not_not, not_true_eq_false, not_false_eq_true, if_true, if_false, ite_not, ite_self, Bool.false_eq_true, nIne1, ec, z10, KM, h00, ln, e10, h1010, h010, ei]
  have e3 : f_J0_indexOf_7cf53 [.ref (OUT + 2 * 1), .int (nI c), .int (nI 0)] h = some (some (.int (firstJ (fun k => decide (mkL k = c)) 10 0)), h) := by
    simp (disch := first | assumption | omega) only [f_J0_indexOf_7cf53, kb_J0_indexOf_7cf53_0, KL, KB, KC, KI, KJ, KZ, bI_0, bI_n, nI00, nI10, ne_eq, Classical.not_not, not_true_eq_false, not_false_eq_true, if_true, if_false, ite_not, ite_self, Bool.false_eq_true, nIne1, S_rc0 (i := 1), el, z10, S_val (i := 1), eln, e4]
  rw [← t2]
  simp (disch := first | assumption | omega) only [f_J0_indexOf_0f7a4, kb_J0_indexOf_0f7a4_0, KL, KB, KC, KI, KJ, KZ, bI_0, bI_n, nI00, nI10, ne_eq, Classical.not_not, not_true_eq_false, not_false_eq_true, if_true, if_false, ite_not, ite_self, Bool.false_eq_true, nIne1, S_rc2 (i := 1), e3]
