-- ===== a day's tick: the picture of a crossing that the days change =====
abbrev Goods : Type := Nat × Nat × Nat
/-- carts, rows, what is counted of roads, what is counted of the crossing -/
abbrev AX : Type := (Nat → Option ACart) × (Nat → List Goods) × (Nat → Nat → Nat) × (Nat → Nat)
def cartC (g : GG) (X r : Nat) : Option ACart → Prop
  | none => g (X + 2) r = -1
  | some c => g (X + 2) r = nI c.1.1 ∧ g (X + 2) (6 + r) = nI c.1.2.1 ∧ g (X + 2) (12 + r) = nI c.1.2.2 ∧ g (X + 2) (18 + r) = nI c.2.1 ∧ g (X + 2) (24 + r) = nI c.2.2.1 ∧ g (X + 2) (30 + r) = nI c.2.2.2
def cartM (g : GG) (B r : Nat) : Option ACart → Prop
  | none => g 189 (B + 92 * r + 18) = nI 0
  | some c => g 189 (B + 92 * r + 18) = nI 1 ∧ g 189 (B + 92 * r + 19) = nI c.1.1 ∧ g 189 (B + 92 * r + 20) = nI c.1.2.1 ∧ g 189 (B + 92 * r + 21) = nI c.1.2.2 ∧ g 189 (B + 92 * r + 22) = nI c.2.1 ∧ g 189 (B + 92 * r + 23) = nI c.2.2.1 ∧ g 189 (B + 92 * r + 24) = nI c.2.2.2
def CXd (X : Nat) (A : AX) (g : GG) : Prop := (∀ r, r < 6 → cartC g X r (A.1 r)) ∧ (∀ r, r < 6 → g (X + 6) r = nI (A.2.1 r).length ∧ ∀ (i : Nat) (z : Goods), (A.2.1 r)[i]? = some z → g (X + 5) (20 * r + i) = nI (goodsN z)) ∧ (∀ t, t < 3 → ∀ r, r < 6 → g (X + 7) (6 * t + r) = nI (A.2.2.1 t r)) ∧ ∀ t, t < 3 → g (X + 8) t = nI (A.2.2.2 t)
def MXd (B : Nat) (A : AX) (g : GG) : Prop := (∀ r, r < 6 → cartM g B r (A.1 r)) ∧ (∀ r, r < 6 → g 189 (B + 92 * r + 25) = nI (A.2.1 r).length ∧ ∀ (i : Nat) (z : Goods), (A.2.1 r)[i]? = some z → g 189 (B + 92 * r + 26 + 3 * i) = nI z.1 ∧ g 189 (B + 92 * r + 26 + 3 * i + 1) = nI z.2.1 ∧ g 189 (B + 92 * r + 26 + 3 * i + 2) = nI z.2.2) ∧ (∀ t, t < 3 → ∀ r, r < 6 → g 189 (B + 92 * r + 86 + t) = nI (A.2.2.1 t r)) ∧ ∀ t, t < 3 → g 189 (B + 553 + t) = nI (A.2.2.2 t)
def BXd (n b : Nat) (A : AX) : Prop := (∀ r, r < 6 → ∀ c, A.1 r = some c → r < n ∧ okGo n r c.1 ∧ c.2.1 ≤ 99 ∧ c.2.2.1 ≤ 2 ∧ c.2.2.2 ≤ b) ∧ (∀ r, r < 6 → (A.2.1 r).length ≤ 20 ∧ (n ≤ r → A.2.1 r = []) ∧ ∀ z ∈ A.2.1 r, okGo n r z) ∧ (∀ t, t < 3 → ∀ r, r < 6 → A.2.2.1 t r ≤ b ∧ (n ≤ r → A.2.2.1 t r = 0)) ∧ ∀ t, t < 3 → A.2.2.2 t ≤ b
def dr1 (s : Int32) : Int32 := s * nI 1664525 + nI 1013904223
def drV (s : Int32) (k : Nat) : Nat := s.toUInt32.toNat / 256 % k
theorem dr_shr (s : Int32) : (s.toUInt32 >>> ((nI 8).toUInt32 &&& Int32.toUInt32 31)).toInt32 = nI (s.toUInt32.toNat / 256) := by
  have h8 : ((nI 8).toUInt32 &&& Int32.toUInt32 31) = 8 := by decide
  rw [h8]
  apply bv_eq
  show (s.toUInt32 >>> 8).toBitVec = BitVec.ofNat 32 (s.toUInt32.toNat / 256)
  apply BitVec.eq_of_toNat_eq
  show (s.toUInt32 >>> 8).toNat = _
  rw [UInt32.toNat_shiftRight, BitVec.toNat_ofNat]
  have := s.toUInt32.toNat_lt
  show s.toUInt32.toNat >>> (8 % 32) = _
  rw [Nat.shiftRight_eq_div_pow, show (8 : Nat) % 32 = 8 from rfl]
  omega
theorem c_draw (g : GG) (m o k : Nat) (hk : 0 < k) (hk2 : k < 1000) : f_X9_drawOf [.ref 1, .int (nI k)] (hp g m o) = some (some (.int (nI (drV (dr1 (g 1 0)) k))), hp (upd2 g 1 0 (dr1 (g 1 0))) m o) := by
  have h0 : (nI k ≤ 0) = False := by rw [nIle0 (by omega)]; exact eq_false (by omega)
  have hz : (nI k = 0) = False := by rw [nIk0 (by omega)]; exact eq_false (by omega)
  have hs : ∀ s : Int32, s.toUInt32.toNat / 256 < 2147483648 := fun s => by have := s.toUInt32.toNat_lt; omega
  have hu := fun (g : GG) (v : Int32) => upd2_same g 1 0 v
  simp (disch := first | assumption | exact hs _ | omega) only [f_X9_drawOf, kb_X9_drawOf_31, kb_X9_drawOf_0, KL, KB, KC, KI, KJ, KZ, bI_0, bI_n, nI00, nI10, ne_eq, Classical.not_not, not_true_eq_false, not_false_eq_true, if_true, if_false, ite_not, ite_self, Bool.false_eq_true, nIne1, O_w, h0, hz, hu, dr_shr, nI_div, nI_rem2]
  rfl
theorem m_draw (g : GG) (m o k : Nat) (hk : 0 < k) (hk2 : k < 1000) : f_X11_draw [.ref 188, .int (nI k)] (hp g m o) = some (some (.int (nI (drV (dr1 (g 189 0)) k))), hp (upd2 g 189 0 (dr1 (g 189 0))) m o) := by
  have hz : (nI k = 0) = False := by rw [nIk0 (by omega)]; exact eq_false (by omega)
  have hs : ∀ s : Int32, s.toUInt32.toNat / 256 < 2147483648 := fun s => by have := s.toUInt32.toNat_lt; omega
  have hu := fun (g : GG) (v : Int32) => upd2_same g 189 0 v
  simp (disch := first | assumption | exact hs _ | omega) only [f_X11_draw, kb_X11_draw_0, KL, KB, KC, KI, KJ, KZ, bI_0, bI_n, nI00, nI10, ne_eq, Classical.not_not, not_true_eq_false, not_false_eq_true, if_true, if_false, ite_not, ite_self, Bool.false_eq_true, nIne1, O_mo, AR, hz, hu, dr_shr, nI_div, nI_rem2]
  rw [show nI 1664525 * g 189 0 + nI 1013904223 = dr1 (g 189 0) by unfold dr1; rw [Int32.mul_comm]]
  rfl
/-- a road's comer may come: the state of draws and the rows -/
def comeR (co : Nat → List Goods) (ch : Nat → Nat) (r : Nat) (S : Int32 × (Nat → List Goods)) : Int32 × (Nat → List Goods) :=
  if co r = [] then S
  else if drV (dr1 S.1) 100 < ch r then (dr1 (dr1 S.1), fun q => if q = r ∧ (S.2 r).length < 20 then S.2 r ++ [(co r).getD (drV (dr1 (dr1 S.1)) (co r).length) (0, 0, 0)] else S.2 q)
  else (dr1 S.1, S.2)
def comeN (co : Nat → List Goods) (ch : Nat → Nat) : Nat → Int32 × (Nat → List Goods) → Int32 × (Nat → List Goods)
  | 0, S => S
  | k + 1, S => comeR co ch k (comeN co ch k S)
theorem drV_lt (s : Int32) {k : Nat} (hk : 0 < k) : drV s k < k := Nat.mod_lt _ hk
theorem x_joinRow (g : GG) (m o X r : Nat) (z : Goods) (l : List Goods) (hX : isX X) (hr : r < 6) (hl : l.length ≤ 20) (e : g (X + 6) r = nI l.length) : f_X1_joinRow [.ref X, .int (nI r), .int (nI (goodsN z))] (hp g m o) = some (none, hp (if l.length < 20 then upd2 (upd2 g (X + 5) (20 * r + l.length) (nI (goodsN z))) (X + 6) r (nI (l.length + 1)) else g) m o) := by
  by_cases h : l.length < 20
  · have hle : (20 ≤ l.length) = False := eq_false (by omega)
    rw [if_pos h]
    simp (disch := first | assumption | omega) only [f_X1_joinRow, kb_X1_joinRow_34, kb_X1_joinRow_0, KL, KB, KC, KI, KJ, KZ, bI_0, bI_n, nI00, nI10, ne_eq, Classical.not_not, not_true_eq_false, not_false_eq_true, if_true, if_false, ite_not, ite_self, Bool.false_eq_true, nIne1, XO, e, nIle, hle, nI_mul, nI_add]
    rw [Nat.mul_comm r 20]
  · have hle : (20 ≤ l.length) = True := eq_true (by omega)
    rw [if_neg h]
    simp (disch := first | assumption | omega) only [f_X1_joinRow, kb_X1_joinRow_34, kb_X1_joinRow_0, KL, KB, KC, KI, KJ, KZ, bI_0, bI_n, nI00, nI10, ne_eq, Classical.not_not, not_true_eq_false, not_false_eq_true, if_true, if_false, ite_not, ite_self, Bool.false_eq_true, nIne1, XO, e, nIle, hle]
theorem c_bringComers {X n : Nat} {co : Nat → List Goods} {ch : Nat → Nat} {ro : Nat → List Goods} {g : GG} {m o : Nat} (hX : isX X) (hX1 : X + 9 < 77) (hX2 : 16 < X) (en : g X 0 = nI n) (n6 : n ≤ 6) (hco : ∀ r, r < n → (co r).length ≤ 2 ∧ g (X + 4) r = nI (co r).length ∧ ∀ (i : Nat) (z : Goods), (co r)[i]? = some z → g (X + 3) (2 * r + i) = nI (goodsN z)) (hch : ∀ r, r < n → ch r ≤ 100 ∧ g (X + 1) (24 + r) = nI (ch r)) (hro : ∀ r, r < 6 → (ro r).length ≤ 20 ∧ g (X + 6) r = nI (ro r).length ∧ ∀ (i : Nat) (z : Goods), (ro r)[i]? = some z → g (X + 5) (20 * r + i) = nI (goodsN z)) : ∃ g', f_X2_bringComers [.ref 184, .ref X] (hp g m o) = some (none, hp g' m o) ∧ g' 1 0 = (comeN co ch n (g 1 0, ro)).1 ∧ (∀ a, a ≠ 1 → a ≠ X + 5 → a ≠ X + 6 → g' a = g a) ∧ ∀ r, r < 6 → ((comeN co ch n (g 1 0, ro)).2 r).length ≤ 20 ∧ g' (X + 6) r = nI ((comeN co ch n (g 1 0, ro)).2 r).length ∧ ∀ (i : Nat) (z : Goods), ((comeN co ch n (g 1 0, ro)).2 r)[i]? = some z → g' (X + 5) (20 * r + i) = nI (goodsN z) := by
  simp (disch := first | assumption | omega) only [f_X2_bringComers, kb_X2_bringComers_61, kb_X2_bringComers_0, KL, KB, KC, KI, KJ, KZ, bI_0, bI_n, nI00, nI10, ne_eq, Classical.not_not, not_true_eq_false, not_false_eq_true, if_true, if_false, ite_not, ite_self, Bool.false_eq_true, nIne1]
  unfold kl_X2_bringComers_2
  refine kFor n (by unfold FU; omega) (fun i ls h => ∃ (g' : GG) (u : List Value), ls = [.ref 184, .ref X, .int (nI i)] ++ u ∧ h = hp g' m o ∧ g' 1 0 = (comeN co ch i (g 1 0, ro)).1 ∧ (∀ a, a ≠ 1 → a ≠ X + 5 → a ≠ X + 6 → g' a = g a) ∧ ∀ r, r < 6 → ((comeN co ch i (g 1 0, ro)).2 r).length ≤ 20 ∧ g' (X + 6) r = nI ((comeN co ch i (g 1 0, ro)).2 r).length ∧ ∀ (t : Nat) (z : Goods), ((comeN co ch i (g 1 0, ro)).2 r)[t]? = some z → g' (X + 5) (20 * r + t) = nI (goodsN z)) (fun r => ∃ g', r = some (none, hp g' m o) ∧ g' 1 0 = (comeN co ch n (g 1 0, ro)).1 ∧ (∀ a, a ≠ 1 → a ≠ X + 5 → a ≠ X + 6 → g' a = g a) ∧ ∀ r, r < 6 → ((comeN co ch n (g 1 0, ro)).2 r).length ≤ 20 ∧ g' (X + 6) r = nI ((comeN co ch n (g 1 0, ro)).2 r).length ∧ ∀ (i : Nat) (z : Goods), ((comeN co ch n (g 1 0, ro)).2 r)[i]? = some z → g' (X + 5) (20 * r + i) = nI (goodsN z)) ?_ ?_ 0 _ _ (by omega) ⟨g, [], rfl, rfl, rfl, fun _ _ _ _ => rfl, hro⟩
  · rintro s0 ls h ⟨g', u, rfl, rfl, h1, h2, h3⟩
    have e : g' X 0 = nI n := by rw [h2 X (by omega) (by omega) (by omega)]; exact en
    have hin : (n ≤ n) = True := eq_true (by omega)
    simp (disch := first | assumption | omega) only [KL, KB, KC, KI, KJ, KZ, bI_0, bI_n, nI00, nI10, ne_eq, Classical.not_not, not_true_eq_false, not_false_eq_true, if_true, if_false, ite_not, ite_self, Bool.false_eq_true, nIne1, List.cons_append, List.nil_append, kMask, mask, XO, e, nIle, hin]
    exact ⟨g', rfl, h1, h2, h3⟩
  · rintro s0 i hi ih ls h ⟨g', u, rfl, rfl, h1, h2, h3⟩
    have e : g' X 0 = nI n := by rw [h2 X (by omega) (by omega) (by omega)]; exact en
    have hin : (n ≤ i) = False := eq_false (by omega)
    obtain ⟨c2, c4, c3⟩ := hco i hi
    obtain ⟨k1, k2⟩ := hch i hi
    have e4 : g' (X + 4) i = nI (co i).length := by rw [h2 _ (by omega) (by omega) (by omega)]; exact c4
    have hS : comeN co ch (i + 1) (g 1 0, ro) = comeR co ch i (comeN co ch i (g 1 0, ro)) := rfl
    generalize comeN co ch i (g 1 0, ro) = S at *
    by_cases hc : co i = []
    · have hl : (nI (co i).length ≤ 0) = True := by rw [hc]; exact eq_true (by decide)
      have hR : comeR co ch i S = S := if_pos hc
      rw [hR] at hS
      simp (disch := first | assumption | omega) only [f_X2_bringComers, kb_X2_bringComers_61, kb_X2_bringComers_0, KL, KB, KC, KI, KJ, KZ, bI_0, bI_n, nI00, nI10, ne_eq, Classical.not_not, not_true_eq_false, not_false_eq_true, if_true, if_false, ite_not, ite_self, Bool.false_eq_true, nIne1, List.cons_append, List.nil_append, kMask, mask, XO, e, nIle, hin, e4, hl, nI_add]
      exact ih _ _ ⟨g', _, rfl, rfl, by rw [hS]; exact h1, h2, by rw [hS]; exact h3⟩
    · have hpos : 0 < (co i).length := by
        cases hh : co i with
        | nil => exact absurd hh hc
        | cons a t => exact Nat.succ_pos _
      have hl : (nI (co i).length ≤ 0) = False := by rw [nIle0 (by omega)]; exact eq_false (by omega)
      have ed := c_draw g' m o 100 (by omega) (by omega)
      rw [h1] at ed
      have d1 := drV_lt (dr1 S.1) (show 0 < 100 by omega)
      have ef : upd2 g' 1 0 (dr1 S.1) (X + 1) (24 + i) = nI (ch i) := by rw [uN (by omega), h2 _ (by omega) (by omega) (by omega)]; exact k2
      have efa := x_fact (upd2 g' 1 0 (dr1 S.1)) m o X 4 i hX (by omega) (by omega)
      rw [show 4 * 6 + i = 24 + i by omega, ef] at efa
      by_cases hd : drV (dr1 S.1) 100 < ch i
      · have hle : (ch i ≤ drV (dr1 S.1) 100) = False := eq_false (by omega)
        have ed2 := c_draw (upd2 g' 1 0 (dr1 S.1)) m o (co i).length hpos (by omega)
        rw [uS] at ed2
        have d2 := drV_lt (dr1 (dr1 S.1)) hpos
        generalize hk : drV (dr1 (dr1 S.1)) (co i).length = k at *
        have hz : (co i)[k]? = some ((co i).getD k (0, 0, 0)) := by rw [List.getD_eq_getElem?_getD, List.getElem?_eq_getElem d2]; rfl
        have ez := c3 _ _ hz
        have ez' : upd2 (upd2 g' 1 0 (dr1 S.1)) 1 0 (dr1 (dr1 S.1)) (X + 3) (2 * i + k) = nI (goodsN ((co i).getD k (0, 0, 0))) := by rw [uN (by omega), uN (by omega), h2 _ (by omega) (by omega) (by omega)]; exact ez
        obtain ⟨l1, l2, l3⟩ := h3 i (by omega)
        have ej := x_joinRow (upd2 (upd2 g' 1 0 (dr1 S.1)) 1 0 (dr1 (dr1 S.1))) m o X i ((co i).getD k (0, 0, 0)) (S.2 i) hX (by omega) l1 (by rw [uN (by omega), uN (by omega)]; exact l2)
        have hR : comeR co ch i S = (dr1 (dr1 S.1), fun q => if q = i ∧ (S.2 i).length < 20 then S.2 i ++ [(co i).getD k (0, 0, 0)] else S.2 q) := by
          unfold comeR
          rw [if_neg hc, if_pos hd, hk]
        rw [hR] at hS
        simp (disch := first | assumption | omega) only [f_X2_bringComers, kb_X2_bringComers_61, kb_X2_bringComers_0, KL, KB, KC, KI, KJ, KZ, bI_0, bI_n, nI00, nI10, ne_eq, Classical.not_not, not_true_eq_false, not_false_eq_true, if_true, if_false, ite_not, ite_self, Bool.false_eq_true, nIne1, List.cons_append, List.nil_append, kMask, mask, XO, O_dy, O_w, e, nIle, hin, e4, hl, ed, efa, hle, nI_mul, ed2, nI_add, ez', ej]
        refine ih _ _ ⟨_, _, rfl, rfl, ?_, fun a a1 a2 a3 => ?_, fun r hr => ?_⟩
        · rw [hS]
          split
          · rw [uN (by omega), uN (by omega), uS]
          · rw [uS]
        · split
          · rw [uN a3, uN a2, uN a1, uN a1]; exact h2 a a1 a2 a3
          · rw [uN a1, uN a1]; exact h2 a a1 a2 a3
        · rw [hS]
          obtain ⟨r1, r2, r3⟩ := h3 r hr
          by_cases hl20 : (S.2 i).length < 20
          · simp only [hl20, and_true, if_true]
            by_cases q : r = i
            · subst q
              simp only [if_true]
              refine ⟨by rw [List.length_append, List.length_singleton]; omega, by rw [uS, List.length_append]; rfl, fun t z hz => ?_⟩
              by_cases ht : t < (S.2 r).length
              · rw [List.getElem?_append_left ht] at hz
                rw [uN (by omega), uO (by omega), uN (by omega), uN (by omega)]
                exact r3 t z hz
              · rw [List.getElem?_append_right (by omega)] at hz
                have : t - (S.2 r).length = 0 := by
                  apply Nat.eq_zero_of_not_pos
                  intro q
                  rw [List.getElem?_eq_none (by rw [List.length_singleton]; omega)] at hz
                  cases hz
                rw [this] at hz
                cases hz
                rw [uN (by omega), show t = (S.2 r).length by omega, uS]
            · simp only [q, if_false]
              refine ⟨r1, by rw [uO (by omega), uN (by omega), uN (by omega), uN (by omega)]; exact r2, fun t z hz => ?_⟩
              have := (List.getElem?_eq_some_iff.mp hz).1
              rw [uN (by omega), uO (by omega), uN (by omega), uN (by omega)]
              exact r3 t z hz
          · simp only [hl20, and_false, if_false]
            exact ⟨r1, by rw [uN (by omega), uN (by omega)]; exact r2, fun t z hz => by rw [uN (by omega), uN (by omega)]; exact r3 t z hz⟩
      · have hle : (ch i ≤ drV (dr1 S.1) 100) = True := eq_true (by omega)
        have hR : comeR co ch i S = (dr1 S.1, S.2) := by unfold comeR; rw [if_neg hc, if_neg hd]
        rw [hR] at hS
        simp (disch := first | assumption | omega) only [f_X2_bringComers, kb_X2_bringComers_61, kb_X2_bringComers_0, KL, KB, KC, KI, KJ, KZ, bI_0, bI_n, nI00, nI10, ne_eq, Classical.not_not, not_true_eq_false, not_false_eq_true, if_true, if_false, ite_not, ite_self, Bool.false_eq_true, nIne1, List.cons_append, List.nil_append, kMask, mask, XO, O_dy, O_w, e, nIle, hin, e4, hl, ed, efa, hle, nI_add]
        refine ih _ _ ⟨_, _, rfl, rfl, by rw [hS, uS], fun a a1 a2 a3 => by rw [uN a1]; exact h2 a a1 a2 a3, fun r hr => ?_⟩
        rw [hS, uN (by omega), uN (by omega)]
        exact h3 r hr
