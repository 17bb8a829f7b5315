-- ===== the model lays a number out =====
theorem ex_dg {co : Nat → List Goods} : ∀ (n nu : Nat), nu < nuN co n → ∃ d, DG n co d ∧ hv co d n = nu := by
  intro n
  induction n with
  | zero =>
    intro nu h
    have : nu < 1 := h
    exact ⟨fun _ => 0, ⟨fun _ => Nat.zero_le _, fun _ _ => rfl⟩, by show 0 = nu; omega⟩
  | succ n ih =>
    intro nu h
    have h' : nu < nuN co n * ((co n).length + 1) := h
    have hb : 0 < (co n).length + 1 := Nat.succ_pos _
    obtain ⟨d, hd, he⟩ := ih (nu / ((co n).length + 1)) ((Nat.div_lt_iff_lt_mul hb).mpr h')
    refine ⟨fun q => if q = n then nu % ((co n).length + 1) else d q, ⟨fun q => ?_, fun q hq => ?_⟩, ?_⟩
    · simp only []
      split
      · rename_i e; rw [e]; have := Nat.mod_lt nu hb; omega
      · exact hd.1 q
    · simp only []
      rw [if_neg (by omega)]
      exact hd.2 q (by omega)
    · show hv co (fun q => if q = n then nu % ((co n).length + 1) else d q) n * ((co n).length + 1) + (if n = n then nu % ((co n).length + 1) else d n) = nu
      rw [if_pos rfl, hv_congr (d' := d) n (fun q hq => by rw [if_neg (by omega)]), he, Nat.mul_comm]
      exact Nat.div_add_mod nu _
theorem dgN_ok {n nu : Nat} {co : Nat → List Goods} (h : nu < nuN co n) : DG n co (dgN n co nu) ∧ hv co (dgN n co nu) n = nu := by
  obtain ⟨d, hd, he⟩ := ex_dg n nu h
  have := dgN_eq hd he
  rw [← this]
  exact ⟨hd, he⟩
/-- the model's cells of comers and the laid-out numbers of them -/
def MO (c n : Nat) (co : Nat → List Goods) (g : GG) : Prop := g 188 20 = nI n ∧ ∀ r, r < n → (co r).length ≤ 2 ∧ (∀ z ∈ co r, okGo n r z) ∧ g 206 r = nI (co r).length ∧ ∀ (i : Nat) (z : Goods), (co r)[i]? = some z → g 189 (10 + 560 * c + 92 * r + 6 + 3 * i) = nI z.1 ∧ g 189 (10 + 560 * c + 92 * r + 6 + 3 * i + 1) = nI z.2.1 ∧ g 189 (10 + 560 * c + 92 * r + 6 + 3 * i + 2) = nI z.2.2
theorem MO.congr {c n : Nat} {co : Nat → List Goods} {g g' : GG} (h : MO c n co g) (h0 : g' 188 20 = g 188 20) (h5 : g' 206 = g 206) (h8 : g' 189 = g 189) : MO c n co g' := ⟨by rw [h0]; exact h.1, fun r hr => by rw [h5, h8]; exact h.2 r hr⟩
theorem m_numbers {c n : Nat} {co : Nat → List Goods} {g : GG} {m o : Nat} (n6 : n ≤ 6) (h : MO c n co g) : f_X11_numbers [.ref 188] (hp g m o) = some (some (.int (nI (nuN co n))), hp g m o) := by
  simp (disch := first | assumption | omega) only [f_X11_numbers, kb_X11_numbers_0, KL, KB, KC, KI, KJ, KZ, bI_0, bI_n, nI00, nI10, ne_eq, Classical.not_not, not_true_eq_false, not_false_eq_true, if_true, if_false, ite_not, ite_self, Bool.false_eq_true, nIne1]
  unfold kl_X11_numbers_4
  refine kFor n (by unfold FU; omega) (fun i ls h' => ls = [.ref 188, .int (nI (nuN co i)), .int (nI i)] ∧ h' = hp g m o) (fun r => r = some (some (.int (nI (nuN co n))), hp g m o)) ?_ ?_ 0 _ _ (by omega) ⟨rfl, rfl⟩
  · rintro s0 ls h' ⟨rfl, rfl⟩
    have e := h.1
    have hin : (n ≤ n) = True := eq_true (by omega)
    simp (disch := first | assumption | omega) only [KL, KB, KC, KI, KJ, KZ, bI_0, bI_n, nI00, nI10, ne_eq, Classical.not_not, not_true_eq_false, not_false_eq_true, if_true, if_false, ite_not, ite_self, Bool.false_eq_true, nIne1, kMask, mask, O_mo, e, nIle, hin]
  · rintro s0 i hi ih ls h' ⟨rfl, rfl⟩
    have e := h.1
    have e5 := (h.2 i hi).2.2.1
    have hin : (n ≤ i) = False := eq_false (by omega)
    simp (disch := first | assumption | omega) only [KL, KB, KC, KI, KJ, KZ, bI_0, bI_n, nI00, nI10, ne_eq, Classical.not_not, not_true_eq_false, not_false_eq_true, if_true, if_false, ite_not, ite_self, Bool.false_eq_true, nIne1, kMask, mask, O_mo, AR, e, e5, nIle, hin, nI_add, nI_mul]
    exact ih _ _ ⟨rfl, rfl⟩
/-- laid out are the digits of the roads from i on -/
def LYR (n i : Nat) (co : Nat → List Goods) (d : Nat → Nat) (g : GG) : Prop := ∀ r, i ≤ r → r < n → g 207 r = bW (decide (0 < d r)) ∧ g 204 r = nI 0 ∧ (0 < d r → g 200 r = nI (cG co (xD d r)).1 ∧ g 201 r = nI (cG co (xD d r)).2.1 ∧ g 202 r = nI (cG co (xD d r)).2.2)
theorem cG_x {co : Nat → List Goods} {d : Nat → Nat} {r : Nat} (h1 : d r ≤ (co r).length) (h2 : (co r).length ≤ 2) (h0 : 0 < d r) : (co r)[d r - 1]? = some (cG co (xD d r)) := by
  unfold cG
  rw [show xD d r / 2 = r by unfold xD; omega, show xD d r % 2 = d r - 1 by unfold xD; omega, List.getD_eq_getElem?_getD, List.getElem?_eq_getElem (by omega)]
  rfl
theorem m_comes {c n r k : Nat} {co : Nat → List Goods} {g : GG} {m o : Nat} (hc : c < 6) (n6 : n ≤ 6) (hr : r < n) (h : MO c n co g) (hk : k ≤ (co r).length) : ∃ g', f_X11_comes [.ref 188, .int (nI c), .int (nI r), .int (nI k)] (hp g m o) = some (none, hp g' m o) ∧ (∀ a, a ≠ 200 → a ≠ 201 → a ≠ 202 → a ≠ 204 → a ≠ 207 → g' a = g a) ∧ (∀ a q, q ≠ r → g' a q = g a q) ∧ g' 207 r = bW (decide (0 < k)) ∧ g' 204 r = nI 0 ∧ (0 < k → ∀ z, (co r)[k - 1]? = some z → g' 200 r = nI z.1 ∧ g' 201 r = nI z.2.1 ∧ g' 202 r = nI z.2.2) := by
  obtain ⟨h1, -, h3, h4⟩ := h.2 r hr
  have r6 : r < 6 := by omega
  have stz : ∀ (g : GG) (x : Int32), x = nI 0 ∨ x = nI 1 → ∀ (k : KK) (ls st : List Value), kZas k ls (.int x :: .int (nI r) :: .ref 207 :: st) (hp g m o) = k ls st (hp (upd2 g 207 r x) m o) := fun g x hx k ls st => zas_at (n := 6) rfl (by decide) r6 hx k ls st
  by_cases hk0 : k = 0
  · subst hk0
    have hle : (nI 0 ≤ 0) = True := eq_true (by decide)
    have st := fun g => stz g (nI 0) (Or.inl rfl)
    refine ⟨upd2 (upd2 g 207 r (nI 0)) 204 r (nI 0), ?_, fun a _ _ _ a4 a5 => by rw [uN a4, uN a5], fun a q hq => by rw [uO (Or.inr hq), uO (Or.inr hq)], by rw [uN (by omega), uS]; rfl, uS, fun h => absurd h (by omega)⟩
    simp (disch := first | assumption | omega) only [f_X11_comes, kb_X11_comes_27, kb_X11_comes_14, kb_X11_comes_0, KL, KB, KC, KI, KJ, KZ, bI_0, bI_n, nI00, nI10, ne_eq, Classical.not_not, not_true_eq_false, not_false_eq_true, if_true, if_false, ite_not, ite_self, Bool.false_eq_true, nIne1, O_mo, AR, hle, st]
  · have hle : (nI k ≤ 0) = False := by rw [nIle0 (by omega)]; exact eq_false hk0
    have hne : (nI k = 0) = False := by rw [nIk0 (by omega)]; exact eq_false hk0
    have st := fun g => stz g (nI 1) (Or.inr rfl)
    have hz : (co r)[k - 1]? = some ((co r)[k - 1]'(by omega)) := List.getElem?_eq_getElem (by omega)
    obtain ⟨z0, z1, z2⟩ := h4 _ _ hz
    have mg := fun (g : GG) (f : Nat) (hf : f < 92) => m_get g m o c r f (by omega)
    have e0 := fun (g' : GG) (h8 : g' 189 = g 189) => (by
      have := mg g' (6 + 3 * (k - 1)) (by omega)
      rw [h8, show 10 + 560 * c + 92 * r + (6 + 3 * (k - 1)) = 10 + 560 * c + 92 * r + 6 + 3 * (k - 1) by omega, z0] at this
      exact this : f_X11_get [.ref 188, .int (nI c), .int (nI r), .int (nI (6 + 3 * (k - 1)))] (hp g' m o) = some (some (.int (nI ((co r)[k - 1]'(by omega)).1)), hp g' m o))
    have e1 := fun (g' : GG) (h8 : g' 189 = g 189) => (by
      have := mg g' (6 + 3 * (k - 1) + 1) (by omega)
      rw [h8, show 10 + 560 * c + 92 * r + (6 + 3 * (k - 1) + 1) = 10 + 560 * c + 92 * r + 6 + 3 * (k - 1) + 1 by omega, z1] at this
      exact this : f_X11_get [.ref 188, .int (nI c), .int (nI r), .int (nI (6 + 3 * (k - 1) + 1))] (hp g' m o) = some (some (.int (nI ((co r)[k - 1]'(by omega)).2.1)), hp g' m o))
    have e2 := fun (g' : GG) (h8 : g' 189 = g 189) => (by
      have := mg g' (6 + 3 * (k - 1) + 2) (by omega)
      rw [h8, show 10 + 560 * c + 92 * r + (6 + 3 * (k - 1) + 2) = 10 + 560 * c + 92 * r + 6 + 3 * (k - 1) + 2 by omega, z2] at this
      exact this : f_X11_get [.ref 188, .int (nI c), .int (nI r), .int (nI (6 + 3 * (k - 1) + 2))] (hp g' m o) = some (some (.int (nI ((co r)[k - 1]'(by omega)).2.2)), hp g' m o))
    generalize (co r)[k - 1]'(by omega) = z at *
    have f0 := e0 (upd2 (upd2 g 207 r (nI 1)) 204 r (nI 0)) (by rw [uN (by omega), uN (by omega)])
    have f1 := e1 (upd2 (upd2 (upd2 g 207 r (nI 1)) 204 r (nI 0)) 200 r (nI z.1)) (by rw [uN (by omega), uN (by omega), uN (by omega)])
    have f2 := e2 (upd2 (upd2 (upd2 (upd2 g 207 r (nI 1)) 204 r (nI 0)) 200 r (nI z.1)) 201 r (nI z.2.1)) (by rw [uN (by omega), uN (by omega), uN (by omega), uN (by omega)])
    refine ⟨upd2 (upd2 (upd2 (upd2 (upd2 g 207 r (nI 1)) 204 r (nI 0)) 200 r (nI z.1)) 201 r (nI z.2.1)) 202 r (nI z.2.2), ?_, fun a a1 a2 a3 a4 a5 => by rw [uN a3, uN a2, uN a1, uN a4, uN a5], fun a q hq => by rw [uO (Or.inr hq), uO (Or.inr hq), uO (Or.inr hq), uO (Or.inr hq), uO (Or.inr hq)], ?_, ?_, fun _ z' hz' => ?_⟩
    · simp (disch := first | assumption | omega) only [f_X11_comes, kb_X11_comes_27, kb_X11_comes_14, kb_X11_comes_0, KL, KB, KC, KI, KJ, KZ, bI_0, bI_n, nI00, nI10, ne_eq, Classical.not_not, not_true_eq_false, not_false_eq_true, if_true, if_false, ite_not, ite_self, Bool.false_eq_true, nIne1, O_mo, AR, hle, hne, st, nI_sub, nI_mul, nI_add, f0, f1, f2]
    · rw [uN (by omega), uN (by omega), uN (by omega), uN (by omega), uS, decide_eq_true (by omega)]; rfl
    · rw [uN (by omega), uN (by omega), uN (by omega), uS]
    · rw [hz] at hz'
      cases hz'
      exact ⟨by rw [uN (by omega), uN (by omega), uS], by rw [uN (by omega), uS], uS⟩
theorem m_lays {c n nu : Nat} {co : Nat → List Goods} {g : GG} {m o : Nat} (hc : c < 6) (n3 : 3 ≤ n) (n6 : n ≤ 6) (h : MO c n co g) (hnu : nu < nuN co n) (hN : nuN co n ≤ 729) : ∃ g', f_X11_lays [.ref 188, .int (nI c), .int (nI nu)] (hp g m o) = some (some (.int (nI (cD n (dgN n co nu)))), hp g' m o) ∧ (∀ a, a ≠ 200 → a ≠ 201 → a ≠ 202 → a ≠ 204 → a ≠ 207 → g' a = g a) ∧ LYR n 0 co (dgN n co nu) g' := by
  obtain ⟨hd, hv0⟩ := dgN_ok hnu
  generalize dgN n co nu = d at *
  have en := h.1
  simp (disch := first | assumption | omega) only [f_X11_lays, kb_X11_lays_0, KL, KB, KC, KI, KJ, KZ, bI_0, bI_n, nI00, nI10, ne_eq, Classical.not_not, not_true_eq_false, not_false_eq_true, if_true, if_false, ite_not, ite_self, Bool.false_eq_true, nIne1, O_mo, en, nI_sub]
  unfold kl_X11_lays_13
  refine kFix_rule (fun k ls st h' => st = [] ∧ ∃ (g' : GG) (v2 : Value) (mm : Nat), k ≤ n ∧ ls = [.ref 188, .int (nI c), v2, .int (nI (hv co d k)), .int (nI mm), .int (if k = 0 then -1 else nI (k - 1))] ∧ h' = hp g' m o ∧ (∀ a, a ≠ 200 → a ≠ 201 → a ≠ 202 → a ≠ 204 → a ≠ 207 → g' a = g a) ∧ mm + cntN (fun r => decide (0 < d r)) k = cD n d ∧ LYR n k co d g') (fun r => ∃ g', r = some (some (.int (nI (cD n d))), hp g' m o) ∧ (∀ a, a ≠ 200 → a ≠ 201 → a ≠ 202 → a ≠ 204 → a ≠ 207 → g' a = g a) ∧ LYR n 0 co d g') ?_ FU n (by show n < 10000; omega) _ _ _ ⟨rfl, g, _, 0, Nat.le_refl _, by rw [if_neg (by omega), hv0], rfl, fun _ _ _ _ _ _ => rfl, by unfold cD; omega, fun r h1 h2 => by omega⟩
  rintro s0 k ih ls st h' ⟨rfl, g', v2, mm, hk, rfl, rfl, h1, h2, h3⟩
  cases k with
  | zero =>
    have hneg : ((-1 : Int32) < 0) = True := eq_true (by decide)
    have hmm : mm = cD n d := by have : cntN (fun r => decide (0 < d r)) 0 = 0 := rfl; omega
    simp (disch := first | assumption | omega) only [KL, KB, KC, KI, KJ, KZ, bI_0, bI_n, nI00, nI10, ne_eq, Classical.not_not, not_true_eq_false, not_false_eq_true, if_true, if_false, ite_not, ite_self, Bool.false_eq_true, nIne1, kMask, mask, hneg]
    exact ⟨g', by rw [hmm], h1, h3⟩
  | succ k =>
    rw [if_neg (by omega), Nat.add_sub_cancel]
    have hkn : k < n := by omega
    have k6 : k < 6 := by omega
    have hM : MO c n co g' := h.congr (by rw [h1 188 (by omega) (by omega) (by omega) (by omega) (by omega)]) (h1 206 (by omega) (by omega) (by omega) (by omega) (by omega)) (h1 189 (by omega) (by omega) (by omega) (by omega) (by omega))
    obtain ⟨l2, -, e5, -⟩ := hM.2 k hkn
    have hneg : (nI k < 0) = False := nIlt0 (by omega)
    have hdk := hd.1 k
    have hval : hv co d (k + 1) = hv co d k * ((co k).length + 1) + d k := rfl
    have hb : 0 < (co k).length + 1 := Nat.succ_pos _
    have hbl : hv co d (k + 1) < 2147483648 := by
      have : ∀ j, j ≤ n → hv co d j + 1 ≤ nuN co j := by
        intro j
        induction j with
        | zero => intro _; exact Nat.le_refl _
        | succ j ihj =>
          intro hj
          have h1 := ihj (by omega)
          have h2 := hd.1 j
          show hv co d j * ((co j).length + 1) + d j + 1 ≤ nuN co j * ((co j).length + 1)
          have := Nat.mul_le_mul_right ((co j).length + 1) h1
          rw [Nat.add_mul, Nat.one_mul] at this
          omega
      have h3 := this (k + 1) (by omega)
      have h4 : nuN co (k + 1) ≤ 3 ^ (k + 1) := by
        have : ∀ j, j ≤ n → nuN co j ≤ 3 ^ j := by
          intro j
          induction j with
          | zero => intro _; exact Nat.le_refl _
          | succ j ihj =>
            intro hj
            show nuN co j * ((co j).length + 1) ≤ 3 ^ j * 3
            exact Nat.mul_le_mul (ihj (by omega)) (by have := (h.2 j (by omega)).1; omega)
        exact this (k + 1) (by omega)
      have h5 : 3 ^ (k + 1) ≤ 3 ^ 6 := Nat.pow_le_pow_right (by omega) (by omega)
      omega
    have hmod : hv co d (k + 1) % ((co k).length + 1) = d k := by rw [hval, Nat.mul_comm, Nat.mul_add_mod, Nat.mod_eq_of_lt (by omega)]
    have hdiv : hv co d (k + 1) / ((co k).length + 1) = hv co d k := by rw [hval, Nat.mul_comm, Nat.mul_add_div hb, Nat.div_eq_of_lt (by omega), Nat.add_zero]
    have hmodI : nI (hv co d (k + 1)) - nI (hv co d k) * nI ((co k).length + 1) = nI (d k) := by rw [← hdiv, nI_rem2, hmod]
    have hb0 : (nI ((co k).length + 1) = 0) = False := by rw [nIk0 (by omega)]; exact eq_false (by omega)
    obtain ⟨g2, e2, q1, q2, q3, q4, q5⟩ := m_comes (m := m) (o := o) hc n6 hkn hM hdk
    have e5' : g2 206 k = nI (co k).length := by rw [q1 206 (by omega) (by omega) (by omega) (by omega) (by omega)]; exact e5
    have hdec : nI k + -1 = if k = 0 then -1 else nI (k - 1) := by
      by_cases q : k = 0
      · subst q; rw [if_pos rfl]; decide
      · rw [if_neg q]
        have := nIdec (k - 1)
        rwa [show k - 1 + 1 = k by omega] at this
    have hLY : LYR n k co d g2 := fun r hr1 hr2 => by
      by_cases q : r = k
      · subst q
        exact ⟨q3, q4, fun h0 => q5 h0 _ (cG_x hdk l2 h0)⟩
      · obtain ⟨w1, w2, w3⟩ := h3 r (by omega) hr2
        rw [q2 207 r q, q2 204 r q, q2 200 r q, q2 201 r q, q2 202 r q]
        exact ⟨w1, w2, w3⟩
    have hcnt : cntN (fun r => decide (0 < d r)) (k + 1) = cntN (fun r => decide (0 < d r)) k + if decide (0 < d k) = true then 1 else 0 := rfl
    rw [hcnt] at h2
    by_cases hd0 : 0 < d k
    · rw [decide_eq_true hd0, bW_t] at q3
      rw [decide_eq_true hd0, if_pos rfl] at h2
      simp (disch := first | assumption | omega) only [kb_X11_lays_65, KL, KB, KC, KI, KJ, KZ, bI_0, bI_n, nI00, nI10, ne_eq, Classical.not_not, not_true_eq_false, not_false_eq_true, if_true, if_false, ite_not, ite_self, Bool.false_eq_true, nIne1, kMask, mask, hneg, O_mo, AR, e5, nI_add, hb0, nI_div, hdiv, hmodI, e2, e5', q3, hdec]
      exact ih k (by omega) _ _ _ ⟨rfl, g2, .long 0, mm + 1, by omega, rfl, rfl, fun a a1 a2 a3 a4 a5 => by rw [q1 a a1 a2 a3 a4 a5]; exact h1 a a1 a2 a3 a4 a5, by omega, hLY⟩
    · rw [decide_eq_false hd0, bW_f] at q3
      rw [decide_eq_false hd0, if_neg (by decide)] at h2
      simp (disch := first | assumption | omega) only [kb_X11_lays_65, KL, KB, KC, KI, KJ, KZ, bI_0, bI_n, nI00, nI10, ne_eq, Classical.not_not, not_true_eq_false, not_false_eq_true, if_true, if_false, ite_not, ite_self, Bool.false_eq_true, nIne1, kMask, mask, hneg, O_mo, AR, e5, nI_add, hb0, nI_div, hdiv, hmodI, e2, e5', q3, hdec, Nat.add_zero]
      exact ih k (by omega) _ _ _ ⟨rfl, g2, .long 0, mm, by omega, rfl, rfl, fun a a1 a2 a3 a4 a5 => by rw [q1 a a1 a2 a3 a4 a5]; exact h1 a a1 a2 a3 a4 a5, by omega, hLY⟩
