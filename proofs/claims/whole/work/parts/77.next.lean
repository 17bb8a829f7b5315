-- ===== fights among those that go; numbers =====
theorem wayB_sym : (List.range 6).all (fun a => (List.range 6).all (fun b => (List.range 6).all (fun x => (List.range 6).all (fun y => a == x || wayB a b x y == wayB x y a b)))) = true := by decide +kernel
theorem wayB_comm {a b x y : Nat} (ha : a < 6) (hb : b < 6) (hx : x < 6) (hy : y < 6) (hne : a ≠ x) : wayB a b x y = wayB x y a b := by
  have h := wayB_sym
  rw [List.all_eq_true] at h
  have h1 := h a (List.mem_range.mpr ha)
  rw [List.all_eq_true] at h1
  have h2 := h1 b (List.mem_range.mpr hb)
  rw [List.all_eq_true] at h2
  have h3 := h2 x (List.mem_range.mpr hx)
  rw [List.all_eq_true] at h3
  have h4 := h3 y (List.mem_range.mpr hy)
  rw [Bool.or_eq_true] at h4
  rcases h4 with h4 | h4
  · exact absurd (eq_of_beq h4) hne
  · exact eq_of_beq h4
theorem ffJ_ne {n s : Nat} {F : Nat → Nat → Bool} (hn : n < 1000) : ffJ n s F ≠ -1 ↔ ∃ x y, x < y ∧ y < n ∧ s.testBit x = true ∧ s.testBit y = true ∧ F x y = true := by
  unfold ffJ
  constructor
  · intro h
    rcases firstJ_cases (ffP n s F) n 0 with ⟨a, -⟩ | ⟨t, -, t2, t3, -, -⟩
    · exact absurd a h
    · unfold ffP at t3
      have t4 := of_decide_eq_true t3
      rcases firstJ_cases (fun y => s.testBit t && s.testBit y && F t y) (n - (t + 1)) (t + 1) with ⟨a, -⟩ | ⟨u, u1, u2, u3, -, -⟩
      · exact absurd a t4
      · simp only [Bool.and_eq_true] at u3
        exact ⟨t, u, by omega, by omega, u3.1.1, u3.1.2, u3.2⟩
  · rintro ⟨x, y, h1, h2, h3, h4, h5⟩ h
    rw [firstJ_none (by omega)] at h
    have := h x (by omega)
    unfold ffP at this
    have t4 := of_decide_eq_false this
    apply t4
    intro e
    rcases firstJ_cases (fun y => s.testBit x && s.testBit y && F x y) (n - (x + 1)) (x + 1) with ⟨-, b⟩ | ⟨u, u1, u2, -, u4, -⟩
    · have := b y (by omega) (by omega)
      simp only [h3, h4, h5] at this
      cases this
    · rw [u4] at e
      exact (nIne1 (by omega)).mp e
theorem gS_bit (d : Nat → Nat) (G : Nat) {x : Nat} (hx : x < 12) : (gS d G).testBit x = (decide (d (x / 2) = x % 2 + 1) && G.testBit (x / 2)) := by unfold gS; rw [setN_bit, decide_eq_true hx, Bool.true_and]
/-- some slot's way fights with another's, of those that go -/
theorem any_iff {n G : Nat} {co : Nat → List Goods} {d : Nat → Nat} (n6 : n ≤ 6) (hlen : ∀ r, (co r).length ≤ 2) (hgo : ∀ x, x < 12 → thB co x = true → (cG co x).1 < 6) (hd : DG n co d) (hG : ∀ r, G.testBit r = true → 0 < d r) : (∃ x, x < 12 ∧ (gS d G).testBit x = true ∧ setN (ftB co x) 12 &&& gS d G ≠ 0) ↔ ffJ n G (FD co d) ≠ -1 := by
  have hdn : ∀ r, 0 < d r → r < n := fun r h => by
    apply Nat.lt_of_not_le
    intro q
    rw [hd.2 r q] at h
    omega
  rw [ffJ_ne (by omega)]
  constructor
  · rintro ⟨x, hx, hxg, hne⟩
    obtain ⟨y, hy⟩ := Nat.exists_testBit_of_ne_zero hne
    rw [Nat.testBit_and, setN_bit, Bool.and_eq_true, Bool.and_eq_true] at hy
    obtain ⟨⟨hy12, hft⟩, hyg⟩ := hy
    have hy12 := of_decide_eq_true hy12
    rw [gS_bit d G hx, Bool.and_eq_true] at hxg
    rw [gS_bit d G hy12, Bool.and_eq_true] at hyg
    have hxd := of_decide_eq_true hxg.1
    have hyd := of_decide_eq_true hyg.1
    obtain ⟨t1, t2, t3, t4⟩ := ftB_th hft
    rcases Nat.lt_or_gt_of_ne t3 with h | h
    · refine ⟨y / 2, x / 2, h, hdn _ (by omega), hyg.2, hxg.2, ?_⟩
      unfold FD
      rw [slD_x hxd, slD_x hyd, wayB_comm (by omega) (hgo y hy12 t2) (by omega) (hgo x hx t1) t3]
      exact t4
    · refine ⟨x / 2, y / 2, h, hdn _ (by omega), hxg.2, hyg.2, ?_⟩
      unfold FD
      rw [slD_x hxd, slD_x hyd]
      exact t4
  · rintro ⟨r, q, h1, h2, h3, h4, h5⟩
    have hr0 := hG r h3
    have hq0 := hG q h4
    have hr1 := hd.1 r
    have hq1 := hd.1 q
    have hr2 := hlen r
    have hq2 := hlen q
    have ex : xD d r / 2 = r := by unfold xD; omega
    have ey : xD d q / 2 = q := by unfold xD; omega
    have hx12 : xD d r < 12 := by unfold xD; omega
    have hy12 : xD d q < 12 := by unfold xD; omega
    have hxd : d (xD d r / 2) = xD d r % 2 + 1 := by rw [ex]; unfold xD; omega
    have hyd : d (xD d q / 2) = xD d q % 2 + 1 := by rw [ey]; unfold xD; omega
    refine ⟨xD d r, hx12, ?_, ?_⟩
    · rw [gS_bit d G hx12, decide_eq_true hxd, ex, h3]; rfl
    · intro h0
      have : (setN (ftB co (xD d r)) 12 &&& gS d G).testBit (xD d q) = false := by rw [h0, Nat.zero_testBit]
      rw [Nat.testBit_and, setN_bit, decide_eq_true hy12, Bool.true_and, gS_bit d G hy12, decide_eq_true hyd, ey, h4, Bool.and_true, Bool.and_true, ft_of hd hxd hyd (by rw [ex, ey]; omega), ex, ey] at this
      have h5' : wayB r (cG co (xD d r)).1 q (cG co (xD d q)).1 = true := h5
      rw [h5'] at this
      cases this
theorem c_anyFight {X n G : Nat} {co : Nat → List Goods} {V : Nat → Nat → Bool → Bool} {d : Nat → Nat} {g : GG} {o : Nat} (n6 : n ≤ 6) (hS : STL co V g) (hlen : ∀ r, (co r).length ≤ 2) (hgo : ∀ x, x < 12 → thB co x = true → (cG co x).1 < 6) (hd : DG n co d) (hG : ∀ r, G.testBit r = true → 0 < d r) : f_X0_anyFight [.ref 164, .int (nI (gS d G))] (hp g X o) = some (some (.int (bW (decide (ffJ n G (FD co d) ≠ -1)))), hp g X o) := by
  have hit := any_iff n6 hlen hgo hd hG
  have hs12 : gS d G < 4096 := setN_lt12 _
  simp (disch := first | assumption | omega) only [f_X0_anyFight, kb_X0_anyFight_0, KL, KB, KC, KI, KJ, KZ, bI_0, bI_n, nI00, nI10, ne_eq, Classical.not_not, not_true_eq_false, not_false_eq_true, if_true, if_false, ite_not, ite_self, Bool.false_eq_true, nIne1]
  unfold kl_X0_anyFight_2
  refine kFor 12 (by unfold FU; omega) (fun i ls h' => ls = [.ref 164, .int (nI (gS d G)), .int (nI i)] ∧ h' = hp g X o ∧ ∀ x, x < i → (gS d G).testBit x = true → setN (ftB co x) 12 &&& gS d G = 0) (fun r => r = some (some (.int (bW (decide (ffJ n G (FD co d) ≠ -1)))), hp g X o)) ?_ ?_ 0 _ _ (by omega) ⟨rfl, rfl, fun x hx => by omega⟩
  · rintro s0 ls h' ⟨rfl, rfl, h1⟩
    have hin : (12 ≤ 12) = True := eq_true (by omega)
    have hno : ¬ ffJ n G (FD co d) ≠ -1 := fun q => by
      obtain ⟨x, x1, x2, x3⟩ := hit.mpr q
      exact x3 (h1 x x1 x2)
    simp (disch := first | assumption | omega) only [kb_X0_anyFight_41, KL, KB, KC, KI, KJ, KZ, bI_0, bI_n, nI00, nI10, ne_eq, Classical.not_not, not_true_eq_false, not_false_eq_true, if_true, if_false, ite_not, ite_self, Bool.false_eq_true, nIne1, kMask, mask, nIle, hin]
    rw [decide_eq_false hno]; rfl
  · rintro s0 i hi ih ls h' ⟨rfl, rfl, h1⟩
    have hin : (12 ≤ i) = False := eq_false (by omega)
    by_cases hz0 : gS d G >>> i = 0
    · have hz : (nI (gS d G >>> i) = 0) = True := by rw [hz0]; exact eq_true rfl
      have hno : ¬ ffJ n G (FD co d) ≠ -1 := fun q => by
        obtain ⟨x, x1, x2, x3⟩ := hit.mpr q
        by_cases hxi : x < i
        · exact x3 (h1 x hxi x2)
        · rw [shr_zero hz0 x (by omega)] at x2; cases x2
      simp (disch := first | assumption | omega) only [kb_X0_anyFight_41, KL, KB, KC, KI, KJ, KZ, bI_0, bI_n, nI00, nI10, ne_eq, Classical.not_not, not_true_eq_false, not_false_eq_true, if_true, if_false, ite_not, ite_self, Bool.false_eq_true, nIne1, kMask, mask, nIle, hin, nI_shr, hz]
      rw [decide_eq_false hno]; rfl
    · have hlt : gS d G >>> i < 2147483648 := by
        have : gS d G >>> i ≤ gS d G := by rw [Nat.shiftRight_eq_div_pow]; exact Nat.div_le_self _ _
        omega
      have hz : (nI (gS d G >>> i) = 0) = False := by rw [nIk0 hlt]; exact eq_false hz0
      have hb1 : (nI ((gS d G >>> i) &&& 1) = 0) = ((gS d G).testBit i = false) := by rw [bit0, Nat.testBit_shiftRight, Nat.add_zero]
      have hal : setN (ftB co i) 12 &&& gS d G < 4096 := Nat.lt_of_le_of_lt Nat.and_le_right hs12
      have haz : (nI (setN (ftB co i) 12 &&& gS d G) = 0) = (setN (ftB co i) 12 &&& gS d G = 0) := nIk0 (by omega)
      have ef := (hS i hi).1
      cases hb : (gS d G).testBit i with
      | false =>
        have hx' : ((gS d G).testBit i = false) = True := eq_true hb
        simp (disch := first | assumption | omega) only [kb_X0_anyFight_35, KL, KB, KC, KI, KJ, KZ, bI_0, bI_n, nI00, nI10, ne_eq, Classical.not_not, not_true_eq_false, not_false_eq_true, if_true, if_false, ite_not, ite_self, Bool.false_eq_true, nIne1, kMask, mask, nIle, hin, nI_shr, hz, nI_and, hb1, hx', nI_add]
        refine ih _ _ ⟨rfl, rfl, fun x hx hxb => ?_⟩
        by_cases q : x = i
        · subst q; rw [hb] at hxb; cases hxb
        · exact h1 x (by omega) hxb
      | true =>
        have hx' : ((gS d G).testBit i = false) = False := eq_false (by rw [hb]; decide)
        by_cases hq : setN (ftB co i) 12 &&& gS d G = 0
        · have hz2 : (setN (ftB co i) 12 &&& gS d G = 0) = True := eq_true hq
          simp (disch := first | assumption | omega) only [kb_X0_anyFight_35, KL, KB, KC, KI, KJ, KZ, bI_0, bI_n, nI00, nI10, ne_eq, Classical.not_not, not_true_eq_false, not_false_eq_true, if_true, if_false, ite_not, ite_self, Bool.false_eq_true, nIne1, kMask, mask, nIle, hin, nI_shr, hz, nI_and, hb1, hx', O_co, AR, ef, haz, hz2, nI_add]
          refine ih _ _ ⟨rfl, rfl, fun x hx hxb => ?_⟩
          by_cases q : x = i
          · subst q; exact hq
          · exact h1 x (by omega) hxb
        · have hz2 : (setN (ftB co i) 12 &&& gS d G = 0) = False := eq_false hq
          have hyes : ffJ n G (FD co d) ≠ -1 := hit.mp ⟨i, hi, hb, hq⟩
          simp (disch := first | assumption | omega) only [kb_X0_anyFight_35, KL, KB, KC, KI, KJ, KZ, bI_0, bI_n, nI00, nI10, ne_eq, Classical.not_not, not_true_eq_false, not_false_eq_true, if_true, if_false, ite_not, ite_self, Bool.false_eq_true, nIne1, kMask, mask, nIle, hin, nI_shr, hz, nI_and, hb1, hx', O_co, AR, ef, haz, hz2]
          rw [decide_eq_true hyes]; rfl
-- numbers
def hv (co : Nat → List Goods) (d : Nat → Nat) : Nat → Nat
  | 0 => 0
  | r + 1 => hv co d r * ((co r).length + 1) + d r
theorem hv_congr {co : Nat → List Goods} {d d' : Nat → Nat} : ∀ n, (∀ q, q < n → d q = d' q) → hv co d n = hv co d' n := by
  intro n
  induction n with
  | zero => intro _; rfl
  | succ n ih =>
    intro h
    show hv co d n * _ + d n = hv co d' n * _ + d' n
    rw [ih (fun q hq => h q (by omega)), h n (by omega)]
theorem hv_max {co : Nat → List Goods} {d : Nat → Nat} : ∀ n, (∀ q, q < n → d q = (co q).length) → hv co d n + 1 = nuN co n := by
  intro n
  induction n with
  | zero => intro _; rfl
  | succ n ih =>
    intro h
    show hv co d n * ((co n).length + 1) + d n + 1 = nuN co n * ((co n).length + 1)
    rw [← ih (fun q hq => h q (by omega)), h n (by omega), Nat.add_mul, Nat.one_mul]
    omega
theorem hv_succ {co : Nat → List Goods} {d d' : Nat → Nat} {r : Nat} (h1 : ∀ q, q < r → d' q = d q) (h2 : d' r = d r + 1) (h3 : ∀ q, r < q → d' q = 0) : ∀ n, r < n → (∀ q, r < q → q < n → d q = (co q).length) → hv co d' n = hv co d n + 1 := by
  intro n
  induction n with
  | zero => intro h; omega
  | succ n ih =>
    intro hn hm
    show hv co d' n * ((co n).length + 1) + d' n = hv co d n * ((co n).length + 1) + d n + 1
    by_cases q : r = n
    · subst q
      rw [hv_congr r h1, h2]
      omega
    · rw [ih (by omega) (fun q a b => hm q a (by omega)), h3 n (by omega), hm n (by omega) (by omega), Nat.add_mul, Nat.one_mul]
      omega
theorem hv_inj {co : Nat → List Goods} {d d' : Nat → Nat} : ∀ n, (∀ q, q < n → d q ≤ (co q).length) → (∀ q, q < n → d' q ≤ (co q).length) → hv co d n = hv co d' n → ∀ q, q < n → d q = d' q := by
  intro n
  induction n with
  | zero => intro _ _ _ q hq; omega
  | succ n ih =>
    intro h1 h2 h q hq
    have h' : hv co d n * ((co n).length + 1) + d n = hv co d' n * ((co n).length + 1) + d' n := h
    have l1 := h1 n (by omega)
    have l2 := h2 n (by omega)
    have e1 : d n = d' n := by
      have m1 : (hv co d n * ((co n).length + 1) + d n) % ((co n).length + 1) = d n := by rw [Nat.mul_comm, Nat.mul_add_mod, Nat.mod_eq_of_lt (by omega)]
      have m2 : (hv co d' n * ((co n).length + 1) + d' n) % ((co n).length + 1) = d' n := by rw [Nat.mul_comm, Nat.mul_add_mod, Nat.mod_eq_of_lt (by omega)]
      rw [← m1, h', m2]
    have e2 : hv co d n = hv co d' n := by
      rw [e1] at h'
      exact Nat.eq_of_mul_eq_mul_right (by omega) (Nat.add_right_cancel h')
    by_cases hqn : q = n
    · rw [hqn]; exact e1
    · exact ih (fun q hq => h1 q (by omega)) (fun q hq => h2 q (by omega)) e2 q (by omega)
theorem DG.eq {n : Nat} {co : Nat → List Goods} {d d' : Nat → Nat} (h1 : DG n co d) (h2 : DG n co d') (h : hv co d n = hv co d' n) : d = d' := by
  funext q
  by_cases hq : q < n
  · exact hv_inj n (fun q _ => h1.1 q) (fun q _ => h2.1 q) h q hq
  · rw [h1.2 q (by omega), h2.2 q (by omega)]
/-- the class's counter -/
def CNT (d : Nat → Nat) (g : GG) : Prop := ∀ r, r < 6 → g 170 r = nI (d r)
theorem c_beginNumbers (g : GG) (m o : Nat) : ∃ g', f_X0_beginNumbers [.ref 164] (hp g m o) = some (none, hp g' m o) ∧ (∀ a, a ≠ 170 → g' a = g a) ∧ CNT (fun _ => 0) g' := by
  simp (disch := first | assumption | omega) only [f_X0_beginNumbers, kb_X0_beginNumbers_0, KL, KB, KC, KI, KJ, KZ, bI_0, bI_n, nI00, nI10, ne_eq, Classical.not_not, not_true_eq_false, not_false_eq_true, if_true, if_false, ite_not, ite_self, Bool.false_eq_true, nIne1]
  unfold kl_X0_beginNumbers_2
  refine kFor 6 (by unfold FU; omega) (fun i ls h' => ∃ g' : GG, ls = [.ref 164, .int (nI i)] ∧ h' = hp g' m o ∧ (∀ a, a ≠ 170 → g' a = g a) ∧ ∀ r, r < i → g' 170 r = nI 0) (fun r => ∃ g', r = some (none, hp g' m o) ∧ (∀ a, a ≠ 170 → g' a = g a) ∧ CNT (fun _ => 0) g') ?_ ?_ 0 _ _ (by omega) ⟨g, rfl, rfl, fun _ _ => rfl, fun r hr => by omega⟩
  · rintro s0 ls h' ⟨g', rfl, rfl, h1, h2⟩
    have hin : (6 ≤ 6) = True := eq_true (by omega)
    simp (disch := first | assumption | omega) only [KL, KB, KC, KI, KJ, KZ, bI_0, bI_n, nI00, nI10, ne_eq, Classical.not_not, not_true_eq_false, not_false_eq_true, if_true, if_false, ite_not, ite_self, Bool.false_eq_true, nIne1, kMask, mask, nIle, hin]
    exact ⟨g', rfl, h1, h2⟩
  · rintro s0 i hi ih ls h' ⟨g', rfl, rfl, h1, h2⟩
    have hin : (6 ≤ i) = False := eq_false (by omega)
    simp (disch := first | assumption | omega) only [KL, KB, KC, KI, KJ, KZ, bI_0, bI_n, nI00, nI10, ne_eq, Classical.not_not, not_true_eq_false, not_false_eq_true, if_true, if_false, ite_not, ite_self, Bool.false_eq_true, nIne1, kMask, mask, nIle, hin, O_co, AR, nI_add]
    refine ih _ _ ⟨_, rfl, rfl, fun a ha => by rw [uN ha]; exact h1 a ha, fun r hr => ?_⟩
    by_cases q : r = i
    · subst q; exact uS
    · rw [uO (Or.inr q)]; exact h2 r (by omega)
theorem slD_two (d : Nat → Nat) (r : Nat) : setN (fun x => decide (d (x / 2) = x % 2 + 1)) (2 * (r + 1)) = setN (fun x => decide (d (x / 2) = x % 2 + 1)) (2 * r) ||| (if d r = 1 then 1 <<< (2 * r) else if d r = 2 then 1 <<< (2 * r + 1) else 0) := by
  show (setN (fun x => decide (d (x / 2) = x % 2 + 1)) (2 * r) ||| (if decide (d ((2 * r) / 2) = (2 * r) % 2 + 1) = true then 1 <<< (2 * r) else 0)) ||| (if decide (d ((2 * r + 1) / 2) = (2 * r + 1) % 2 + 1) = true then 1 <<< (2 * r + 1) else 0) = _
  rw [show (2 * r) / 2 = r by omega, show (2 * r) % 2 = 0 by omega, show (2 * r + 1) / 2 = r by omega, show (2 * r + 1) % 2 = 1 by omega]
  by_cases h1 : d r = 1
  · rw [if_pos h1, decide_eq_true (by omega), if_pos rfl, decide_eq_false (by omega), if_neg (by decide), Nat.or_zero]
  · by_cases h2 : d r = 2
    · rw [if_neg h1, if_pos h2, decide_eq_false (by omega), if_neg (by decide), Nat.or_zero, decide_eq_true (by omega), if_pos rfl]
    · rw [if_neg h1, if_neg h2, decide_eq_false (by omega), if_neg (by decide), Nat.or_zero, decide_eq_false (by omega), if_neg (by decide), Nat.or_zero]
theorem c_next58 {X n : Nat} {co : Nat → List Goods} {d : Nat → Nat} {g : GG} {o : Nat} (hX : isX X) (n6 : n ≤ 6) (en : g X 0 = nI n) (hlen : ∀ r, (co r).length ≤ 2) (hd : DG n co d) (hc : CNT d g) (v : Value) : kb_X0_nextNumber_58 [.ref 164, v] [] (hp g X o) = some (some (.int (nI (slD d))), hp g X o) := by
  simp (disch := first | assumption | omega) only [kb_X0_nextNumber_58, KL, KB, KC, KI, KJ, KZ, bI_0, bI_n, nI00, nI10, ne_eq, Classical.not_not, not_true_eq_false, not_false_eq_true, if_true, if_false, ite_not, ite_self, Bool.false_eq_true, nIne1]
  unfold kl_X0_nextNumber_62
  refine kFor n (by unfold FU; omega) (fun i ls h' => ls = [.ref 164, .int (nI (setN (fun x => decide (d (x / 2) = x % 2 + 1)) (2 * i))), .int (nI i)] ∧ h' = hp g X o) (fun r => r = some (some (.int (nI (slD d))), hp g X o)) ?_ ?_ 0 _ _ (by omega) ⟨rfl, rfl⟩
  · rintro s0 ls h' ⟨rfl, rfl⟩
    have hin : (n ≤ n) = True := eq_true (by omega)
    have e : setN (fun x => decide (d (x / 2) = x % 2 + 1)) (2 * n) = slD d := setN_ext (by omega) (fun y h1 h2 => by
      rw [hd.2 (y / 2) (by omega)]
      exact decide_eq_false (by omega))
    simp (disch := first | assumption | omega) only [KL, KB, KC, KI, KJ, KZ, bI_0, bI_n, nI00, nI10, ne_eq, Classical.not_not, not_true_eq_false, not_false_eq_true, if_true, if_false, ite_not, ite_self, Bool.false_eq_true, nIne1, kMask, mask, O_co, XO, en, nIle, hin]
    rw [e]
  · rintro s0 i hi ih ls h' ⟨rfl, rfl⟩
    have hin : (n ≤ i) = False := eq_false (by omega)
    have ed := hc i (by omega)
    have d1 := hd.1 i
    have d2 := hlen i
    have h2 := slD_two d i
    have hd3 : d i = 0 ∨ d i = 1 ∨ d i = 2 := by omega
    rcases hd3 with h | h | h
    · rw [h] at ed
      have hz : (nI 0 ≤ 0) = True := eq_true (by decide)
      rw [if_neg (by omega), if_neg (by omega), Nat.or_zero] at h2
      simp (disch := first | assumption | omega) only [kb_X0_nextNumber_99, KL, KB, KC, KI, KJ, KZ, bI_0, bI_n, nI00, nI10, ne_eq, Classical.not_not, not_true_eq_false, not_false_eq_true, if_true, if_false, ite_not, ite_self, Bool.false_eq_true, nIne1, kMask, mask, O_co, XO, AR, en, nIle, hin, ed, hz, nI_add]
      exact ih _ _ ⟨by rw [h2], rfl⟩
    · rw [h] at ed
      have hz : (nI 1 ≤ 0) = False := eq_false (by decide)
      rw [if_pos h] at h2
      simp (disch := first | assumption | omega) only [kb_X0_nextNumber_99, KL, KB, KC, KI, KJ, KZ, bI_0, bI_n, nI00, nI10, ne_eq, Classical.not_not, not_true_eq_false, not_false_eq_true, if_true, if_false, ite_not, ite_self, Bool.false_eq_true, nIne1, kMask, mask, O_co, XO, AR, en, nIle, hin, ed, hz, nI_mul, nI_add, nI_sub, nI_shl, nI_or]
      rw [show 2 * i + 1 - 1 = 2 * i by omega]
      exact ih _ _ ⟨by rw [h2], rfl⟩
    · rw [h] at ed
      have hz : (nI 2 ≤ 0) = False := eq_false (by decide)
      rw [if_neg (by omega), if_pos h] at h2
      simp (disch := first | assumption | omega) only [kb_X0_nextNumber_99, KL, KB, KC, KI, KJ, KZ, bI_0, bI_n, nI00, nI10, ne_eq, Classical.not_not, not_true_eq_false, not_false_eq_true, if_true, if_false, ite_not, ite_self, Bool.false_eq_true, nIne1, kMask, mask, O_co, XO, AR, en, nIle, hin, ed, hz, nI_mul, nI_add, nI_sub, nI_shl, nI_or]
      rw [show 2 * i + 2 - 1 = 2 * i + 1 by omega]
      exact ih _ _ ⟨by rw [h2], rfl⟩
theorem c_nextNumber {X n : Nat} {co : Nat → List Goods} {d : Nat → Nat} {g : GG} {o : Nat} (hX : isX X) (hX1 : X + 9 < 161) (n3 : 3 ≤ n) (n6 : n ≤ 6) (hC : CO X n co g) (hlen : ∀ r, (co r).length ≤ 2) (hd : DG n co d) (hc : CNT d g) (hlt : hv co d n + 1 < nuN co n) : ∃ (g' : GG) (d' : Nat → Nat), f_X0_nextNumber [.ref 164] (hp g X o) = some (some (.int (nI (slD d'))), hp g' X o) ∧ (∀ a, a ≠ 170 → g' a = g a) ∧ DG n co d' ∧ CNT d' g' ∧ hv co d' n = hv co d n + 1 := by
  have en := hC.1
  simp (disch := first | assumption | omega) only [f_X0_nextNumber, kb_X0_nextNumber_0, KL, KB, KC, KI, KJ, KZ, bI_0, bI_n, nI00, nI10, ne_eq, Classical.not_not, not_true_eq_false, not_false_eq_true, if_true, if_false, ite_not, ite_self, Bool.false_eq_true, nIne1, O_co, XO, en, nI_sub]
  unfold kl_X0_nextNumber_10
  refine kFix_rule (fun k ls st h' => st = [] ∧ ∃ g' : GG, k ≤ n ∧ ls = [.ref 164, .int (if k = 0 then -1 else nI (k - 1))] ∧ h' = hp g' X o ∧ (∀ a, a ≠ 170 → g' a = g a) ∧ (∀ r, r < 6 → g' 170 r = if r < k then nI (d r) else nI 0) ∧ ∀ q, k ≤ q → q < n → d q = (co q).length) (fun r => ∃ (g' : GG) (d' : Nat → Nat), r = some (some (.int (nI (slD d'))), hp g' X o) ∧ (∀ a, a ≠ 170 → g' a = g a) ∧ DG n co d' ∧ CNT d' g' ∧ hv co d' n = hv co d n + 1) ?_ FU n (by show n < 10000; omega) _ _ _ ⟨rfl, g, by omega, by rw [if_neg (by omega)], rfl, fun _ _ => rfl, fun r hr => ?_, fun q h1 h2 => by omega⟩
  · rintro s0 k ih ls st h' ⟨rfl, g', hk, rfl, rfl, h1, h2, h3⟩
    cases k with
    | zero =>
      have := hv_max n (fun q hq => h3 q (by omega) hq)
      omega
    | succ k =>
      rw [if_neg (by omega), Nat.add_sub_cancel]
      have k6 : k < 6 := by omega
      have en' : g' X 0 = nI n := by rw [h1 X (by omega)]; exact en
      have e4 : g' (X + 4) k = nI (co k).length := by rw [h1 _ (by omega)]; exact (hC.2 k k6).2.2.2.1
      have ed : g' 170 k = nI (d k) := by rw [h2 k k6, if_pos (by omega)]
      have hneg : (nI k < 0) = False := nIlt0 (by omega)
      have d1 := hd.1 k
      have d2 := hlen k
      by_cases hfull : (co k).length ≤ d k
      · have hle : ((co k).length ≤ d k) = True := eq_true hfull
        have hdec : nI k + -1 = if k = 0 then -1 else nI (k - 1) := by
          by_cases q : k = 0
          · subst q; rw [if_pos rfl]; decide
          · rw [if_neg q]
            have := nIdec (k - 1)
            rwa [show k - 1 + 1 = k by omega] at this
        simp (disch := first | assumption | omega) only [KL, KB, KC, KI, KJ, KZ, bI_0, bI_n, nI00, nI10, ne_eq, Classical.not_not, not_true_eq_false, not_false_eq_true, if_true, if_false, ite_not, ite_self, Bool.false_eq_true, nIne1, kMask, mask, O_co, XO, AR, hneg, ed, e4, nIle, hle, hdec]
        refine ih k (by omega) _ _ _ ⟨rfl, _, by omega, rfl, rfl, fun a ha => by rw [uN ha]; exact h1 a ha, fun r hr => ?_, fun q a b => ?_⟩
        · by_cases q : r = k
          · subst q; rw [uS, if_neg (by omega)]
          · rw [uO (Or.inr q), h2 r hr]
            by_cases q2 : r < k
            · rw [if_pos (by omega), if_pos q2]
            · rw [if_neg (by omega), if_neg q2]
        · by_cases q2 : q = k
          · subst q2; omega
          · exact h3 q (by omega) b
      · have hle : ((co k).length ≤ d k) = False := eq_false hfull
        have hd' : DG n co (fun q => if q < k then d q else if q = k then d k + 1 else 0) := ⟨fun q => by
          simp only []
          split
          · exact hd.1 q
          · split
            · rename_i h; rw [h]; omega
            · omega, fun q hq => by
          simp only []
          rw [if_neg (by omega), if_neg (by omega)]⟩
        have hc' : CNT (fun q => if q < k then d q else if q = k then d k + 1 else 0) (upd2 g' 170 k (nI (d k + 1))) := fun r hr => by
          simp only []
          by_cases q : r = k
          · subst q; rw [uS, if_neg (by omega), if_pos rfl]
          · rw [uO (Or.inr q), h2 r hr]
            by_cases q2 : r < k
            · rw [if_pos (by omega), if_pos q2]
            · rw [if_neg (by omega), if_neg q2, if_neg q]
        have e58 := c_next58 (o := o) hX n6 (g := upd2 g' 170 k (nI (d k + 1))) (by rw [uN (by omega)]; exact en') hlen hd' hc' (.int (nI k))
        simp (disch := first | assumption | omega) only [KL, KB, KC, KI, KJ, KZ, bI_0, bI_n, nI00, nI10, ne_eq, Classical.not_not, not_true_eq_false, not_false_eq_true, if_true, if_false, ite_not, ite_self, Bool.false_eq_true, nIne1, kMask, mask, O_co, XO, AR, hneg, ed, e4, nIle, hle, nI_add, e58]
        refine ⟨_, _, rfl, fun a ha => by rw [uN ha]; exact h1 a ha, hd', hc', ?_⟩
        exact hv_succ (d := d) (d' := fun q => if q < k then d q else if q = k then d k + 1 else 0) (r := k) (fun q hq => if_pos hq) ((if_neg (Nat.lt_irrefl k)).trans (if_pos rfl)) (fun q hq => (if_neg (by omega)).trans (if_neg (by omega))) n (by omega) (fun q a b => h3 q (by omega) b)
  · by_cases q : r < n
    · rw [if_pos q]; exact hc r hr
    · rw [if_neg q, hc r hr, hd.2 r (by omega)]
