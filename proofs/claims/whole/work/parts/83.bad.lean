-- ===== is anything ever stuck or both: the class's short way =====
/-- a state in an order is stuck or both -/
def bdP (n : Nat) (co : Nat → List Goods) (V : Nat → Nat → Bool → Bool) (nu k : Nat) : Prop := goS n (sD n (dgN n co nu)) (WD n k co V (dgN n co nu)) = 0 ∨ ffJ n (goS n (sD n (dgN n co nu)) (WD n k co V (dgN n co nu))) (FD co (dgN n co nu)) ≠ -1
theorem svStep_tot (n : Nat) (co : Nat → List Goods) (V : Nat → Nat → Bool → Bool) (nu k : Nat) (A : SVA) : (svStep n co V nu k A).1 + (svStep n co V nu k A).2.1 = 0 ↔ A.1 + A.2.1 = 0 ∧ ¬ bdP n co V nu k := by
  unfold svStep bdP
  split
  · rename_i h
    constructor
    · intro q
      have q' : A.1 + 1 + A.2.1 = 0 := q
      omega
    · rintro ⟨-, q⟩
      exact absurd (Or.inl h) q
  · rename_i h
    split
    · rename_i h2
      constructor
      · intro q
        have q' : A.1 + (A.2.1 + 1) = 0 := q
        omega
      · rintro ⟨-, q⟩
        exact absurd (Or.inr h2) q
    · rename_i h2
      exact ⟨fun q => ⟨q, fun e => by rcases e with e | e; exact h e; exact h2 e⟩, fun q => q.1⟩
theorem svOrd_tot (n : Nat) (co : Nat → List Goods) (V : Nat → Nat → Bool → Bool) (nu : Nat) (A : SVA) : ∀ k, (svOrd n co V nu k A).1 + (svOrd n co V nu k A).2.1 = 0 ↔ A.1 + A.2.1 = 0 ∧ ∀ j, j < k → ¬ bdP n co V nu j := by
  intro k
  induction k with
  | zero => exact ⟨fun h => ⟨h, fun j hj => by omega⟩, fun h => h.1⟩
  | succ k ih =>
    show (svStep n co V nu k (svOrd n co V nu k A)).1 + (svStep n co V nu k (svOrd n co V nu k A)).2.1 = 0 ↔ _
    rw [svStep_tot, ih]
    constructor
    · rintro ⟨⟨a, b⟩, c⟩
      refine ⟨a, fun j hj => ?_⟩
      by_cases q : j = k
      · subst q; exact c
      · exact b j (by omega)
    · rintro ⟨a, b⟩
      exact ⟨⟨a, fun j hj => b j (by omega)⟩, b k (by omega)⟩
theorem svNum_tot (n : Nat) (co : Nat → List Goods) (V : Nat → Nat → Bool → Bool) : ∀ i, (svNum n co V i).1 + (svNum n co V i).2.1 = 0 ↔ ∀ nu k, 1 ≤ nu → nu ≤ i → k < ordMany n → ¬ bdP n co V nu k := by
  intro i
  induction i with
  | zero => exact ⟨fun _ nu k h1 h2 => by omega, fun _ => rfl⟩
  | succ i ih =>
    show (svOrd n co V (i + 1) (ordMany n) (svNum n co V i)).1 + (svOrd n co V (i + 1) (ordMany n) (svNum n co V i)).2.1 = 0 ↔ _
    rw [svOrd_tot, ih]
    constructor
    · rintro ⟨a, b⟩ nu k h1 h2 h3
      by_cases q : nu = i + 1
      · subst q; exact b k h3
      · exact a nu k h1 (by omega) h3
    · intro h
      exact ⟨fun nu k h1 h2 h3 => h nu k h1 (by omega) h3, fun j hj => h (i + 1) j (by omega) (Nat.le_refl _) hj⟩
theorem ord_two : (List.range 4).all (fun a => (List.range (a + 3)).all (fun r => (List.range (a + 3)).all (fun q => r == q || (List.range (ordMany (a + 3))).any (fun k => decide (ordRank (a + 3) k q < ordRank (a + 3) k r))))) = true := by decide +kernel
theorem ord_ex {n r q : Nat} (n3 : 3 ≤ n) (n6 : n ≤ 6) (hr : r < n) (hq : q < n) (hne : r ≠ q) : ∃ k, k < ordMany n ∧ ordRank n k q < ordRank n k r := by
  have h := ord_two
  rw [List.all_eq_true] at h
  have h1 := h (n - 3) (List.mem_range.mpr (by omega))
  rw [show n - 3 + 3 = n by omega, List.all_eq_true] at h1
  have h2 := h1 r (List.mem_range.mpr hr)
  rw [List.all_eq_true] at h2
  have h3 := h2 q (List.mem_range.mpr hq)
  rw [Bool.or_eq_true] at h3
  rcases h3 with h3 | h3
  · exact absurd (eq_of_beq h3) hne
  · rw [List.any_eq_true] at h3
    obtain ⟨k, k1, k2⟩ := h3
    exact ⟨k, List.mem_range.mp k1, of_decide_eq_true k2⟩
theorem ord_inj {n k r q : Nat} (n3 : 3 ≤ n) (n6 : n ≤ 6) (hk : k < ordMany n) (hr : r < n) (hq : q < n) (h : ordRank n k r = ordRank n k q) : r = q := by
  have a := (ord_p n3 n6 hk hr).2.2.2
  have b := (ord_p n3 n6 hk hq).2.2.2
  rw [← a, h, b]
/-- a couple that goes and can't: x behind y -/
def prP (co : Nat → List Goods) (V : Nat → Nat → Bool → Bool) (x y : Nat) : Prop := ftB co x y = true ∧ V x y true = false ∧ V y x false = false
theorem ftB_comm {n : Nat} {co : Nat → List Goods} (n6 : n ≤ 6) (hgo : ∀ x, x < 12 → thB co x = true → (cG co x).1 < 6) {x y : Nat} (hx : x < 12) (hy : y < 12) : ftB co x y = ftB co y x := by
  cases h1 : thB co x with
  | false => unfold ftB; rw [h1, Bool.false_and, Bool.false_and, Bool.false_and, Bool.and_false, Bool.false_and, Bool.false_and]
  | true =>
    cases h2 : thB co y with
    | false => unfold ftB; rw [h2, Bool.false_and, Bool.false_and, Bool.false_and, Bool.and_false, Bool.false_and, Bool.false_and]
    | true =>
      by_cases hne : y / 2 = x / 2
      · unfold ftB
        rw [decide_eq_false (fun e => e hne), decide_eq_false (fun e => e hne.symm)]
        simp
      · unfold ftB
        rw [h1, h2, decide_eq_true hne, decide_eq_true (show x / 2 ≠ y / 2 from fun e => hne e.symm), wayB_comm (by omega) (hgo x hx h1) (by omega) (hgo y hy h2) (fun e => hne e.symm)]
theorem thB_dg {n : Nat} {co : Nat → List Goods} {d : Nat → Nat} (hd : DG n co d) (hlen : ∀ r, (co r).length ≤ 2) {r : Nat} (h0 : 0 < d r) : thB co (xD d r) = true := by
  unfold thB
  have h1 := hd.1 r
  have h2 := hlen r
  exact decide_eq_true (by rw [show xD d r / 2 = r by unfold xD; omega]; unfold xD; omega)
theorem bad_iff {n : Nat} {co : Nat → List Goods} {V : Nat → Nat → Bool → Bool} (n3 : 3 ≤ n) (n6 : n ≤ 6) (hlen : ∀ r, (co r).length ≤ 2) (hco : ∀ r, n ≤ r → co r = []) (hgo : ∀ x, x < 12 → thB co x = true → (cG co x).1 < 6) : (∃ nu k, 1 ≤ nu ∧ nu < nuN co n ∧ k < ordMany n ∧ bdP n co V nu k) ↔ (∃ x y, x < 12 ∧ y < 12 ∧ prP co V x y) ∨ ∃ nu k, 1 ≤ nu ∧ nu < nuN co n ∧ k < ordMany n ∧ goS n (sD n (dgN n co nu)) (WD n k co V (dgN n co nu)) = 0 := by
  constructor
  · rintro ⟨nu, k, h1, h2, h3, h4⟩
    rcases h4 with h4 | h4
    · exact Or.inr ⟨nu, k, h1, h2, h3, h4⟩
    · left
      obtain ⟨hd, -⟩ := dgN_ok h2
      generalize dgN n co nu = d at *
      rw [ffJ_ne (by omega)] at h4
      obtain ⟨r, q, a1, a2, a3, a4, a5⟩ := h4
      have hr : r < n := by omega
      have hm1 : mayP n (sD n d) (WD n k co V d) r = true := by
        unfold goS at a3
        rw [setN_bit, decide_eq_true hr, Bool.true_and] at a3
        exact a3
      have hm2 : mayP n (sD n d) (WD n k co V d) q = true := by
        unfold goS at a4
        rw [setN_bit, decide_eq_true a2, Bool.true_and] at a4
        exact a4
      rw [mayP_iff (by omega)] at hm1 hm2
      have b1 := hm1.1
      have b2 := hm2.1
      have w1 := hm1.2 q a2 (by omega) b2
      have w2 := hm2.2 r hr (by omega) b1
      rw [sD_bit d hr] at b1
      rw [sD_bit d a2] at b2
      have r0 := of_decide_eq_true b1
      have q0 := of_decide_eq_true b2
      have t1 := thB_dg hd hlen r0
      have t2 := thB_dg hd hlen q0
      have l1 := hd.1 r
      have l2 := hd.1 q
      have l3 := hlen r
      have l4 := hlen q
      have ex : xD d r / 2 = r := by unfold xD; omega
      have ey : xD d q / 2 = q := by unfold xD; omega
      have x12 : xD d r < 12 := by unfold xD; omega
      have y12 : xD d q < 12 := by unfold xD; omega
      have hF : wayB r (cG co (xD d r)).1 q (cG co (xD d q)).1 = true := a5
      have hft : ftB co (xD d r) (xD d q) = true := by
        unfold ftB
        rw [t1, t2, ex, ey, decide_eq_true (by omega), hF]
        rfl
      have hft2 : ftB co (xD d q) (xD d r) = true := by rw [← ftB_comm n6 hgo x12 y12]; exact hft
      have hF2 : wayB q (cG co (xD d q)).1 r (cG co (xD d r)).1 = true := by
        have := (ftB_th hft2).2.2.2
        rwa [ex, ey] at this
      unfold WD at w1 w2
      rw [hF, Bool.true_and] at w1
      rw [hF2, Bool.true_and] at w2
      rcases Nat.lt_trichotomy (ordRank n k q) (ordRank n k r) with h | h | h
      · rw [decide_eq_true h] at w1
        rw [decide_eq_false (by omega)] at w2
        exact ⟨xD d r, xD d q, x12, y12, hft, w1, w2⟩
      · exact absurd (ord_inj n3 n6 h3 a2 hr h) (by omega)
      · rw [decide_eq_false (by omega)] at w1
        rw [decide_eq_true h] at w2
        exact ⟨xD d q, xD d r, y12, x12, hft2, w2, w1⟩
  · rintro (⟨x, y, hx, hy, h1, h2, h3⟩ | ⟨nu, k, h1, h2, h3, h4⟩)
    · obtain ⟨t1, t2, t3, t4⟩ := ftB_th h1
      have tx := of_decide_eq_true t1
      have ty := of_decide_eq_true t2
      have hxn : x / 2 < n := by
        apply Nat.lt_of_not_le
        intro q
        rw [hco _ q] at tx
        exact absurd tx (Nat.not_lt_zero _)
      have hyn : y / 2 < n := by
        apply Nat.lt_of_not_le
        intro q
        rw [hco _ q] at ty
        exact absurd ty (Nat.not_lt_zero _)
      -- just these two are there
      have hd : DG n co (fun r => if r = x / 2 then x % 2 + 1 else if r = y / 2 then y % 2 + 1 else 0) := ⟨fun r => by
        simp only []
        split
        · rename_i e; rw [e]; exact tx
        · split
          · rename_i e; rw [e]; exact ty
          · exact Nat.zero_le _, fun r hr => by
        simp only []
        rw [if_neg (by omega), if_neg (by omega)]⟩
      have dx : (fun r => if r = x / 2 then x % 2 + 1 else if r = y / 2 then y % 2 + 1 else 0) (x / 2) = x % 2 + 1 := if_pos rfl
      have dy : (fun r => if r = x / 2 then x % 2 + 1 else if r = y / 2 then y % 2 + 1 else 0) (y / 2) = y % 2 + 1 := (if_neg t3).trans (if_pos rfl)
      have dz : ∀ r, r ≠ x / 2 → r ≠ y / 2 → (fun r => if r = x / 2 then x % 2 + 1 else if r = y / 2 then y % 2 + 1 else 0) r = 0 := fun r a b => (if_neg a).trans (if_neg b)
      generalize (fun r => if r = x / 2 then x % 2 + 1 else if r = y / 2 then y % 2 + 1 else 0) = d at *
      have hv1 : 1 ≤ hv co d n := by
        apply Classical.byContradiction
        intro hc
        have h0 : hv co d n = hv co (fun _ => 0) n := by rw [hv_zero]; omega
        have := hv_inj n (fun q _ => hd.1 q) (fun q _ => Nat.zero_le _) h0 (x / 2) hxn
        rw [dx] at this
        omega
      have hvlt : hv co d n < nuN co n := by
        have : ∀ j, hv co d j + 1 ≤ nuN co j := by
          intro j
          induction j with
          | zero => exact Nat.le_refl _
          | succ j ihj =>
            have h2 := hd.1 j
            show hv co d j * ((co j).length + 1) + d j + 1 ≤ nuN co j * ((co j).length + 1)
            have := Nat.mul_le_mul_right ((co j).length + 1) ihj
            rw [Nat.add_mul, Nat.one_mul] at this
            omega
        exact this n
      obtain ⟨k, k1, k2⟩ := ord_ex n3 n6 hxn hyn (Ne.symm t3)
      refine ⟨hv co d n, k, hv1, hvlt, k1, Or.inr ?_⟩
      have hdd := dgN_eq hd rfl
      rw [← hdd]
      have ex := slD_x dx
      have ey := slD_x dy
      have w1 : WD n k co V d (x / 2) (y / 2) = false := by
        unfold WD
        rw [ex, ey, decide_eq_true k2, h2, Bool.and_false]
      have w2 : WD n k co V d (y / 2) (x / 2) = false := by
        unfold WD
        rw [ex, ey, decide_eq_false (by omega), h3, Bool.and_false]
      have bx : (sD n d).testBit (x / 2) = true := by rw [sD_bit d hxn]; exact decide_eq_true (by omega)
      have by' : (sD n d).testBit (y / 2) = true := by rw [sD_bit d hyn]; exact decide_eq_true (by omega)
      have only : ∀ r, r < n → (sD n d).testBit r = true → r = x / 2 ∨ r = y / 2 := fun r hr hb => by
        rw [sD_bit d hr] at hb
        have := of_decide_eq_true hb
        by_cases a : r = x / 2
        · exact Or.inl a
        · by_cases b : r = y / 2
          · exact Or.inr b
          · rw [dz r a b] at this; omega
      have gx : (goS n (sD n d) (WD n k co V d)).testBit (x / 2) = true := by
        unfold goS
        rw [setN_bit, decide_eq_true hxn, Bool.true_and, mayP_iff (by omega)]
        refine ⟨bx, fun q hq hne hb => ?_⟩
        rcases only q hq hb with e | e
        · exact absurd e hne
        · rw [e]; exact w1
      have gy : (goS n (sD n d) (WD n k co V d)).testBit (y / 2) = true := by
        unfold goS
        rw [setN_bit, decide_eq_true hyn, Bool.true_and, mayP_iff (by omega)]
        refine ⟨by', fun q hq hne hb => ?_⟩
        rcases only q hq hb with e | e
        · rw [e]; exact w2
        · exact absurd e hne
      rw [ffJ_ne (by omega)]
      have hft2 : ftB co y x = true := by rw [← ftB_comm n6 hgo hx hy]; exact h1
      rcases Nat.lt_or_gt_of_ne t3 with h | h
      · refine ⟨y / 2, x / 2, h, hxn, gy, gx, ?_⟩
        unfold FD
        rw [ex, ey]
        exact (ftB_th hft2).2.2.2
      · refine ⟨x / 2, y / 2, h, hyn, gx, gy, ?_⟩
        unfold FD
        rw [ex, ey]
        exact t4
    · exact ⟨nu, k, h1, h2, h3, Or.inl h4⟩
/-- those of any set of slots that go -/
def gaS (n k : Nat) (co : Nat → List Goods) (V : Nat → Nat → Bool → Bool) (S : Nat) : Nat := setN (fun x => S.testBit x && decide (awS n k co V x &&& S = 0)) 12
theorem c_goingS {X n k S : Nat} {co : Nat → List Goods} {V : Nat → Nat → Bool → Bool} {g : GG} (n3 : 3 ≤ n) (n6 : n ≤ 6) (hO : ORD g) (hS : STL co V g) (hth : ∀ x, x < 12 → thB co x = true → x / 2 < n) (hs12 : S < 4096) (hk : k < ordMany n) : f_X0_going [.ref 164, .int (nI S), .int (nI k)] (hp g X (OO n)) = some (some (.int (nI (gaS n k co V S))), hp g X (OO n)) := by
  simp (disch := first | assumption | omega) only [f_X0_going, kb_X0_going_0, KL, KB, KC, KI, KJ, KZ, bI_0, bI_n, nI00, nI10, ne_eq, Classical.not_not, not_true_eq_false, not_false_eq_true, if_true, if_false, ite_not, ite_self, Bool.false_eq_true, nIne1]
  unfold kl_X0_going_5
  refine kFor 12 (by unfold FU; omega) (fun i ls h' => ls = [.ref 164, .int (nI S), .int (nI k), .int (nI (setN (fun x => S.testBit x && decide (awS n k co V x &&& S = 0)) i)), .int (nI i)] ∧ h' = hp g X (OO n)) (fun r => r = some (some (.int (nI (gaS n k co V S))), hp g X (OO n))) ?_ ?_ 0 _ _ (by omega) ⟨rfl, rfl⟩
  · rintro s0 ls h' ⟨rfl, rfl⟩
    have hin : (12 ≤ 12) = True := eq_true (by omega)
    simp (disch := first | assumption | omega) only [kb_X0_going_53, KL, KB, KC, KI, KJ, KZ, bI_0, bI_n, nI00, nI10, ne_eq, Classical.not_not, not_true_eq_false, not_false_eq_true, if_true, if_false, ite_not, ite_self, Bool.false_eq_true, nIne1, kMask, mask, nIle, hin]
    rfl
  · rintro s0 i hi ih ls h' ⟨rfl, rfl⟩
    have hin : (12 ≤ i) = False := eq_false (by omega)
    by_cases hz0 : S >>> i = 0
    · have hz : (nI (S >>> i) = 0) = True := by rw [hz0]; exact eq_true rfl
      have e1 : setN (fun x => S.testBit x && decide (awS n k co V x &&& S = 0)) i = gaS n k co V S := setN_ext (by omega) (fun y h1 h2 => by rw [shr_zero hz0 y h1, Bool.false_and])
      simp (disch := first | assumption | omega) only [kb_X0_going_53, KL, KB, KC, KI, KJ, KZ, bI_0, bI_n, nI00, nI10, ne_eq, Classical.not_not, not_true_eq_false, not_false_eq_true, if_true, if_false, ite_not, ite_self, Bool.false_eq_true, nIne1, kMask, mask, nIle, hin, nI_shr, hz]
      rw [e1]
    · have hlt : S >>> i < 2147483648 := by
        have : S >>> i ≤ S := by rw [Nat.shiftRight_eq_div_pow]; exact Nat.div_le_self _ _
        omega
      have hz : (nI (S >>> i) = 0) = False := by rw [nIk0 hlt]; exact eq_false hz0
      have hb1 : (nI ((S >>> i) &&& 1) = 0) = (S.testBit i = false) := by rw [bit0, Nat.testBit_shiftRight, Nat.add_zero]
      cases hb : S.testBit i with
      | true =>
        have hx' : (S.testBit i = false) = False := eq_false (by rw [hb]; decide)
        have ea := c_awaited (X := X) n3 n6 hO hS hth i k hi hk
        have hawl : awS n k co V i &&& S < 4096 := Nat.lt_of_le_of_lt Nat.and_le_right hs12
        have haz : (nI (awS n k co V i &&& S) = 0) = (awS n k co V i &&& S = 0) := nIk0 (by omega)
        have hSs : setN (fun x => S.testBit x && decide (awS n k co V x &&& S = 0)) (i + 1) = setN (fun x => S.testBit x && decide (awS n k co V x &&& S = 0)) i ||| (if decide (awS n k co V i &&& S = 0) = true then 1 <<< i else 0) := by
          show _ ||| (if (S.testBit i && decide (awS n k co V i &&& S = 0)) = true then 1 <<< i else 0) = _
          rw [hb, Bool.true_and]
        by_cases hg : awS n k co V i &&& S = 0
        · have hz2 : (awS n k co V i &&& S = 0) = True := eq_true hg
          rw [decide_eq_true hg, if_pos rfl] at hSs
          simp (disch := first | assumption | omega) only [kb_X0_going_47, KL, KB, KC, KI, KJ, KZ, bI_0, bI_n, nI00, nI10, ne_eq, Classical.not_not, not_true_eq_false, not_false_eq_true, if_true, if_false, ite_not, ite_self, Bool.false_eq_true, nIne1, kMask, mask, nIle, hin, nI_shr, hz, nI_and, hb1, hx', O_co, ea, haz, hz2, nI_shl, nI_or, nI_add]
          exact ih _ _ ⟨by rw [hSs], rfl⟩
        · have hz2 : (awS n k co V i &&& S = 0) = False := eq_false hg
          rw [decide_eq_false hg, if_neg (by decide), Nat.or_zero] at hSs
          simp (disch := first | assumption | omega) only [kb_X0_going_47, KL, KB, KC, KI, KJ, KZ, bI_0, bI_n, nI00, nI10, ne_eq, Classical.not_not, not_true_eq_false, not_false_eq_true, if_true, if_false, ite_not, ite_self, Bool.false_eq_true, nIne1, kMask, mask, nIle, hin, nI_shr, hz, nI_and, hb1, hx', O_co, ea, haz, hz2, nI_add]
          exact ih _ _ ⟨by rw [hSs], rfl⟩
      | false =>
        have hx' : (S.testBit i = false) = True := eq_true hb
        have hSs : setN (fun x => S.testBit x && decide (awS n k co V x &&& S = 0)) (i + 1) = setN (fun x => S.testBit x && decide (awS n k co V x &&& S = 0)) i := by
          show _ ||| (if (S.testBit i && decide (awS n k co V i &&& S = 0)) = true then 1 <<< i else 0) = _
          rw [hb, Bool.false_and, if_neg (by decide), Nat.or_zero]
        simp (disch := first | assumption | omega) only [kb_X0_going_47, KL, KB, KC, KI, KJ, KZ, bI_0, bI_n, nI00, nI10, ne_eq, Classical.not_not, not_true_eq_false, not_false_eq_true, if_true, if_false, ite_not, ite_self, Bool.false_eq_true, nIne1, kMask, mask, nIle, hin, nI_shr, hz, nI_and, hb1, hx', nI_add]
        exact ih _ _ ⟨by rw [hSs], rfl⟩
/-- some state is stuck in this order -/
def skP (n k : Nat) (co : Nat → List Goods) (V : Nat → Nat → Bool → Bool) (nu : Nat) : Prop := 1 ≤ nu ∧ nu < nuN co n ∧ goS n (sD n (dgN n co nu)) (WD n k co V (dgN n co nu)) = 0
theorem c_knot {X n k : Nat} {co : Nat → List Goods} {V : Nat → Nat → Bool → Bool} {g : GG} (n3 : 3 ≤ n) (n6 : n ≤ 6) (hlen : ∀ r, (co r).length ≤ 2) (hO : ORD g) (hS : STL co V g) (hth : ∀ x, x < 12 → thB co x = true → x / 2 < n) (hk : k < ordMany n) : ∃ L, f_X0_knot [.ref 164, .int (nI k)] (hp g X (OO n)) = some (some (.int (nI L)), hp g X (OO n)) ∧ L < 4096 ∧ ∀ nu, skP n k co V nu → L ≠ 0 := by
  -- who is stuck stays in the set
  have keepS : ∀ S nu, skP n k co V nu → (∀ x, (slD (dgN n co nu)).testBit x = true → S.testBit x = true) → ∀ x, (slD (dgN n co nu)).testBit x = true → (S ^^^ (S &&& gaS n k co V S)).testBit x = true := fun S nu hnu hsub x hx => by
    obtain ⟨h1, h2, h3⟩ := hnu
    obtain ⟨hd, -⟩ := dgN_ok h2
    have hx12 : x < 12 := by
      apply Nat.lt_of_not_le
      intro q
      rw [bit_ge (n := 12) (show slD (dgN n co nu) < 2 ^ 12 from setN_lt _ _) x q] at hx
      cases hx
    have hxs := hx
    rw [slD_bit _ hx12] at hxs
    have hxd := of_decide_eq_true hxs
    rw [subN_bit, hsub x hx, Bool.true_and]
    unfold gaS
    rw [setN_bit, decide_eq_true hx12, Bool.true_and, hsub x hx, Bool.true_and, decide_eq_false (fun q => ?_)]
    · rfl
    · have hne : ¬ (awS n k co V x &&& slD (dgN n co nu) = 0) := fun e => by
        have := (going_iff n6 hlen hd hx12 hxd).mp e
        rw [h3, Nat.zero_testBit] at this
        cases this
      obtain ⟨y, hy⟩ := Nat.exists_testBit_of_ne_zero hne
      rw [Nat.testBit_and, Bool.and_eq_true] at hy
      have : (awS n k co V x &&& S).testBit y = true := by rw [Nat.testBit_and, hy.1, hsub y hy.2]; rfl
      rw [q, Nat.zero_testBit] at this
      cases this
  have fin : ∀ S, (∀ nu, skP n k co V nu → ∀ x, (slD (dgN n co nu)).testBit x = true → S.testBit x = true) → ∀ nu, skP n k co V nu → S ≠ 0 := fun S h nu hnu e => by
    obtain ⟨h1, h2, h3⟩ := id hnu
    obtain ⟨hd, hv1⟩ := dgN_ok h2
    have hne := slD_ne n6 hlen hd (by omega)
    obtain ⟨y, hy⟩ := Nat.exists_testBit_of_ne_zero hne
    have := h nu hnu y hy
    rw [e, Nat.zero_testBit] at this
    cases this
  simp (disch := first | assumption | omega) only [f_X0_knot, kb_X0_knot_0, KL, KB, KC, KI, KJ, KZ, bI_0, bI_n, nI00, nI10, ne_eq, Classical.not_not, not_true_eq_false, not_false_eq_true, if_true, if_false, ite_not, ite_self, Bool.false_eq_true, nIne1]
  unfold kl_X0_knot_6
  refine kFor 12 (by unfold FU; omega) (fun i ls h' => ∃ (S : Nat) (u : List Value), ls = [.ref 164, .int (nI k), .int (nI S), .int (nI i)] ++ u ∧ h' = hp g X (OO n) ∧ S < 4096 ∧ ∀ nu, skP n k co V nu → ∀ x, (slD (dgN n co nu)).testBit x = true → S.testBit x = true) (fun r => ∃ L, r = some (some (.int (nI L)), hp g X (OO n)) ∧ L < 4096 ∧ ∀ nu, skP n k co V nu → L ≠ 0) ?_ ?_ 0 _ _ (by omega) ⟨4095, [], rfl, rfl, by omega, fun nu _ x hx => ?_⟩
  · rintro s0 ls h' ⟨S, u, rfl, rfl, h1, h2⟩
    have hin : (12 ≤ 12) = True := eq_true (by omega)
    simp (disch := first | assumption | omega) only [kb_X0_knot_45, KL, KB, KC, KI, KJ, KZ, bI_0, bI_n, nI00, nI10, ne_eq, Classical.not_not, not_true_eq_false, not_false_eq_true, if_true, if_false, ite_not, ite_self, Bool.false_eq_true, nIne1, List.cons_append, List.nil_append, kMask, mask, nIle, hin]
    exact ⟨S, rfl, h1, fin S h2⟩
  · rintro s0 i hi ih ls h' ⟨S, u, rfl, rfl, h1, h2⟩
    have hin : (12 ≤ i) = False := eq_false (by omega)
    by_cases hs0 : S = 0
    · have hz : (nI S = 0) = True := by rw [hs0]; exact eq_true rfl
      simp (disch := first | assumption | omega) only [kb_X0_knot_45, KL, KB, KC, KI, KJ, KZ, bI_0, bI_n, nI00, nI10, ne_eq, Classical.not_not, not_true_eq_false, not_false_eq_true, if_true, if_false, ite_not, ite_self, Bool.false_eq_true, nIne1, List.cons_append, List.nil_append, kMask, mask, nIle, hin, hz]
      exact ⟨S, rfl, h1, fin S h2⟩
    · have hz : (nI S = 0) = False := by rw [nIk0 (by omega)]; exact eq_false hs0
      have eg := c_goingS (X := X) (V := V) n3 n6 hO hS hth h1 hk
      have hg12 : gaS n k co V S < 4096 := setN_lt12 _
      by_cases hg0 : gaS n k co V S = 0
      · have hgz : (nI (gaS n k co V S) = 0) = True := by rw [hg0]; exact eq_true rfl
        simp (disch := first | assumption | omega) only [kb_X0_knot_45, KL, KB, KC, KI, KJ, KZ, bI_0, bI_n, nI00, nI10, ne_eq, Classical.not_not, not_true_eq_false, not_false_eq_true, if_true, if_false, ite_not, ite_self, Bool.false_eq_true, nIne1, List.cons_append, List.nil_append, kMask, mask, nIle, hin, hz, O_co, eg, hgz]
        exact ⟨S, rfl, h1, fin S h2⟩
      · have hgz : (nI (gaS n k co V S) = 0) = False := by rw [nIk0 (by omega)]; exact eq_false hg0
        simp (disch := first | assumption | omega) only [kb_X0_knot_45, KL, KB, KC, KI, KJ, KZ, bI_0, bI_n, nI00, nI10, ne_eq, Classical.not_not, not_true_eq_false, not_false_eq_true, if_true, if_false, ite_not, ite_self, Bool.false_eq_true, nIne1, List.cons_append, List.nil_append, kMask, mask, nIle, hin, hz, O_co, eg, hgz, nI_andn, nI_add]
        exact ih _ _ ⟨S ^^^ (S &&& gaS n k co V S), _, rfl, rfl, subN_lt (n := 12) h1, fun nu hnu => keepS S nu hnu (h2 nu hnu)⟩
  · have hx12 : x < 12 := by
      apply Nat.lt_of_not_le
      intro q
      rw [bit_ge (n := 12) (show slD (dgN n co nu) < 2 ^ 12 from setN_lt _ _) x q] at hx
      cases hx
    have : ∀ x : Fin 12, (4095 : Nat).testBit x.val = true := by decide
    exact this ⟨x, hx12⟩
