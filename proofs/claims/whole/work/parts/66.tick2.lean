-- ===== the class's tick: rows come up =====
def cpP (g : GG) (a s d n : Nat) : GG := fun b => if b = a then va_cpy (g a) (g a) s d n else g b
theorem cpP_ne {g : GG} {a s d n b : Nat} (h : b ≠ a) : cpP g a s d n b = g b := if_neg h
theorem cpP_in {g : GG} {a s d n i : Nat} (h1 : d ≤ i) (h2 : i < d + n) : cpP g a s d n a i = g a (s + (i - d)) := by
  show (if a = a then va_cpy (g a) (g a) s d n else g a) i = _
  rw [if_pos rfl]
  exact if_pos ⟨h1, h2⟩
theorem cpP_out {g : GG} {a s d n i : Nat} (h : i < d ∨ d + n ≤ i) : cpP g a s d n a i = g a i := by
  show (if a = a then va_cpy (g a) (g a) s d n else g a) i = _
  rw [if_pos rfl]
  exact if_neg (by omega)
theorem copy_pos {a N n s d : Nat} {g : GG} {m o : Nat} (h0 : SH a = (1, N)) (hn : n < 2147483648) (hs : s < 2147483648) (hd : d < 2147483648) (b1 : s + n ≤ N) (b2 : d + n ≤ N) (k : KK) (ls : List Value) : kCopy 0 k ls [.int (nI n), .int (nI d), .ref a, .int (nI s), .ref a] (hp g m o) = k ls [] (hp (cpP g a s d n) m o) := by
  have e0 : hSh (hp g m o) a = (1, N) := h0
  have zs : (nI s).toNatClampNeg = s := nI_clamp hs
  have zd : (nI d).toNatClampNeg = d := nI_clamp hd
  have zn : (nI n).toNatClampNeg = n := nI_clamp hn
  unfold kCopy
  simp only []
  rw [if_pos ?_]
  · rw [zs, zd, zn]; rfl
  · rw [e0, zs, zd, zn]
    exact ⟨rfl, rfl, nI_pos' hs, nI_pos' hd, nI_pos' hn, b1, b2, Or.inl trivial, by decide⟩
theorem x_leaveRow (g : GG) (m o X r : Nat) (z : Goods) (l : List Goods) (hX : isX X) (hr : r < 6) (hl : l.length < 20) (e : g (X + 6) r = nI (l.length + 1)) (ez : g (X + 5) (20 * r) = nI (goodsN z)) : f_X1_leaveRow [.ref X, .int (nI r)] (hp g m o) = some (some (.int (nI (goodsN z))), hp (upd2 (cpP g (X + 5) (20 * r + 1) (20 * r) l.length) (X + 6) r (nI l.length)) m o) := by
  have hc := fun (k : KK) (ls : List Value) => copy_pos (n := l.length) (s := r * 20 + 1) (d := r * 20) (g := g) (m := m) (o := o) (a := X + 5) (N := 120) hX.2.2.2.2.2.1 (by omega) (by omega) (by omega) (by omega) (by omega) k ls
  have ez' : g (X + 5) (r * 20) = nI (goodsN z) := by rw [Nat.mul_comm]; exact ez
  have h1 : (nI (l.length + 1 - 1) < 0) = False := nIlt0 (by omega)
  simp (disch := first | assumption | omega) only [f_X1_leaveRow, kb_X1_leaveRow_52, kb_X1_leaveRow_0, KL, KB, KC, KI, KJ, KZ, bI_0, bI_n, nI00, nI10, ne_eq, Classical.not_not, not_true_eq_false, not_false_eq_true, if_true, if_false, ite_not, ite_self, Bool.false_eq_true, nIne1, XO, e, nI_mul, nI_sub, h1, ez', nI_add, Nat.add_sub_cancel, nIlt0, hc]
  rw [Nat.mul_comm r 20]
def movR (tk r : Nat) (S : (Nat → Option ACart) × (Nat → List Goods)) : (Nat → Option ACart) × (Nat → List Goods) :=
  match S.1 r, S.2 r with
  | none, z :: l => (fun q => if q = r then some (z, tk % 100, 0, 0) else S.1 q, fun q => if q = r then l else S.2 q)
  | _, _ => S
def movN (tk : Nat) : Nat → (Nat → Option ACart) × (Nat → List Goods) → (Nat → Option ACart) × (Nat → List Goods)
  | 0, S => S
  | k + 1, S => movR tk k (movN tk k S)
theorem movR_some {tk r : Nat} {S : (Nat → Option ACart) × (Nat → List Goods)} {c : ACart} (h : S.1 r = some c) : movR tk r S = S := by unfold movR; rw [h]
theorem movR_nil {tk r : Nat} {S : (Nat → Option ACart) × (Nat → List Goods)} (h : S.2 r = []) : movR tk r S = S := by unfold movR; rw [h]; cases S.1 r <;> rfl
theorem movR_go {tk r : Nat} {S : (Nat → Option ACart) × (Nat → List Goods)} {z : Goods} {l : List Goods} (h : S.1 r = none) (h2 : S.2 r = z :: l) : movR tk r S = (fun q => if q = r then some (z, tk % 100, 0, 0) else S.1 q, fun q => if q = r then l else S.2 q) := by unfold movR; rw [h, h2]
theorem x_hasCartO (g : GG) (m o X n r : Nat) (c : Option ACart) (hX : isX X) (en : g X 0 = nI n) (n6 : n ≤ 6) (hr : r < n) (hc : cartC g X r c) (hb : ∀ a, c = some a → a.1.1 < 6) : f_X1_hasCart [.ref X, .int (nI r)] (hp g m o) = some (some (.int (bW c.isSome)), hp g m o) := by
  rw [x_hasCart g m o X n r hX en n6 hr]
  cases c with
  | none =>
    have h : g (X + 2) r = -1 := hc
    rw [h, bI_f (fun q => q rfl)]; rfl
  | some a =>
    have h : g (X + 2) r = nI a.1.1 := hc.1
    have := hb a rfl
    have hne : nI a.1.1 ≠ -1 := fun q => (nIne1 (by omega)).mp q
    rw [h, bI_t hne]; rfl
/-- the part of the picture that rows coming up change, class -/
def MVc (X n : Nat) (S : (Nat → Option ACart) × (Nat → List Goods)) (g : GG) : Prop := ∀ r, r < 6 → cartC g X r (S.1 r) ∧ (∀ a, S.1 r = some a → a.1.1 < 6) ∧ (S.2 r).length ≤ 20 ∧ (∀ z ∈ S.2 r, okGo n r z) ∧ g (X + 6) r = nI (S.2 r).length ∧ ∀ (i : Nat) (z : Goods), (S.2 r)[i]? = some z → g (X + 5) (20 * r + i) = nI (goodsN z)
theorem cartC.congr {g g' : GG} {X r : Nat} {c : Option ACart} (h : cartC g X r c) (h1 : ∀ t, t < 6 → g' (X + 2) (6 * t + r) = g (X + 2) (6 * t + r)) : cartC g' X r c := by
  have e0 := h1 0 (by omega)
  rw [Nat.mul_zero, Nat.zero_add] at e0
  cases c with
  | none => exact e0.trans h
  | some c =>
    obtain ⟨a0, a1, a2, a3, a4, a5⟩ := h
    exact ⟨e0.trans a0, (h1 1 (by omega)).trans a1, (h1 2 (by omega)).trans a2, (h1 3 (by omega)).trans a3, (h1 4 (by omega)).trans a4, (h1 5 (by omega)).trans a5⟩
theorem c_bringUpRows {X n tk : Nat} {S : (Nat → Option ACart) × (Nat → List Goods)} {g : GG} {m o : Nat} (hX : isX X) (hX1 : X + 9 < 77) (hX2 : 16 < X) (en : g X 0 = nI n) (n6 : n ≤ 6) (et : g (X + 8) 0 = nI tk) (htk : tk < 1000000) (hS : MVc X n S g) : ∃ g', f_X2_bringUpRows [.ref 184, .ref X] (hp g m o) = some (none, hp g' m o) ∧ (∀ a, a ≠ X + 2 → a ≠ X + 5 → a ≠ X + 6 → g' a = g a) ∧ MVc X n (movN tk n S) g' := by
  simp (disch := first | assumption | omega) only [f_X2_bringUpRows, kb_X2_bringUpRows_47, kb_X2_bringUpRows_0, KL, KB, KC, KI, KJ, KZ, bI_0, bI_n, nI00, nI10, ne_eq, Classical.not_not, not_true_eq_false, not_false_eq_true, if_true, if_false, ite_not, ite_self, Bool.false_eq_true, nIne1]
  unfold kl_X2_bringUpRows_2
  refine kFor n (by unfold FU; omega) (fun i ls h => ∃ (g' : GG) (v : Value), ls = [v, .ref X, .int (nI i)] ∧ h = hp g' m o ∧ (∀ a, a ≠ X + 2 → a ≠ X + 5 → a ≠ X + 6 → g' a = g a) ∧ MVc X n (movN tk i S) g') (fun r => ∃ g', r = some (none, hp g' m o) ∧ (∀ a, a ≠ X + 2 → a ≠ X + 5 → a ≠ X + 6 → g' a = g a) ∧ MVc X n (movN tk n S) g') ?_ ?_ 0 _ _ (by omega) ⟨g, _, rfl, rfl, fun _ _ _ _ => rfl, hS⟩
  · rintro s0 ls h ⟨g', v, rfl, rfl, h1, h2⟩
    have e : g' X 0 = nI n := by rw [h1 X (by omega) (by omega) (by omega)]; exact en
    have hin : (n ≤ n) = True := eq_true (by omega)
    simp (disch := first | assumption | omega) only [KL, KB, KC, KI, KJ, KZ, bI_0, bI_n, nI00, nI10, ne_eq, Classical.not_not, not_true_eq_false, not_false_eq_true, if_true, if_false, ite_not, ite_self, Bool.false_eq_true, nIne1, kMask, mask, XO, e, nIle, hin]
    exact ⟨g', rfl, h1, h2⟩
  · rintro s0 i hi ih ls h ⟨g', v, rfl, rfl, h1, h2⟩
    have e : g' X 0 = nI n := by rw [h1 X (by omega) (by omega) (by omega)]; exact en
    have hin : (n ≤ i) = False := eq_false (by omega)
    have hR : movN tk (i + 1) S = movR tk i (movN tk i S) := rfl
    generalize movN tk i S = T at *
    obtain ⟨a1, a2, a3, a3', a4, a5⟩ := h2 i (by omega)
    have ehc := x_hasCartO g' m o X n i (T.1 i) hX e n6 hi a1 a2
    cases hT1 : T.1 i with
    | some c =>
      rw [movR_some hT1] at hR
      rw [hT1] at ehc
      have hb : bW (some c).isSome = nI 1 := rfl
      simp (disch := first | assumption | omega) only [f_X2_bringUpRows, kb_X2_bringUpRows_47, kb_X2_bringUpRows_0, KL, KB, KC, KI, KJ, KZ, bI_0, bI_n, nI00, nI10, ne_eq, Classical.not_not, not_true_eq_false, not_false_eq_true, if_true, if_false, ite_not, ite_self, Bool.false_eq_true, nIne1, kMask, mask, XO, e, nIle, hin, ehc, hb, nI_add]
      exact ih _ _ ⟨g', _, rfl, rfl, h1, by rw [hR]; exact h2⟩
    | none =>
      rw [hT1] at ehc
      have hb : bW (none : Option ACart).isSome = nI 0 := rfl
      cases hT2 : T.2 i with
      | nil =>
        rw [movR_nil hT2] at hR
        rw [hT2] at a4
        have a4' : g' (X + 6) i = nI 0 := a4
        have hle : (nI 0 ≤ 0) = True := eq_true (by decide)
        simp (disch := first | assumption | omega) only [f_X2_bringUpRows, kb_X2_bringUpRows_47, kb_X2_bringUpRows_0, KL, KB, KC, KI, KJ, KZ, bI_0, bI_n, nI00, nI10, ne_eq, Classical.not_not, not_true_eq_false, not_false_eq_true, if_true, if_false, ite_not, ite_self, Bool.false_eq_true, nIne1, kMask, mask, XO, e, nIle, hin, ehc, hb, a4', hle, nI_add]
        exact ih _ _ ⟨g', _, rfl, rfl, h1, by rw [hR]; exact h2⟩
      | cons z l =>
        rw [movR_go hT1 hT2] at hR
        rw [hT2] at a3 a4 a5 a3'
        rw [List.length_cons] at a3 a4
        obtain ⟨k1, k2, k3, k4⟩ := a3' z List.mem_cons_self
        have ez := a5 0 z rfl
        rw [Nat.add_zero] at ez
        have hle : (nI (l.length + 1) ≤ 0) = False := by rw [nIle0 (by omega)]; exact eq_false (by omega)
        have el := x_leaveRow g' m o X i z l hX (by omega) (by omega) a4 ez
        have et' : upd2 (cpP g' (X + 5) (20 * i + 1) (20 * i) l.length) (X + 6) i (nI l.length) (X + 8) 0 = nI tk := by rw [uN (by omega), cpP_ne (by omega), h1 _ (by omega) (by omega) (by omega)]; exact et
        have h100 : (nI 100 = 0) = False := eq_false (by decide)
        simp (disch := first | assumption | omega) only [f_X2_bringUpRows, kb_X2_bringUpRows_47, kb_X2_bringUpRows_0, KL, KB, KC, KI, KJ, KZ, bI_0, bI_n, nI00, nI10, ne_eq, Classical.not_not, not_true_eq_false, not_false_eq_true, if_true, if_false, ite_not, ite_self, Bool.false_eq_true, nIne1, kMask, mask, XO, e, nIle, hin, ehc, hb, a4, hle, el, et', h100, nI_div, nI_rem2, x_putCart, nI_add]
        refine ih _ _ ⟨_, _, rfl, rfl, fun a b1 b2 b3 => by rw [putC_ne b1, uN b3, cpP_ne b2]; exact h1 a b1 b2 b3, fun r hr => ?_⟩
        rw [hR]
        obtain ⟨r1, r2, r3, r3', r4, r5⟩ := h2 r hr
        by_cases q : r = i
        · subst q
          simp only [if_true]
          refine ⟨?_, fun a ha => by cases ha; show z.1 < 6; omega, by omega, fun y hy => a3' y (List.mem_cons_of_mem _ hy), by rw [putC_ne (by omega), uS], fun t y hy => ?_⟩
          · unfold cartC putC
            simp only []
            refine ⟨?_, ?_, ?_, ?_, ?_, ?_⟩
            all_goals simp (disch := omega) only [upd2_other, upd2_same]
          · have ht := (List.getElem?_eq_some_iff.mp hy).1
            rw [putC_ne (by omega), uN (by omega), cpP_in (by omega) (by omega), show 20 * r + 1 + (20 * r + t - 20 * r) = 20 * r + (t + 1) by omega]
            exact a5 (t + 1) y (by rw [List.getElem?_cons_succ]; exact hy)
        · simp only [q, if_false]
          refine ⟨r1.congr (fun t ht => ?_), r2, r3, r3', by rw [putC_ne (by omega), uO (by omega), cpP_ne (by omega)]; exact r4, fun t y hy => ?_⟩
          · rw [putC_at (by omega) (by omega), uN (by omega), cpP_ne (by omega)]
          · have ht := (List.getElem?_eq_some_iff.mp hy).1
            rw [putC_ne (by omega), uN (by omega), cpP_out (by omega)]
            exact r5 t y hy
theorem movN_ok {n tk : Nat} (htk : tk % 100 ≤ 99) {b : Nat} : ∀ (k : Nat) (S : (Nat → Option ACart) × (Nat → List Goods)), k ≤ n → ((∀ r, r < 6 → ∀ c, S.1 r = some c → r < n ∧ okGo n r c.1 ∧ c.2.1 ≤ 99 ∧ c.2.2.1 ≤ 2 ∧ c.2.2.2 ≤ b) ∧ (∀ r, r < 6 → (S.2 r).length ≤ 20 ∧ (n ≤ r → S.2 r = []) ∧ ∀ z ∈ S.2 r, okGo n r z)) → ((∀ r, r < 6 → ∀ c, (movN tk k S).1 r = some c → r < n ∧ okGo n r c.1 ∧ c.2.1 ≤ 99 ∧ c.2.2.1 ≤ 2 ∧ c.2.2.2 ≤ b) ∧ (∀ r, r < 6 → ((movN tk k S).2 r).length ≤ 20 ∧ (n ≤ r → (movN tk k S).2 r = []) ∧ ∀ z ∈ (movN tk k S).2 r, okGo n r z)) := by
  intro k
  induction k with
  | zero => intro S _ h; exact h
  | succ k ih =>
    intro S hk h
    obtain ⟨h1, h2⟩ := ih S (by omega) h
    show (∀ r, r < 6 → ∀ c, (movR tk k (movN tk k S)).1 r = some c → _) ∧ (∀ r, r < 6 → ((movR tk k (movN tk k S)).2 r).length ≤ 20 ∧ (n ≤ r → (movR tk k (movN tk k S)).2 r = []) ∧ ∀ z ∈ (movR tk k (movN tk k S)).2 r, okGo n r z)
    generalize movN tk k S = T at *
    cases hT1 : T.1 k with
    | some c => rw [movR_some hT1]; exact ⟨h1, h2⟩
    | none =>
      cases hT2 : T.2 k with
      | nil => rw [movR_nil hT2]; exact ⟨h1, h2⟩
      | cons z l =>
        rw [movR_go hT1 hT2]
        constructor
        · intro r hr c hc
          simp only [] at hc
          by_cases q : r = k
          · subst q
            rw [if_pos rfl] at hc
            cases hc
            have := (h2 r hr).2.2 z (by rw [hT2]; exact List.mem_cons_self)
            exact ⟨by omega, this, htk, by show 0 ≤ 2; omega, by show 0 ≤ b; omega⟩
          · rw [if_neg q] at hc
            exact h1 r hr c hc
        · intro r hr
          obtain ⟨b1, b2, b3⟩ := h2 r hr
          simp only []
          by_cases q : r = k
          · subst q
            rw [if_pos rfl]
            rw [hT2, List.length_cons] at b1
            exact ⟨by omega, fun h => by omega, fun y hy => b3 y (by rw [hT2]; exact List.mem_cons_of_mem _ hy)⟩
          · rw [if_neg q]
            exact ⟨b1, b2, b3⟩
theorem comeN_ok {n : Nat} {co : Nat → List Goods} {ch : Nat → Nat} (hco : ∀ r, r < n → ∀ z ∈ co r, okGo n r z) : ∀ (k : Nat) (S : Int32 × (Nat → List Goods)), k ≤ n → (∀ r, r < 6 → (S.2 r).length ≤ 20 ∧ (n ≤ r → S.2 r = []) ∧ ∀ z ∈ S.2 r, okGo n r z) → ∀ r, r < 6 → ((comeN co ch k S).2 r).length ≤ 20 ∧ (n ≤ r → (comeN co ch k S).2 r = []) ∧ ∀ z ∈ (comeN co ch k S).2 r, okGo n r z := by
  intro k
  induction k with
  | zero => intro S _ h; exact h
  | succ k ih =>
    intro S hk h
    have h1 := ih S (by omega) h
    show ∀ r, r < 6 → ((comeR co ch k (comeN co ch k S)).2 r).length ≤ 20 ∧ (n ≤ r → (comeR co ch k (comeN co ch k S)).2 r = []) ∧ ∀ z ∈ (comeR co ch k (comeN co ch k S)).2 r, okGo n r z
    generalize comeN co ch k S = T at *
    intro r hr
    obtain ⟨b1, b2, b3⟩ := h1 r hr
    unfold comeR
    split
    · exact ⟨b1, b2, b3⟩
    · rename_i hc
      split
      · simp only []
        by_cases q : r = k ∧ (T.2 k).length < 20
        · obtain ⟨rfl, q2⟩ := q
          rw [if_pos ⟨rfl, q2⟩]
          refine ⟨by rw [List.length_append, List.length_singleton]; omega, fun h => by omega, fun z hz => ?_⟩
          rcases List.mem_append.mp hz with hz | hz
          · exact b3 z hz
          · rw [List.mem_singleton] at hz
            subst hz
            have hpos : 0 < (co r).length := by
              cases hh : co r with
              | nil => exact absurd hh hc
              | cons a t => exact Nat.succ_pos _
            have d2 := drV_lt (dr1 (dr1 T.1)) hpos
            rw [List.getD_eq_getElem?_getD, List.getElem?_eq_getElem d2]
            exact hco r (by omega) _ (List.getElem_mem d2)
        · rw [if_neg q]
          exact ⟨b1, b2, b3⟩
      · exact ⟨b1, b2, b3⟩
