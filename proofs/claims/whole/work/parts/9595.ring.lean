-- ===== least sums over a graph of 36 links =====
/-- D is what the least walk sums to: I where there is none -/
def SOL (E : Nat → Nat → Bool) (T : Nat → Bool) (w : Nat → Nat) (I : Nat) (D : Nat → Nat) : Prop := (∀ l, l < 36 → D l ≤ I) ∧ (∀ l, l < 36 → T l = true → D l ≤ w l) ∧ (∀ l n, l < 36 → n < 36 → E l n = true → D l ≤ w l + D n) ∧ ∀ l, l < 36 → D l < I → (T l = true ∧ D l = w l) ∨ ∃ n, n < 36 ∧ E l n = true ∧ D l = w l + D n
def wkN (E : Nat → Nat → Bool) (T : Nat → Bool) (w : Nat → Nat) : Nat → Nat → Nat → Prop
  | 0, _, _ => False
  | k + 1, l, s => (T l = true ∧ s = w l) ∨ ∃ n, n < 36 ∧ E l n = true ∧ ∃ s', wkN E T w k n s' ∧ s = w l + s'
theorem least_ex {P : Nat → Prop} : ∀ s, P s → ∃ m, m ≤ s ∧ P m ∧ ∀ t, P t → m ≤ t := by
  intro s
  induction s using Nat.strongRecOn with
  | _ s ih =>
    intro hs
    by_cases h : ∃ t, t < s ∧ P t
    · obtain ⟨t, h1, h2⟩ := h
      obtain ⟨m, a, b, c⟩ := ih t h1 h2
      exact ⟨m, by omega, b, c⟩
    · exact ⟨s, Nat.le_refl _, hs, fun t ht => Nat.le_of_not_lt (fun q => h ⟨t, q, ht⟩)⟩
theorem ex_sol (E : Nat → Nat → Bool) (T : Nat → Bool) (w : Nat → Nat) (I : Nat) : ∃ D, SOL E T w I D := by
  have h : ∀ l, l < 36 → ∃ d, d ≤ I ∧ (∀ k s, wkN E T w k l s → d ≤ s) ∧ (d < I → ∃ k, wkN E T w k l d) := by
    intro l _
    by_cases q : ∃ s, s < I ∧ ∃ k, wkN E T w k l s
    · obtain ⟨s, h1, k, h2⟩ := q
      obtain ⟨m, a, ⟨k2, b⟩, c⟩ := least_ex (P := fun s => ∃ k, wkN E T w k l s) s ⟨k, h2⟩
      exact ⟨m, by omega, fun k s hk => c s ⟨k, hk⟩, fun _ => ⟨k2, b⟩⟩
    · exact ⟨I, Nat.le_refl _, fun k s hk => Nat.le_of_not_lt (fun x => q ⟨s, x, k, hk⟩), fun x => absurd x (Nat.lt_irrefl _)⟩
  obtain ⟨D, hD⟩ := chs (α := Nat) h
  refine ⟨D, fun l hl => (hD l hl).1, fun l hl ht => (hD l hl).2.1 1 _ (Or.inl ⟨ht, rfl⟩), fun l n hl hn he => ?_, fun l hl hlt => ?_⟩
  · obtain ⟨a, b, c⟩ := hD n hn
    by_cases q : D n < I
    · obtain ⟨k, hk⟩ := c q
      exact (hD l hl).2.1 (k + 1) _ (Or.inr ⟨n, hn, he, D n, hk, rfl⟩)
    · have := (hD l hl).1
      omega
  · obtain ⟨k, hk⟩ := (hD l hl).2.2 hlt
    cases k with
    | zero => exact hk.elim
    | succ k =>
      rcases hk with ⟨a, b⟩ | ⟨n, a, b, s, c, d⟩
      · exact Or.inl ⟨a, b⟩
      · refine Or.inr ⟨n, a, b, ?_⟩
        obtain ⟨n1, n2, n3⟩ := hD n a
        have h1 := n2 k s c
        by_cases q : D n < I
        · obtain ⟨k2, hk2⟩ := n3 q
          have := (hD l hl).2.1 (k2 + 1) _ (Or.inr ⟨n, a, b, D n, hk2, rfl⟩)
          omega
        · omega
/-- how many lie nearer -/
def rhN (D : Nat → Nat) (l : Nat) : Nat := cntN (fun n => decide (D n < D l)) 36
theorem rh_lt {D : Nat → Nat} {n l : Nat} (hn : n < 36) (h : D n < D l) : rhN D n < rhN D l :=
  cntN_lt 36 (fun i _ hi => decide_eq_true (by have := of_decide_eq_true hi; omega)) n hn (decide_eq_false (by omega)) (decide_eq_true h)
theorem cntN_all (n : Nat) : cntN (fun _ => true) n ≤ n := cntN_le _ _
theorem rh_36 {D : Nat → Nat} {l : Nat} (hl : l < 36) : rhN D l < 36 :=
  Nat.lt_of_lt_of_le (cntN_lt (q := fun _ => true) 36 (fun _ _ _ => rfl) l hl (decide_eq_false (by omega)) rfl) (cntN_all 36)
theorem SOL.bound {E : Nat → Nat → Bool} {T : Nat → Bool} {w D : Nat → Nat} {I : Nat} (h : SOL E T w I D) (hw : ∀ l, l < 36 → 1 ≤ w l ∧ w l ≤ 10) : ∀ r l, rhN D l ≤ r → l < 36 → D l < I → D l ≤ 10 * (rhN D l + 1) := by
  intro r
  induction r with
  | zero =>
    intro l hr hl hlt
    rcases h.2.2.2 l hl hlt with ⟨a, b⟩ | ⟨n, a, b, c⟩
    · have := (hw l hl).2; omega
    · have := rh_lt (D := D) (n := n) (l := l) a (by have := (hw l hl).1; omega)
      omega
  | succ r ih =>
    intro l hr hl hlt
    rcases h.2.2.2 l hl hlt with ⟨a, b⟩ | ⟨n, a, b, c⟩
    · have := (hw l hl).2; omega
    · have hw1 := hw l hl
      have h1 := rh_lt (D := D) (n := n) (l := l) a (by omega)
      have := ih n (by omega) a (by omega)
      omega
theorem SOL.b360 {E : Nat → Nat → Bool} {T : Nat → Bool} {w D : Nat → Nat} {I : Nat} (h : SOL E T w I D) (hw : ∀ l, l < 36 → 1 ≤ w l ∧ w l ≤ 10) {l : Nat} (hl : l < 36) (hlt : D l < I) : D l ≤ 360 := by
  have := h.bound hw (rhN D l) l (Nat.le_refl _) hl hlt
  have := rh_36 (D := D) hl
  omega
/-- what can't be lessened is the least -/
theorem SOL.fix {E : Nat → Nat → Bool} {T : Nat → Bool} {w D F : Nat → Nat} {I : Nat} (h : SOL E T w I D) (hw : ∀ l, l < 36 → 1 ≤ w l) (h1 : ∀ l, l < 36 → D l ≤ F l ∧ F l ≤ I) (h2 : ∀ l, l < 36 → (T l = true → F l ≤ w l) ∧ ∀ n, n < 36 → E l n = true → F l ≤ w l + F n) : ∀ l, l < 36 → F l = D l := by
  have key : ∀ s l, D l ≤ s → l < 36 → F l = D l := by
    intro s
    induction s with
    | zero =>
      intro l hs hl
      by_cases q : D l < I
      · rcases h.2.2.2 l hl q with ⟨a, b⟩ | ⟨n, a, b, c⟩
        · have := hw l hl; omega
        · have := hw l hl; omega
      · have := h1 l hl; omega
    | succ s ih =>
      intro l hs hl
      have x1 := h1 l hl
      by_cases q : D l < I
      · rcases h.2.2.2 l hl q with ⟨a, b⟩ | ⟨n, a, b, c⟩
        · have := (h2 l hl).1 a; omega
        · have hw1 := hw l hl
          have := ih n (by omega) a
          have := (h2 l hl).2 n a b
          omega
      · omega
  exact fun l hl => key (D l) l (Nat.le_refl _) hl
/-- one link made nearer, as far as its own next ones let -/
def RLX (E : Nat → Nat → Bool) (T : Nat → Bool) (w F : Nat → Nat) (l x : Nat) : Prop := x ≤ F l ∧ (T l = true → x ≤ w l) ∧ (∀ n, n < 36 → E l n = true → x ≤ w l + F n) ∧ (x = F l ∨ (T l = true ∧ x = w l) ∨ ∃ n, n < 36 ∧ E l n = true ∧ x = w l + F n)
def updF (F : Nat → Nat) (i x : Nat) (l : Nat) : Nat := if l = i then x else F l
/-- a round, done for the links below i; b: some link came nearer -/
def PSR (E : Nat → Nat → Bool) (T : Nat → Bool) (w D F0 : Nat → Nat) (i : Nat) (F : Nat → Nat) (b : Bool) : Prop := (∀ l, l < 36 → D l ≤ F l ∧ F l ≤ F0 l) ∧ (∀ l, l < i → l < 36 → ((T l = true ∧ D l = w l) ∨ ∃ n, n < 36 ∧ E l n = true ∧ D l = w l + D n ∧ F0 n = D n) → F l = D l) ∧ (b = false → (∀ l, l < 36 → F l = F0 l) ∧ ∀ l, l < i → l < 36 → (T l = true → F0 l ≤ w l) ∧ ∀ n, n < 36 → E l n = true → F0 l ≤ w l + F0 n) ∧ (b = true → ∃ l, l < 36 ∧ F l < F0 l)
theorem PSR.start {E : Nat → Nat → Bool} {T : Nat → Bool} {w D F0 : Nat → Nat} {i : Nat} (h : ∀ l, l < 36 → D l ≤ F0 l) (hi : ∀ l, l < i → T l = false ∧ ∀ n, E l n = false) : PSR E T w D F0 i F0 false := by
  refine ⟨fun l hl => ⟨h l hl, Nat.le_refl _⟩, fun l hl _ hx => ?_, fun _ => ⟨fun _ _ => rfl, fun l hl _ => ⟨fun ht => ?_, fun n _ he => ?_⟩⟩, fun q => by cases q⟩
  · rcases hx with ⟨a, -⟩ | ⟨n, -, a, -⟩
    · rw [(hi l hl).1] at a; cases a
    · rw [(hi l hl).2 n] at a; cases a
  · rw [(hi l hl).1] at ht; cases ht
  · rw [(hi l hl).2 n] at he; cases he
theorem PSR.step {E : Nat → Nat → Bool} {T : Nat → Bool} {w D F0 F : Nat → Nat} {I i x : Nat} {b : Bool} (hD : SOL E T w I D) (h : PSR E T w D F0 i F b) (hi : i < 36) (hx : RLX E T w F i x) : PSR E T w D F0 (i + 1) (updF F i x) (b || decide (x < F i)) := by
  obtain ⟨h1, h2, h3, h4⟩ := h
  obtain ⟨x1, x2, x3, x4⟩ := hx
  have hxD : D i ≤ x := by
    rcases x4 with e | ⟨a, e⟩ | ⟨n, a, b, e⟩
    · rw [e]; exact (h1 i hi).1
    · rw [e]; exact hD.2.1 i hi a
    · have := hD.2.2.1 i n hi a b
      have := (h1 n a).1
      omega
  refine ⟨fun l hl => ?_, fun l hl hl6 hc => ?_, fun hb => ?_, fun hb => ?_⟩
  · unfold updF
    by_cases q : l = i
    · rw [if_pos q, q]
      have := h1 i hi
      omega
    · rw [if_neg q]; exact h1 l hl
  · unfold updF
    by_cases q : l = i
    · subst q
      rw [if_pos rfl]
      rcases hc with ⟨a, e⟩ | ⟨n, a, b, e, f⟩
      · have := x2 a; omega
      · have := x3 n a b
        have := h1 n a
        omega
    · rw [if_neg q]; exact h2 l (by omega) hl6 hc
  · rw [Bool.or_eq_false_iff] at hb
    obtain ⟨b0, b1⟩ := hb
    have b1 := of_decide_eq_false b1
    obtain ⟨c1, c2⟩ := h3 b0
    have hxi : x = F0 i := by
      have := c1 i hi
      omega
    refine ⟨fun l hl => ?_, fun l hl hl6 => ?_⟩
    · unfold updF
      by_cases q : l = i
      · rw [if_pos q, q]; exact hxi
      · rw [if_neg q]; exact c1 l hl
    · by_cases q : l = i
      · subst q
        refine ⟨fun ht => by rw [← hxi]; exact x2 ht, fun n hn he => ?_⟩
        have := x3 n hn he
        rw [c1 n hn] at this
        omega
      · exact c2 l (by omega) hl6
  · cases b with
    | true =>
      obtain ⟨l, hl, hlt⟩ := h4 rfl
      refine ⟨l, hl, ?_⟩
      unfold updF
      by_cases q : l = i
      · rw [if_pos q]
        subst q
        omega
      · rw [if_neg q]; exact hlt
    | false =>
      rw [Bool.false_or] at hb
      have := of_decide_eq_true hb
      refine ⟨i, hi, ?_⟩
      unfold updF
      rw [if_pos rfl]
      have := (h1 i hi).2
      omega
theorem PSR.same {E : Nat → Nat → Bool} {T : Nat → Bool} {w D F0 F F' : Nat → Nat} {i : Nat} {b : Bool} (h : PSR E T w D F0 i F b) (he : ∀ l, l < 36 → F' l = F l) : PSR E T w D F0 i F' b := by
  obtain ⟨h1, h2, h3, h4⟩ := h
  exact ⟨fun l hl => by rw [he l hl]; exact h1 l hl, fun l hl hl6 hc => by rw [he l hl6]; exact h2 l hl hl6 hc, fun hb => ⟨fun l hl => by rw [he l hl]; exact (h3 hb).1 l hl, (h3 hb).2⟩, fun hb => by
    obtain ⟨l, hl, hlt⟩ := h4 hb
    exact ⟨l, hl, by rw [he l hl]; exact hlt⟩⟩
/-- nothing changes at a link that isn't one -/
theorem PSR.skip {E : Nat → Nat → Bool} {T : Nat → Bool} {w D F0 F : Nat → Nat} {I i : Nat} {b : Bool} (hD : SOL E T w I D) (h : PSR E T w D F0 i F b) (hi : i < 36) (ht : T i = false) (he : ∀ n, E i n = false) : PSR E T w D F0 (i + 1) F b := by
  have := h.step hD hi (x := F i) ⟨Nat.le_refl _, fun q => (by rw [ht] at q; cases q), fun n _ q => (by rw [he n] at q; cases q), Or.inl rfl⟩
  rw [decide_eq_false (Nat.lt_irrefl _), Bool.or_false] at this
  exact this.same (fun l _ => by
    unfold updF
    by_cases q : l = i
    · rw [if_pos q, q]
    · rw [if_neg q])
/-- rounds: after k of them those with less than k nearer ones are exact -/
def EXA (D F : Nat → Nat) (I k : Nat) : Prop := (∀ l, l < 36 → D l ≤ F l ∧ F l ≤ I) ∧ ∀ l, l < 36 → rhN D l < k → F l = D l
theorem EXA.next {E : Nat → Nat → Bool} {T : Nat → Bool} {w D F0 F : Nat → Nat} {I k : Nat} {b : Bool} (hD : SOL E T w I D) (hw : ∀ l, l < 36 → 1 ≤ w l) (h : EXA D F0 I k) (hp : PSR E T w D F0 36 F b) : EXA D F I (k + 1) := by
  obtain ⟨a1, a2⟩ := h
  obtain ⟨h1, h2, -, -⟩ := hp
  refine ⟨fun l hl => ⟨(h1 l hl).1, Nat.le_trans (h1 l hl).2 (a1 l hl).2⟩, fun l hl hr => ?_⟩
  by_cases q : D l < I
  · refine h2 l hl hl ?_
    rcases hD.2.2.2 l hl q with ⟨a, b⟩ | ⟨n, a, b, c⟩
    · exact Or.inl ⟨a, b⟩
    · have hw1 := hw l hl
      have := rh_lt (D := D) (n := n) (l := l) a (by omega)
      exact Or.inr ⟨n, a, b, c, a2 n a (by omega)⟩
  · have := h1 l hl
    have := a1 l hl
    omega
theorem EXA.done {D F : Nat → Nat} {I k : Nat} (h : EXA D F I k) (hk : 36 ≤ k) : ∀ l, l < 36 → F l = D l := fun l hl => h.2 l hl (by have := rh_36 (D := D) hl; omega)
theorem PSR.stop {E : Nat → Nat → Bool} {T : Nat → Bool} {w D F0 F : Nat → Nat} {I : Nat} (hD : SOL E T w I D) (hw : ∀ l, l < 36 → 1 ≤ w l) (h0 : ∀ l, l < 36 → F0 l ≤ I) (hp : PSR E T w D F0 36 F false) : ∀ l, l < 36 → F l = D l := by
  obtain ⟨h1, h2, h3, -⟩ := hp
  obtain ⟨c1, c2⟩ := h3 rfl
  have := hD.fix (F := F0) hw (fun l hl => ⟨by have := h1 l hl; omega, h0 l hl⟩) (fun l hl => c2 l hl hl)
  exact fun l hl => by rw [c1 l hl]; exact this l hl
theorem EXA.init {E : Nat → Nat → Bool} {T : Nat → Bool} {w D : Nat → Nat} {I : Nat} (hD : SOL E T w I D) : EXA D (fun _ => I) I 0 := ⟨fun l hl => ⟨hD.1 l hl, Nat.le_refl _⟩, fun _ _ h => absurd h (Nat.not_lt_zero _)⟩
-- the row
/-- the first of those that come next on a least walk -/
def nxP (E : Nat → Nat → Bool) (w D : Nat → Nat) (l n : Nat) : Bool := E l n && decide (D l = w l + D n)
/-- n is the first of p, below 36 -/
def FST (p : Nat → Bool) (n : Nat) : Prop := n < 36 ∧ p n = true ∧ ∀ i, i < n → p i = false
theorem FST.uniq {p : Nat → Bool} {n m : Nat} (h : FST p n) (h2 : FST p m) : n = m := by
  apply Nat.le_antisymm
  · apply Nat.le_of_not_lt
    intro q
    have := h.2.2 m q
    rw [h2.2.1] at this; cases this
  · apply Nat.le_of_not_lt
    intro q
    have := h2.2.2 n q
    rw [h.2.1] at this; cases this
theorem FST.ex {p : Nat → Bool} {n : Nat} (hn : n < 36) (h : p n = true) : ∃ m, FST p m := by
  obtain ⟨m, a, b, c⟩ := least_ex (P := fun i => p i = true) n h
  refine ⟨m, by omega, b, fun i hi => ?_⟩
  cases q : p i with
  | false => rfl
  | true => have := c i q; omega
/-- a least walk's row, L links behind the first -/
def ROWS (E : Nat → Nat → Bool) (T : Nat → Bool) (w D : Nat → Nat) (s L : Nat) (x : Nat → Nat) : Prop := x 0 = s ∧ (∀ k, k < L → T (x k) = false ∧ FST (nxP E w D (x k)) (x (k + 1))) ∧ T (x L) = true
theorem ROWS.uniq {E : Nat → Nat → Bool} {T : Nat → Bool} {w D : Nat → Nat} {s L M : Nat} {x y : Nat → Nat} (h : ROWS E T w D s L x) (h2 : ROWS E T w D s M y) : L = M ∧ ∀ k, k ≤ L → x k = y k := by
  have key : ∀ k, k ≤ L → k ≤ M → x k = y k := by
    intro k
    induction k with
    | zero => intro _ _; rw [h.1, h2.1]
    | succ k ih =>
      intro a b
      have e := ih (by omega) (by omega)
      have f1 := (h.2.1 k (by omega)).2
      have f2 := (h2.2.1 k (by omega)).2
      rw [e] at f1
      exact f1.uniq f2
  have hLM : L = M := by
    apply Nat.le_antisymm
    · apply Nat.le_of_not_lt
      intro q
      have e := key M (by omega) (Nat.le_refl _)
      have := (h.2.1 M q).1
      rw [e, h2.2.2] at this
      cases this
    · apply Nat.le_of_not_lt
      intro q
      have e := key L (Nat.le_refl _) (by omega)
      have := (h2.2.1 L q).1
      rw [← e, h.2.2] at this
      cases this
  exact ⟨hLM, fun k hk => key k hk (by omega)⟩
/-- a link on the way isn't the last: there is a next one, nearer -/
theorem SOL.nx {E : Nat → Nat → Bool} {T : Nat → Bool} {w D : Nat → Nat} {I l : Nat} (hD : SOL E T w I D) (hl : l < 36) (hlt : D l < I) (ht : T l = false) : ∃ n, FST (nxP E w D l) n := by
  rcases hD.2.2.2 l hl hlt with ⟨a, b⟩ | ⟨n, a, b, c⟩
  · rw [ht] at a; cases a
  · exact FST.ex a (by unfold nxP; rw [b, decide_eq_true c]; rfl)
theorem nx_lt {E : Nat → Nat → Bool} {w D : Nat → Nat} {l n : Nat} (h : nxP E w D l n = true) : E l n = true ∧ D l = w l + D n := by
  unfold nxP at h
  rw [Bool.and_eq_true] at h
  exact ⟨h.1, of_decide_eq_true h.2⟩
/-- along the row they come nearer: so it has at most 36 links -/
theorem row_rh {E : Nat → Nat → Bool} {w D : Nat → Nat} {I s : Nat} {x : Nat → Nat} (hw : ∀ l, l < 36 → 1 ≤ w l) (hs : s < 36) (hlt : D s < I) (h0 : x 0 = s) : ∀ L, (∀ k, k < L → FST (nxP E w D (x k)) (x (k + 1))) → x L < 36 ∧ D (x L) < I ∧ rhN D (x L) + L ≤ rhN D s := by
  intro L
  induction L with
  | zero => intro _; rw [h0]; exact ⟨hs, hlt, Nat.le_refl _⟩
  | succ L ih =>
    intro h
    obtain ⟨a, b, c⟩ := ih (fun k hk => h k (by omega))
    obtain ⟨p1, p2, p3⟩ := h L (by omega)
    obtain ⟨q1, q2⟩ := nx_lt p2
    have := hw _ a
    have := rh_lt (D := D) (n := x (L + 1)) (l := x L) p1 (by omega)
    exact ⟨p1, by omega, by omega⟩
