-- ===== links; the least ring as both find it =====
abbrev LKS : Type := Nat → Option (Nat × Nat × Nat)
def lkW (lk : LKS) (l : Nat) : Nat := match lk l with
  | some z => z.2.2 + 1
  | none => 1
def isL (lk : LKS) (l : Nat) : Bool := (lk l).isSome
/-- n can follow l -/
def fol (lk : LKS) (l n : Nat) : Bool := match lk l with
  | some z => isL lk n && decide (n / 6 = z.1) && decide (n % 6 ≠ z.2.1)
  | none => false
/-- the same among the links from f on, never back to f -/
def folM (lk : LKS) (f l n : Nat) : Bool := fol lk l n && decide (f ≤ l) && decide (f < n)
def endM (lk : LKS) (f l : Nat) : Bool := fol lk l f && decide (f ≤ l)
theorem fol_l {lk : LKS} {l n : Nat} (h : fol lk l n = true) : isL lk l = true ∧ isL lk n = true := by
  unfold fol at h
  unfold isL at *
  cases e : lk l with
  | none => rw [e] at h; cases h
  | some z =>
    rw [e] at h
    simp only [Bool.and_eq_true] at h
    exact ⟨rfl, h.1.1⟩
theorem fol_non {lk : LKS} {l n : Nat} (h : isL lk l = false) : fol lk l n = false := by
  cases e : fol lk l n with
  | false => rfl
  | true => rw [(fol_l e).1] at h; cases h
def SOLC (lk : LKS) (I g : Nat) (D : Nat → Nat) : Prop := SOL (fol lk) (fun l => fol lk l g) (lkW lk) I D
def SOLM (lk : LKS) (I f : Nat) (D : Nat → Nat) : Prop := SOL (folM lk f) (endM lk f) (lkW lk) I D
theorem lkW_1 (lk : LKS) (l : Nat) : 1 ≤ lkW lk l := by
  unfold lkW
  split <;> omega
/-- the model's walks are among the class's -/
theorem m_ge {lk : LKS} {I J f : Nat} {C M : Nat → Nat} (hf : f < 36) (hC : SOLC lk I f C) (hM : SOLM lk J f M) : ∀ s l, M l ≤ s → l < 36 → M l < J → C l ≤ M l := by
  intro s
  induction s with
  | zero =>
    intro l hs hl hlt
    have := lkW_1 lk l
    rcases hM.2.2.2 l hl hlt with ⟨a, b⟩ | ⟨n, a, b, c⟩ <;> omega
  | succ s ih =>
    intro l hs hl hlt
    have := lkW_1 lk l
    rcases hM.2.2.2 l hl hlt with ⟨a, b⟩ | ⟨n, a, b, c⟩
    · unfold endM at a
      rw [Bool.and_eq_true] at a
      rw [b]
      exact hC.2.1 l hl a.1
    · unfold folM at b
      rw [Bool.and_eq_true, Bool.and_eq_true] at b
      have h1 := hC.2.2.1 l n hl a b.1.1
      have h2 := ih n (by omega) a (by omega)
      omega
/-- from y by g on to l -/
theorem tri {lk : LKS} {I g l : Nat} {C D : Nat → Nat} (hg : g < 36) (hC : SOLC lk I g C) (hD : SOLC lk I l D) : ∀ s y, C y ≤ s → y < 36 → C y < I → D y ≤ C y + D g := by
  intro s
  induction s with
  | zero =>
    intro y hs hy hlt
    have := lkW_1 lk y
    rcases hC.2.2.2 y hy hlt with ⟨a, b⟩ | ⟨n, a, b, c⟩ <;> omega
  | succ s ih =>
    intro y hs hy hlt
    have := lkW_1 lk y
    rcases hC.2.2.2 y hy hlt with ⟨a, b⟩ | ⟨n, a, b, c⟩
    · have := hD.2.2.1 y g hy hg a
      omega
    · have h1 := hD.2.2.1 y n hy a b
      have h2 := ih n (by omega) a (by omega)
      omega
/-- l lies on a ring through g that sums to no more than m -/
def ONR (C : Nat → Nat → Nat) (g m l : Nat) : Prop := l = g ∨ C l g + C g l ≤ m
theorem ONR.next {lk : LKS} {I g m l n : Nat} {C : Nat → Nat → Nat} (hC : ∀ g, g < 36 → SOLC lk I g (C g)) (hm : C g g = m) (hg : g < 36) (hl : l < 36) (hn : n < 36) (h : ONR C g m l) (hlt : C g l < I) (hI : C l g < I ∨ l = g) (he : fol lk l n = true) (hd : C g l = lkW lk l + C g n) : ONR C g m n := by
  have h1 : C n l ≤ lkW lk l := (hC n hn).2.1 l hl he
  rcases h with rfl | h
  · right
    omega
  · rcases hI with hI | rfl
    · right
      have := tri hl (hC l hl) (hC n hn) (C l g) g (Nat.le_refl _) hg hI
      omega
    · right
      omega
/-- a link on the least ring has no lesser one, so it isn't before g -/
theorem ONR.ge {lk : LKS} {I g m l : Nat} {C : Nat → Nat → Nat} (hC : ∀ g, g < 36 → SOLC lk I g (C g)) (hmI : m < I) (hmin : ∀ f, f < 36 → C f f ≤ m → g ≤ f) (hg : g < 36) (hl : l < 36) (h : ONR C g m l) : g ≤ l ∧ (C l g < I ∨ l = g) := by
  rcases h with rfl | h
  · exact ⟨Nat.le_refl _, Or.inr rfl⟩
  · have := tri hg (hC g hg) (hC l hl) (C g l) l (Nat.le_refl _) hl (by omega)
    exact ⟨hmin l hl (by omega), Or.inl (by omega)⟩
/-- on the least ring the model's sums are the class's -/
theorem onr_eq {lk : LKS} {I J g m : Nat} {C : Nat → Nat → Nat} {M : Nat → Nat} (hC : ∀ g, g < 36 → SOLC lk I g (C g)) (hM : SOLM lk J g M) (hm : C g g = m) (hmI : m < I) (hmin : ∀ f, f < 36 → C f f ≤ m → g ≤ f) (hg : g < 36) : ∀ s l, C g l ≤ s → l < 36 → ONR C g m l → C g l < I → M l ≤ C g l := by
  intro s
  induction s with
  | zero =>
    intro l hs hl ho hlt
    have := lkW_1 lk l
    rcases (hC g hg).2.2.2 l hl hlt with ⟨a, b⟩ | ⟨n, a, b, c⟩ <;> omega
  | succ s ih =>
    intro l hs hl ho hlt
    have hw := lkW_1 lk l
    obtain ⟨hge, hI⟩ := ho.ge hC hmI hmin hg hl
    rcases (hC g hg).2.2.2 l hl hlt with ⟨a, b⟩ | ⟨n, a, b, c⟩
    · rw [b]
      exact hM.2.1 l hl (by unfold endM; rw [decide_eq_true hge, Bool.and_true]; exact a)
    · have hon := ho.next hC hm hg hl a hlt hI b c
      obtain ⟨hgn, hIn⟩ := hon.ge hC hmI hmin hg a
      by_cases q : n = g
      · subst q
        have : C n l ≤ lkW lk l := (hC n hg).2.1 l hl b
        have h0 := hC n hg
        have : 1 ≤ C n n := by
          have := lkW_1 lk n
          rcases h0.2.2.2 n hg (by omega) with ⟨x, y⟩ | ⟨z, x, y, u⟩ <;> omega
        omega
      · have := ih n (by omega) a hon (by omega)
        have h2 := hM.2.2.1 l n hl a (by unfold folM; rw [decide_eq_true hge, decide_eq_true (show g < n by omega), Bool.and_true, Bool.and_true]; exact b)
        omega
theorem endM_eq {lk : LKS} {g l : Nat} (h : g ≤ l) : endM lk g l = fol lk l g := by unfold endM; rw [decide_eq_true h, Bool.and_true]
/-- the rows are the same -/
theorem row_same {lk : LKS} {I J g m L : Nat} {C : Nat → Nat → Nat} {M : Nat → Nat} {x : Nat → Nat} (hIJ : J ≤ I) (hC : ∀ g, g < 36 → SOLC lk I g (C g)) (hM : SOLM lk J g M) (hm : C g g = m) (hmJ : m < J) (hmin : ∀ f, f < 36 → C f f ≤ m → g ≤ f) (hg : g < 36) (h : ROWS (fol lk) (fun l => fol lk l g) (lkW lk) (C g) g L x) : ROWS (folM lk g) (endM lk g) (lkW lk) M g L x := by
  obtain ⟨h0, h1, h2⟩ := h
  have on : ∀ k, k ≤ L → x k < 36 ∧ ONR C g m (x k) ∧ C g (x k) ≤ m := by
    intro k
    induction k with
    | zero => intro _; rw [h0]; exact ⟨hg, Or.inl rfl, by omega⟩
    | succ k ih =>
      intro hk
      obtain ⟨a, b, c⟩ := ih (by omega)
      obtain ⟨-, f1, f2, f3⟩ := h1 k (by omega)
      obtain ⟨q1, q2⟩ := nx_lt f2
      have := b.ge hC (show m < I by omega) hmin hg a
      exact ⟨f1, b.next hC hm hg a f1 (by omega) this.2 q1 q2, by omega⟩
  have eqD : ∀ k, k ≤ L → M (x k) = C g (x k) := fun k hk => by
    obtain ⟨a, b, c⟩ := on k hk
    have u1 := onr_eq hC hM hm (show m < I by omega) hmin hg (C g (x k)) (x k) (Nat.le_refl _) a b (by omega)
    have u2 := m_ge hg (hC g hg) hM (M (x k)) (x k) (Nat.le_refl _) a (by omega)
    omega
  refine ⟨h0, fun k hk => ?_, ?_⟩
  · obtain ⟨a, b, c⟩ := on k (by omega)
    obtain ⟨hge, hI⟩ := b.ge hC (show m < I by omega) hmin hg a
    obtain ⟨ht, f1, f2, f3⟩ := h1 k hk
    refine ⟨by rw [endM_eq hge]; exact ht, f1, ?_, fun i hi => ?_⟩
    · obtain ⟨q1, q2⟩ := nx_lt f2
      obtain ⟨a', b', c'⟩ := on (k + 1) (by omega)
      obtain ⟨hge', -⟩ := b'.ge hC (show m < I by omega) hmin hg a'
      have hne : x (k + 1) ≠ g := fun e => by
        rw [e] at q1
        have ht' : fol lk (x k) g = false := ht
        rw [q1] at ht'; cases ht'
      unfold nxP folM
      rw [q1, decide_eq_true hge, decide_eq_true (show g < x (k + 1) by omega), decide_eq_true (by rw [eqD k (by omega), eqD (k + 1) (by omega)]; exact q2)]
      rfl
    · cases e : nxP (folM lk g) (lkW lk) M (x k) i with
      | false => rfl
      | true =>
        obtain ⟨q1, q2⟩ := nx_lt e
        unfold folM at q1
        rw [Bool.and_eq_true, Bool.and_eq_true] at q1
        have := f3 i hi
        have hx := eqD k (by omega)
        have u2 := m_ge hg (hC g hg) hM (M i) i (Nat.le_refl _) (by omega) (by omega)
        have u3 := (hC g hg).2.2.1 (x k) i a (by omega) q1.1.1
        unfold nxP at this
        rw [q1.1.1, decide_eq_true (by omega)] at this
        cases this
  · obtain ⟨a, b, c⟩ := on L (Nat.le_refl _)
    obtain ⟨hge, hI⟩ := b.ge hC (show m < I by omega) hmin hg a
    rw [endM_eq hge]
    exact h2
/-- the least ring: the first link of it, what it fills with -/
def BRG (lk : LKS) (D : Nat → Nat → Nat) (I g m : Nat) : Prop := g < 36 ∧ isL lk g = true ∧ D g g = m ∧ m < I ∧ (∀ f, f < 36 → isL lk f = true → m ≤ D f f) ∧ ∀ f, f < g → isL lk f = true → m < D f f
theorem BRG.uniq {lk : LKS} {D : Nat → Nat → Nat} {I g m g' m' : Nat} (h : BRG lk D I g m) (h' : BRG lk D I g' m') : g = g' ∧ m = m' := by
  obtain ⟨a1, a2, a3, a4, a5, a6⟩ := h
  obtain ⟨b1, b2, b3, b4, b5, b6⟩ := h'
  have x1 := a5 g' b1 b2
  have x2 := b5 g a1 a2
  have hg : g = g' := by
    apply Nat.le_antisymm
    · apply Nat.le_of_not_lt
      intro q
      have := a6 g' q b2; omega
    · apply Nat.le_of_not_lt
      intro q
      have := b6 g q a2; omega
  exact ⟨hg, by rw [← a3, ← b3, hg]⟩
theorem nolink {lk : LKS} {I g : Nat} {C : Nat → Nat} (hC : SOLC lk I g C) (hg : g < 36) (hn : isL lk g = false) : ∀ l, l < 36 → ¬ C l < I := by
  have key : ∀ s l, C l ≤ s → l < 36 → ¬ C l < I := by
    intro s
    induction s with
    | zero =>
      intro l hs hl hlt
      have := lkW_1 lk l
      rcases hC.2.2.2 l hl hlt with ⟨a, b⟩ | ⟨n, a, b, c⟩ <;> omega
    | succ s ih =>
      intro l hs hl hlt
      have := lkW_1 lk l
      rcases hC.2.2.2 l hl hlt with ⟨a, b⟩ | ⟨n, a, b, c⟩
      · rw [(fol_l a).2] at hn; cases hn
      · exact ih n (by omega) a (by omega)
  exact fun l hl => key (C l) l (Nat.le_refl _) hl
theorem best_same {lk : LKS} {I J g m : Nat} {C M : Nat → Nat → Nat} (hIJ : J ≤ I) (hC : ∀ g, g < 36 → SOLC lk I g (C g)) (hM : ∀ g, g < 36 → SOLM lk J g (M g)) (hJ : m < J) (h : BRG lk C I g m) : BRG lk M J g m := by
  obtain ⟨a1, a2, a3, a4, a5, a6⟩ := h
  have hmin : ∀ f, f < 36 → C f f ≤ m → g ≤ f := fun f hf hle => by
    apply Nat.le_of_not_lt
    intro q
    cases e : isL lk f with
    | true => have := a6 f q e; omega
    | false => exact nolink (hC f hf) hf e f hf (by omega)
  have low : ∀ f, f < 36 → isL lk f = true → m ≤ M f f := fun f hf hl => by
    by_cases q : M f f < J
    · have := m_ge hf (hC f hf) (hM f hf) (M f f) f (Nat.le_refl _) hf q
      have := a5 f hf hl
      omega
    · omega
  have up := onr_eq hC (hM g a1) a3 (show m < I by omega) hmin a1 (C g g) g (Nat.le_refl _) a1 (Or.inl rfl) (by omega)
  refine ⟨a1, a2, ?_, hJ, low, fun f hf hl => ?_⟩
  · have := low g a1 a2
    omega
  · by_cases q : M f f < J
    · have := m_ge (by omega) (hC f (by omega)) (hM f (by omega)) (M f f) f (Nat.le_refl _) (by omega) q
      have := a6 f hf hl
      omega
    · omega
theorem none_same {lk : LKS} {I J : Nat} {C M : Nat → Nat → Nat} (hC : ∀ g, g < 36 → SOLC lk I g (C g)) (hM : ∀ g, g < 36 → SOLM lk J g (M g)) (hIb : ∀ g, g < 36 → M g g < J → M g g < I) (h : ∀ f, f < 36 → isL lk f = true → I ≤ C f f) : ∀ f, f < 36 → isL lk f = true → J ≤ M f f := fun f hf hl => by
  apply Nat.le_of_not_lt
  intro q
  have := m_ge hf (hC f hf) (hM f hf) (M f f) f (Nat.le_refl _) hf q
  have := h f hf hl
  have := hIb f hf q
  omega
