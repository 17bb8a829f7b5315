-- ===== tokens =====
def stp (f : Nat → Bool) (t : Nat → Nat) : Nat → Nat → Nat
  | 0, p => p
  | n + 1, p => if f (t p) = true then stp f t n (p + 1) else p
/-- the first place from p on where f is no more, or the end -/
def stE (f : Nat → Bool) (t : Nat → Nat) (L p : Nat) : Nat := stp f t (L - p) p
theorem stp_prop (f : Nat → Bool) (t : Nat → Nat) : ∀ n p, p ≤ stp f t n p ∧ stp f t n p ≤ p + n ∧ (∀ i, p ≤ i → i < stp f t n p → f (t i) = true) ∧ (stp f t n p < p + n → f (t (stp f t n p)) = false) := by
  intro n
  induction n with
  | zero => intro p; exact ⟨Nat.le_refl _, Nat.le_refl _, fun i h1 h2 => absurd h2 (Nat.not_lt.mpr h1), fun h => absurd h (Nat.lt_irrefl _)⟩
  | succ n ih =>
    intro p
    by_cases h : f (t p) = true
    · have e : stp f t (n + 1) p = stp f t n (p + 1) := if_pos h
      obtain ⟨a, b, c, d⟩ := ih (p + 1)
      rw [e]
      refine ⟨by omega, by omega, fun i h1 h2 => ?_, fun hlt => d (by omega)⟩
      by_cases q : i = p
      · rw [q]; exact h
      · exact c i (by omega) h2
    · have e : stp f t (n + 1) p = p := if_neg h
      rw [e]
      exact ⟨Nat.le_refl _, by omega, fun i h1 h2 => absurd h2 (Nat.not_lt.mpr h1), fun _ => Bool.eq_false_iff.mpr h⟩
theorem stE_prop (f : Nat → Bool) (t : Nat → Nat) {L p : Nat} (hp' : p ≤ L) : p ≤ stE f t L p ∧ stE f t L p ≤ L ∧ (∀ i, p ≤ i → i < stE f t L p → f (t i) = true) ∧ (stE f t L p < L → f (t (stE f t L p)) = false) := by
  obtain ⟨a, b, c, d⟩ := stp_prop f t (L - p) p
  exact ⟨a, by unfold stE; omega, c, fun h => d (by unfold stE at h; omega)⟩
def blB (c : Nat) : Bool := decide (c = 32 ∨ c = 10)
def leB (c : Nat) : Bool := decide ((97 ≤ c ∧ c ≤ 122) ∨ (65 ≤ c ∧ c ≤ 90))
def diB (c : Nat) : Bool := decide (48 ≤ c ∧ c ≤ 57)
/-- the keywords: how long, their signs -/
def kwN (i : Nat) : Nat := [5, 4, 4, 5, 4, 5, 4, 5, 5, 6, 4, 5, 4, 5, 5, 5, 4, 2, 4, 2, 3, 3].getD i 0
def kwI (i j : Nat) : Int32 := chI 0 (6 * i + j)
/-- is the word from q on, n long, the i-th -/
def kwB (t : Nat → Nat) (q n i : Nat) : Bool := decide (kwN i = n) && decide (∀ j, j < n → nI (t (q + j)) = kwI i j)
def kwF (t : Nat → Nat) (q n : Nat) : Nat → Nat → Nat
  | 0, _ => 34
  | k + 1, i => if kwB t q n i = true then i else kwF t q n k (i + 1)
def kwC (t : Nat → Nat) (q n : Nat) : Nat := kwF t q n 22 0
theorem kwF_cases (t : Nat → Nat) (q n : Nat) : ∀ k i, (kwF t q n k i = 34 ∧ ∀ j, i ≤ j → j < i + k → kwB t q n j = false) ∨ ∃ j, i ≤ j ∧ j < i + k ∧ kwF t q n k i = j ∧ kwB t q n j = true ∧ ∀ l, i ≤ l → l < j → kwB t q n l = false := by
  intro k
  induction k with
  | zero => intro i; exact Or.inl ⟨rfl, fun j h1 h2 => by omega⟩
  | succ k ih =>
    intro i
    by_cases h : kwB t q n i = true
    · exact Or.inr ⟨i, Nat.le_refl _, by omega, if_pos h, h, fun l h1 h2 => by omega⟩
    · have e : kwF t q n (k + 1) i = kwF t q n k (i + 1) := if_neg h
      rw [e]
      rcases ih (i + 1) with ⟨a, b⟩ | ⟨j, a, b, c, d, f⟩
      · exact Or.inl ⟨a, fun j h1 h2 => by
          by_cases w : j = i
          · rw [w]; exact Bool.eq_false_iff.mpr h
          · exact b j (by omega) (by omega)⟩
      · exact Or.inr ⟨j, by omega, by omega, c, d, fun l h1 h2 => by
          by_cases w : l = i
          · rw [w]; exact Bool.eq_false_iff.mpr h
          · exact f l (by omega) h2⟩
def numV (t : Nat → Nat) (q : Nat) : Nat → Nat
  | 0 => 0
  | k + 1 => 10 * numV t q k + (t (q + k) - 48)
/-- the token that begins at q: its code (the class's), its end -/
def lxK (t : Nat → Nat) (L q : Nat) : Nat := if L ≤ q then 33 else if leB (t q) = true then kwC t q (stE leB t L q - q) else if diB (t q) = true then (if stE diB t L q - q ≤ 4 then 32 else 34) else mkC (t q)
def lxE (t : Nat → Nat) (L q : Nat) : Nat := if L ≤ q then q else if leB (t q) = true then stE leB t L q else if diB (t q) = true then stE diB t L q else q + 1
def lxV (t : Nat → Nat) (L q : Nat) : Nat := numV t q (stE diB t L q - q)
/-- the model's code of a token -/
def mTk (k : Nat) : Nat := if k < 16 then 41 + k else [20, 21, 3, 4, 5, 6, 159, 143, 145, 142, 147, 140, 141, 160, 161, 162, 2, 0, 1].getD (k - 16) 1
theorem kw_tab : (List.range 22).all (fun i => decide (kwN i ≤ 6) && (List.range 6).all (fun j => if j < kwN i then decide (¬ chI 0 (6 * i + j) = nI 32) else decide (chI 0 (6 * i + j) = nI 32))) = true := by decide +kernel
theorem kw_t {i : Nat} (hi : i < 22) : kwN i ≤ 6 ∧ ∀ j, j < 6 → (j < kwN i → ¬ chI 0 (6 * i + j) = nI 32) ∧ (¬ j < kwN i → chI 0 (6 * i + j) = nI 32) := by
  have h := kw_tab
  rw [List.all_eq_true] at h
  have h1 := h i (List.mem_range.mpr hi)
  rw [Bool.and_eq_true, List.all_eq_true] at h1
  refine ⟨of_decide_eq_true h1.1, fun j hj => ?_⟩
  have h2 := h1.2 j (List.mem_range.mpr hj)
  refine ⟨fun c => ?_, fun c => ?_⟩
  · rw [if_pos c] at h2; exact of_decide_eq_true h2
  · rw [if_neg c] at h2; exact of_decide_eq_true h2
/-- the tape's cells -/
def TPC (g : GG) (t : Nat → Nat) (L : Nat) : Prop := L ≤ 400 ∧ g 158 1 = nI L ∧ ∀ i, i < L → g 159 i = nI (t i) ∧ t i < 256
theorem c_isLetter (c : Nat) (hc : c < 256) (h : HP) : f_X5_isLetter [.int (nI c)] h = some (some (.int (bW (leB c))), h) := by
  unfold leB
  by_cases a : 97 ≤ c
  · have a' : (c < 97) = False := eq_false (by omega)
    by_cases b : c ≤ 122
    · have b' : (c ≤ 122) = True := eq_true b
      rw [decide_eq_true (Or.inl ⟨a, b⟩)]
      simp (disch := first | assumption | omega) only [f_X5_isLetter, kb_X5_isLetter_29, kb_X5_isLetter_28, kb_X5_isLetter_24, kb_X5_isLetter_12, kb_X5_isLetter_0, KL, KB, KC, KI, KJ, KZ, bI_0, bI_n, nI00, nI10, ne_eq, Classical.not_not, not_true_eq_false, not_false_eq_true, if_true, if_false, ite_not, ite_self, Bool.false_eq_true, nIne1, nIlt, nIle, a', b', bW_t]
    · have b' : (c ≤ 122) = False := eq_false b
      have c' : (c < 65) = False := eq_false (by omega)
      have d' : (90 < c) = True := eq_true (by omega)
      rw [decide_eq_false (by omega)]
      simp (disch := first | assumption | omega) only [f_X5_isLetter, kb_X5_isLetter_29, kb_X5_isLetter_28, kb_X5_isLetter_24, kb_X5_isLetter_12, kb_X5_isLetter_0, KL, KB, KC, KI, KJ, KZ, bI_0, bI_n, nI00, nI10, ne_eq, Classical.not_not, not_true_eq_false, not_false_eq_true, if_true, if_false, ite_not, ite_self, Bool.false_eq_true, nIne1, nIlt, nIle, a', b', c', d', bW_f]
  · have a' : (c < 97) = True := eq_true (by omega)
    by_cases b : 65 ≤ c
    · have b' : (c < 65) = False := eq_false (by omega)
      by_cases d : c ≤ 90
      · have d' : (90 < c) = False := eq_false (by omega)
        rw [decide_eq_true (Or.inr ⟨b, d⟩)]
        simp (disch := first | assumption | omega) only [f_X5_isLetter, kb_X5_isLetter_29, kb_X5_isLetter_28, kb_X5_isLetter_24, kb_X5_isLetter_12, kb_X5_isLetter_0, KL, KB, KC, KI, KJ, KZ, bI_0, bI_n, nI00, nI10, ne_eq, Classical.not_not, not_true_eq_false, not_false_eq_true, if_true, if_false, ite_not, ite_self, Bool.false_eq_true, nIne1, nIlt, a', b', d', bW_t]
      · have d' : (90 < c) = True := eq_true (by omega)
        rw [decide_eq_false (by omega)]
        simp (disch := first | assumption | omega) only [f_X5_isLetter, kb_X5_isLetter_29, kb_X5_isLetter_28, kb_X5_isLetter_24, kb_X5_isLetter_12, kb_X5_isLetter_0, KL, KB, KC, KI, KJ, KZ, bI_0, bI_n, nI00, nI10, ne_eq, Classical.not_not, not_true_eq_false, not_false_eq_true, if_true, if_false, ite_not, ite_self, Bool.false_eq_true, nIne1, nIlt, a', b', d', bW_f]
    · have b' : (c < 65) = True := eq_true (by omega)
      rw [decide_eq_false (by omega)]
      simp (disch := first | assumption | omega) only [f_X5_isLetter, kb_X5_isLetter_29, kb_X5_isLetter_28, kb_X5_isLetter_24, kb_X5_isLetter_12, kb_X5_isLetter_0, KL, KB, KC, KI, KJ, KZ, bI_0, bI_n, nI00, nI10, ne_eq, Classical.not_not, not_true_eq_false, not_false_eq_true, if_true, if_false, ite_not, ite_self, Bool.false_eq_true, nIne1, nIlt, a', b', bW_f]
theorem c_isDigit (c : Nat) (hc : c < 256) (h : HP) : f_X5_isDigit [.int (nI c)] h = some (some (.int (bW (diB c))), h) := by
  unfold diB
  by_cases a : 48 ≤ c
  · have a' : (c < 48) = False := eq_false (by omega)
    by_cases b : c ≤ 57
    · have b' : (57 < c) = False := eq_false (by omega)
      rw [decide_eq_true ⟨a, b⟩]
      simp (disch := first | assumption | omega) only [f_X5_isDigit, kb_X5_isDigit_17, kb_X5_isDigit_16, kb_X5_isDigit_0, KL, KB, KC, KI, KJ, KZ, bI_0, bI_n, nI00, nI10, ne_eq, Classical.not_not, not_true_eq_false, not_false_eq_true, if_true, if_false, ite_not, ite_self, Bool.false_eq_true, nIne1, nIlt, a', b', bW_t]
    · have b' : (57 < c) = True := eq_true (by omega)
      rw [decide_eq_false (by omega)]
      simp (disch := first | assumption | omega) only [f_X5_isDigit, kb_X5_isDigit_17, kb_X5_isDigit_16, kb_X5_isDigit_0, KL, KB, KC, KI, KJ, KZ, bI_0, bI_n, nI00, nI10, ne_eq, Classical.not_not, not_true_eq_false, not_false_eq_true, if_true, if_false, ite_not, ite_self, Bool.false_eq_true, nIne1, nIlt, a', b', bW_f]
  · have a' : (c < 48) = True := eq_true (by omega)
    rw [decide_eq_false (by omega)]
    simp (disch := first | assumption | omega) only [f_X5_isDigit, kb_X5_isDigit_17, kb_X5_isDigit_16, kb_X5_isDigit_0, KL, KB, KC, KI, KJ, KZ, bI_0, bI_n, nI00, nI10, ne_eq, Classical.not_not, not_true_eq_false, not_false_eq_true, if_true, if_false, ite_not, ite_self, Bool.false_eq_true, nIne1, nIlt, a', bW_f]
theorem c_isKeyword {g : GG} {m o q e i L : Nat} {t : Nat → Nat} (hT : TPC g t L) (h11 : g 158 11 = nI e) (h13 : g 158 13 = nI q) (hqe : q ≤ e) (heL : e ≤ L) (hn : e - q ≤ 6) (hi : i < 22) (hle : ∀ j, q ≤ j → j < e → leB (t j) = true) : f_X5_isKeyword [.ref 158, .int (nI (i * 6))] (hp g m o) = some (some (.int (bW (kwB t q (e - q) i))), hp g m o) := by
  obtain ⟨hL, hl1, htp⟩ := hT
  obtain ⟨k6, kt⟩ := kw_t hi
  -- the sign at j, blank behind the word
  have hsg : ∀ j, q + j < e → ¬ nI (t (q + j)) = nI 32 := fun j hj hq => by
    have := of_decide_eq_true (hle (q + j) (by omega) hj)
    rw [nIeq (by have := (htp (q + j) (by omega)).2; omega) (by omega)] at hq
    omega
  have hiff : (∀ j, j < 6 → chI 0 (6 * i + j) = if q + j < e then nI (t (q + j)) else nI 32) ↔ kwB t q (e - q) i = true := by
    unfold kwB
    rw [Bool.and_eq_true, decide_eq_true_eq, decide_eq_true_eq]
    constructor
    · intro h
      have hlen : kwN i = e - q := by
        apply Nat.le_antisymm
        · apply Nat.le_of_not_lt
          intro w
          have := h (e - q) (by omega)
          rw [if_neg (by omega)] at this
          exact (kt (e - q) (by omega)).1 w this
        · apply Nat.le_of_not_lt
          intro w
          have := h (kwN i) (by omega)
          rw [if_pos (by omega), (kt (kwN i) (by omega)).2 (by omega)] at this
          exact hsg _ (by omega) this.symm
      refine ⟨hlen, fun j hj => ?_⟩
      have := h j (by omega)
      rw [if_pos (by omega)] at this
      exact this.symm
    · rintro ⟨h1, h2⟩ j hj
      by_cases w : q + j < e
      · rw [if_pos w]; exact (h2 j (by omega)).symm
      · rw [if_neg w]; exact (kt j hj).2 (by omega)
  have key : kl_X5_isKeyword_2 [.ref 158, .int (nI (i * 6)), .int (nI 0)] [] (hp g m o) = some (some (.int (bW (kwB t q (e - q) i))), hp g m o) := by
    unfold kl_X5_isKeyword_2
    refine kFor 6 (by unfold FU; omega) (fun j ls h => ∃ u : List Value, ls = [.ref 158, .int (nI (i * 6)), .int (nI j)] ++ u ∧ h = hp g m o ∧ ∀ l, l < j → chI 0 (6 * i + l) = if q + l < e then nI (t (q + l)) else nI 32) (fun r => r = some (some (.int (bW (kwB t q (e - q) i))), hp g m o)) ?_ ?_ 0 _ _ (by omega) ⟨[], rfl, rfl, fun l hl => absurd hl (Nat.not_lt_zero _)⟩
    · rintro s ls h ⟨u, rfl, rfl, h1⟩
      have hin : (6 ≤ 6) = True := eq_true (by omega)
      rw [hiff.mp h1]
      simp (disch := first | assumption | omega) only [KL, KB, KC, KI, KJ, KZ, bI_0, bI_n, nI00, nI10, ne_eq, Classical.not_not, not_true_eq_false, not_false_eq_true, if_true, if_false, ite_not, ite_self, Bool.false_eq_true, nIne1, List.cons_append, List.nil_append, kMask, mask, mask_n, nIle, hin, bW_t]
    · rintro s j hj ih ls h ⟨u, rfl, rfl, h1⟩
      have hin : (6 ≤ j) = False := eq_false (by omega)
      have hl132 : i * 6 + j < SRn.getD 0 0 := by show i * 6 + j < 132; omega
      have hch := fun h => s_charAt (i := 0) (j := i * 6 + j) (by decide) hl132 h
      rw [show i * 6 + j = 6 * i + j by omega] at hch
      have hix : nI (i * 6) + nI j = nI (6 * i + j) := by rw [nI_add]; congr 1; omega
      have rc := fun (k : KK) (ls st : List Value) (h : HP) (v : Value) => S_rc1 (i := 0) (by decide) k ls st h v
      have step : ∀ (v : Int32), v = (if q + j < e then nI (t (q + j)) else nI 32) → kb_X5_isKeyword_37 s [.ref 158, .int (nI (i * 6)), .int (nI j)] [.int v] (hp g m o) = some (some (.int (bW (kwB t q (e - q) i))), hp g m o) := by
        intro v hv
        by_cases c : chI 0 (6 * i + j) = v
        · have c' : (chI 0 (6 * i + j) = v) = True := eq_true c
          simp (disch := first | assumption | omega) only [kb_X5_isKeyword_37, KL, KB, KC, KI, KJ, KZ, bI_0, bI_n, nI00, nI10, ne_eq, Classical.not_not, not_true_eq_false, not_false_eq_true, if_true, if_false, ite_not, ite_self, Bool.false_eq_true, nIne1, S_str, hix, rc, hch, c', nI_add]
          exact ih _ _ ⟨[.int v], rfl, rfl, fun l hl => by
            by_cases w : l = j
            · rw [w, c, hv]
            · exact h1 l (by omega)⟩
        · have c' : (chI 0 (6 * i + j) = v) = False := eq_false c
          have hno : kwB t q (e - q) i = false := by
            cases hk : kwB t q (e - q) i with
            | false => rfl
            | true => exact (c (by rw [hv]; exact hiff.mpr hk j hj)).elim
          rw [hno]
          simp (disch := first | assumption | omega) only [kb_X5_isKeyword_37, KL, KB, KC, KI, KJ, KZ, bI_0, bI_n, nI00, nI10, ne_eq, Classical.not_not, not_true_eq_false, not_false_eq_true, if_true, if_false, ite_not, ite_self, Bool.false_eq_true, nIne1, S_str, hix, rc, hch, c', bW_f]
      by_cases c : q + j < e
      · have c' : (e ≤ q + j) = False := eq_false (by omega)
        have q400 : q + j < 400 := by omega
        have ht := (htp (q + j) (by omega)).1
        have := step (nI (t (q + j))) (by rw [if_pos c])
        simp (disch := first | assumption | omega) only [KL, KB, KC, KI, KJ, KZ, bI_0, bI_n, nI00, nI10, ne_eq, Classical.not_not, not_true_eq_false, not_false_eq_true, if_true, if_false, ite_not, ite_self, Bool.false_eq_true, nIne1, List.cons_append, List.nil_append, kMask, mask, mask_n, O_rd, AR, nIle, hin, h11, h13, nI_add, c', ht]
        exact this
      · have c' : (e ≤ q + j) = True := eq_true (by omega)
        have := step (nI 32) (by rw [if_neg c])
        simp (disch := first | assumption | omega) only [KL, KB, KC, KI, KJ, KZ, bI_0, bI_n, nI00, nI10, ne_eq, Classical.not_not, not_true_eq_false, not_false_eq_true, if_true, if_false, ite_not, ite_self, Bool.false_eq_true, nIne1, List.cons_append, List.nil_append, kMask, mask, mask_n, O_rd, AR, nIle, hin, h11, h13, nI_add, c']
        exact this
  rw [← key]
  simp (disch := first | assumption | omega) only [f_X5_isKeyword, kb_X5_isKeyword_0, KL, KB, KC, KI, KJ, KZ, bI_0, bI_n, nI00, nI10, ne_eq, Classical.not_not, not_true_eq_false, not_false_eq_true, if_true, if_false, ite_not, ite_self, Bool.false_eq_true, nIne1]
theorem c_keyword {g : GG} {m o q e L : Nat} {t : Nat → Nat} (hT : TPC g t L) (h11 : g 158 11 = nI e) (h13 : g 158 13 = nI q) (hqe : q ≤ e) (heL : e ≤ L) (hle : ∀ j, q ≤ j → j < e → leB (t j) = true) : f_X5_keyword [.ref 158] (hp g m o) = some (some (.int (nI (kwC t q (e - q)))), hp g m o) := by
  have hL := hT.1
  by_cases hn : e - q ≤ 6
  · have hn' : (6 < e - q) = False := eq_false (by omega)
    have key : kl_X5_keyword_16 [.ref 158, .int (nI 0)] [] (hp g m o) = some (some (.int (nI (kwC t q (e - q)))), hp g m o) := by
      unfold kl_X5_keyword_16
      refine kFor 22 (by unfold FU; omega) (fun i ls h => ls = [.ref 158, .int (nI i)] ∧ h = hp g m o ∧ i ≤ 22 ∧ kwC t q (e - q) = kwF t q (e - q) (22 - i) i) (fun r => r = some (some (.int (nI (kwC t q (e - q)))), hp g m o)) ?_ ?_ 0 _ _ (by omega) ⟨rfl, rfl, by omega, rfl⟩
      · rintro s ls h ⟨rfl, rfl, -, h1⟩
        have hin : (22 ≤ 22) = True := eq_true (by omega)
        rw [h1]
        simp (disch := first | assumption | omega) only [kb_X5_keyword_41, KL, KB, KC, KI, KJ, KZ, bI_0, bI_n, nI00, nI10, ne_eq, Classical.not_not, not_true_eq_false, not_false_eq_true, if_true, if_false, ite_not, ite_self, Bool.false_eq_true, nIne1, kMask, mask, mask_n, nIle, hin]
        rfl
      · rintro s i hi ih ls h ⟨rfl, rfl, -, h1⟩
        have hin : (22 ≤ i) = False := eq_false (by omega)
        have ek := c_isKeyword (m := m) (o := o) hT h11 h13 hqe heL hn hi hle
        have hs : kwF t q (e - q) (22 - i) i = if kwB t q (e - q) i = true then i else kwF t q (e - q) (22 - (i + 1)) (i + 1) := by
          rw [show 22 - i = (22 - (i + 1)) + 1 by omega]; rfl
        cases hb : kwB t q (e - q) i with
        | true =>
          rw [hb] at ek
          rw [hb, if_pos rfl] at hs
          have zt : (bW true = 0) = False := eq_false (by decide)
          rw [h1, hs]
          simp (disch := first | assumption | omega) only [kb_X5_keyword_41, KL, KB, KC, KI, KJ, KZ, bI_0, bI_n, nI00, nI10, ne_eq, Classical.not_not, not_true_eq_false, not_false_eq_true, if_true, if_false, ite_not, ite_self, Bool.false_eq_true, nIne1, kMask, mask, mask_n, O_rd, nIle, hin, nI_mul, ek, zt]
        | false =>
          rw [hb] at ek
          rw [hb, if_neg (by decide)] at hs
          have zf : (bW false = 0) = True := eq_true rfl
          simp (disch := first | assumption | omega) only [kb_X5_keyword_41, KL, KB, KC, KI, KJ, KZ, bI_0, bI_n, nI00, nI10, ne_eq, Classical.not_not, not_true_eq_false, not_false_eq_true, if_true, if_false, ite_not, ite_self, Bool.false_eq_true, nIne1, kMask, mask, mask_n, O_rd, nIle, hin, nI_mul, ek, zf, nI_add]
          exact ih _ _ ⟨rfl, rfl, by omega, by rw [h1, hs]⟩
    rw [← key]
    simp (disch := first | assumption | omega) only [f_X5_keyword, kb_X5_keyword_0, KL, KB, KC, KI, KJ, KZ, bI_0, bI_n, nI00, nI10, ne_eq, Classical.not_not, not_true_eq_false, not_false_eq_true, if_true, if_false, ite_not, ite_self, Bool.false_eq_true, nIne1, O_rd, h11, h13, nI_sub, nIlt, hn']
  · have hn' : (6 < e - q) = True := eq_true (by omega)
    have hk : kwC t q (e - q) = 34 := by
      rcases kwF_cases t q (e - q) 22 0 with ⟨a, -⟩ | ⟨j, a, b, c, d, f⟩
      · exact a
      · unfold kwB at d
        rw [Bool.and_eq_true] at d
        have h1 := of_decide_eq_true d.1
        have h2 := (kw_t (show j < 22 by omega)).1
        omega
    rw [hk]
    simp (disch := first | assumption | omega) only [f_X5_keyword, kb_X5_keyword_0, kb_X5_keyword_41, KL, KB, KC, KI, KJ, KZ, bI_0, bI_n, nI00, nI10, ne_eq, Classical.not_not, not_true_eq_false, not_false_eq_true, if_true, if_false, ite_not, ite_self, Bool.false_eq_true, nIne1, O_rd, h11, h13, nI_sub, nIlt, hn']
