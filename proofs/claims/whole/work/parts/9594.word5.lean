-- ===== shortest =====
/-- the wordings that are sound for the set -/
def okS (G : Nat → Nat → Bool) (S w : Nat) : Bool := bwW 1 288 w && allG G S w 6
def cntF (p : Nat → Bool) (lo hi : Nat) : Nat := sumN (fun w => bN (decide (lo ≤ w) && p w)) hi
theorem c_leastSound {p : Nat → Bool} {g : GG} {m o : Nat} (h : ∀ w, w < 289 → g 171 w = bW (p w)) : f_X0_leastSound [.ref 164] (hp g m o) = some (some (.int (firstJ p 289 0)), hp g m o) := by
  have key : kl_X0_leastSound_2 [.ref 164, .int (nI 0)] [] (hp g m o) = some (some (.int (firstJ p 289 0)), hp g m o) := by
    unfold kl_X0_leastSound_2
    refine kFor 289 (by unfold FU; omega) (fun i ls h => ls = [.ref 164, .int (nI i)] ∧ h = hp g m o ∧ i ≤ 289 ∧ firstJ p 289 0 = firstJ p (289 - i) i) (fun r => r = some (some (.int (firstJ p 289 0)), hp g m o)) ?_ ?_ 0 _ _ (by omega) ⟨rfl, rfl, by omega, rfl⟩
    · rintro s0 ls h ⟨rfl, rfl, -, h1⟩
      have hin : (288 < 289) = True := eq_true (by omega)
      rw [h1]
      simp (disch := first | assumption | omega) only [KL, KB, KC, KI, KJ, KZ, bI_0, bI_n, nI00, nI10, ne_eq, Classical.not_not, not_true_eq_false, not_false_eq_true, if_true, if_false, ite_not, ite_self, Bool.false_eq_true, nIne1, kMask, mask, mask_n, nIlt, hin]
      rfl
    · rintro s0 i hi ih ls h' ⟨rfl, rfl, -, h1⟩
      have hin : (288 < i) = False := eq_false (by omega)
      have hc := h i hi
      have hs : firstJ p (289 - i) i = if p i = true then nI i else firstJ p (289 - (i + 1)) (i + 1) := by
        rw [show 289 - i = (289 - (i + 1)) + 1 by omega]; rfl
      cases hp0 : p i with
      | true =>
        rw [hp0] at hc
        rw [hp0, if_pos rfl] at hs
        have hz : (bW true = 0) = False := eq_false (by decide)
        rw [h1, hs]
        simp (disch := first | assumption | omega) only [KL, KB, KC, KI, KJ, KZ, bI_0, bI_n, nI00, nI10, ne_eq, Classical.not_not, not_true_eq_false, not_false_eq_true, if_true, if_false, ite_not, ite_self, Bool.false_eq_true, nIne1, kMask, mask, mask_n, O_co, AR, nIlt, hin, hc, hz]
      | false =>
        rw [hp0] at hc
        rw [hp0, if_neg (by decide)] at hs
        have hz : (bW false = 0) = True := eq_true rfl
        simp (disch := first | assumption | omega) only [KL, KB, KC, KI, KJ, KZ, bI_0, bI_n, nI00, nI10, ne_eq, Classical.not_not, not_true_eq_false, not_false_eq_true, if_true, if_false, ite_not, ite_self, Bool.false_eq_true, nIne1, kMask, mask, mask_n, O_co, AR, nIlt, hin, hc, hz, nI_add]
        exact ih _ _ ⟨rfl, rfl, by omega, by rw [h1, hs]⟩
  rw [← key]
  simp (disch := first | assumption | omega) only [f_X0_leastSound, kb_X0_leastSound_0, KL, KB, KC, KI, KJ, KZ, bI_0, bI_n, nI00, nI10, ne_eq, Classical.not_not, not_true_eq_false, not_false_eq_true, if_true, if_false, ite_not, ite_self, Bool.false_eq_true, nIne1]
theorem c_soundWith {p : Nat → Bool} {g : GG} {m o : Nat} (k : Nat) (hk : k = 1 ∨ k = 2) (h : ∀ w, w < 289 → g 171 w = bW (p w)) : f_X0_soundWith [.ref 164, .int (nI k)] (hp g m o) = some (some (.int (nI (sumN (fun w => bN (p w && decide ((if w ≤ 16 then 1 else 2) = k))) 289))), hp g m o) := by
  have key : kl_X0_soundWith_4 [.ref 164, .int (nI k), .int (nI 0), .int (nI 0)] [] (hp g m o) = some (some (.int (nI (sumN (fun w => bN (p w && decide ((if w ≤ 16 then 1 else 2) = k))) 289))), hp g m o) := by
    unfold kl_X0_soundWith_4
    refine kFor 289 (by unfold FU; omega) (fun i ls h => ls = [.ref 164, .int (nI k), .int (nI (sumN (fun w => bN (p w && decide ((if w ≤ 16 then 1 else 2) = k))) i)), .int (nI i)] ∧ h = hp g m o) (fun r => r = some (some (.int (nI (sumN (fun w => bN (p w && decide ((if w ≤ 16 then 1 else 2) = k))) 289))), hp g m o)) ?_ ?_ 0 _ _ (by omega) ⟨rfl, rfl⟩
    · rintro s0 ls h ⟨rfl, rfl⟩
      have hin : (288 < 289) = True := eq_true (by omega)
      simp (disch := first | assumption | omega) only [KL, KB, KC, KI, KJ, KZ, bI_0, bI_n, nI00, nI10, ne_eq, Classical.not_not, not_true_eq_false, not_false_eq_true, if_true, if_false, ite_not, ite_self, Bool.false_eq_true, nIne1, kMask, mask, mask_n, nIlt, hin]
    · rintro s0 i hi ih ls h' ⟨rfl, rfl⟩
      have hin : (288 < i) = False := eq_false (by omega)
      have hc := h i hi
      have hs : sumN (fun w => bN (p w && decide ((if w ≤ 16 then 1 else 2) = k))) (i + 1) = sumN (fun w => bN (p w && decide ((if w ≤ 16 then 1 else 2) = k))) i + bN (p i && decide ((if i ≤ 16 then 1 else 2) = k)) := rfl
      cases hp0 : p i with
      | false =>
        rw [hp0] at hc
        rw [hp0, Bool.false_and] at hs
        have hz : (bW false = 0) = True := eq_true rfl
        simp (disch := first | assumption | omega) only [kb_X0_soundWith_38, KL, KB, KC, KI, KJ, KZ, bI_0, bI_n, nI00, nI10, ne_eq, Classical.not_not, not_true_eq_false, not_false_eq_true, if_true, if_false, ite_not, ite_self, Bool.false_eq_true, nIne1, kMask, mask, mask_n, O_co, AR, nIlt, hin, hc, hz, nI_add]
        exact ih _ _ ⟨by rw [hs]; rfl, rfl⟩
      | true =>
        rw [hp0] at hc
        rw [hp0, Bool.true_and] at hs
        have hz : (bW true = 0) = False := eq_false (by decide)
        by_cases q : i ≤ 16
        · have q' : (i ≤ 16) = True := eq_true q
          rw [if_pos q] at hs
          rcases hk with rfl | rfl
          · have e1 : (nI 1 = nI 1) = True := eq_true rfl
            simp (disch := first | assumption | omega) only [kb_X0_soundWith_31, kb_X0_soundWith_38, KL, KB, KC, KI, KJ, KZ, bI_0, bI_n, nI00, nI10, ne_eq, Classical.not_not, not_true_eq_false, not_false_eq_true, if_true, if_false, ite_not, ite_self, Bool.false_eq_true, nIne1, kMask, mask, mask_n, O_co, AR, nIlt, nIle, hin, hc, hz, q', e1, nI_add]
            exact ih _ _ ⟨by rw [hs]; rfl, rfl⟩
          · have e1 : (nI 1 = nI 2) = False := eq_false (by decide)
            simp (disch := first | assumption | omega) only [kb_X0_soundWith_31, kb_X0_soundWith_38, KL, KB, KC, KI, KJ, KZ, bI_0, bI_n, nI00, nI10, ne_eq, Classical.not_not, not_true_eq_false, not_false_eq_true, if_true, if_false, ite_not, ite_self, Bool.false_eq_true, nIne1, kMask, mask, mask_n, O_co, AR, nIlt, nIle, hin, hc, hz, q', e1, nI_add]
            exact ih _ _ ⟨by rw [hs]; rfl, rfl⟩
        · have q' : (i ≤ 16) = False := eq_false q
          rw [if_neg q] at hs
          rcases hk with rfl | rfl
          · have e1 : (nI 2 = nI 1) = False := eq_false (by decide)
            simp (disch := first | assumption | omega) only [kb_X0_soundWith_31, kb_X0_soundWith_38, KL, KB, KC, KI, KJ, KZ, bI_0, bI_n, nI00, nI10, ne_eq, Classical.not_not, not_true_eq_false, not_false_eq_true, if_true, if_false, ite_not, ite_self, Bool.false_eq_true, nIne1, kMask, mask, mask_n, O_co, AR, nIlt, nIle, hin, hc, hz, q', e1, nI_add]
            exact ih _ _ ⟨by rw [hs]; rfl, rfl⟩
          · have e1 : (nI 2 = nI 2) = True := eq_true rfl
            simp (disch := first | assumption | omega) only [kb_X0_soundWith_31, kb_X0_soundWith_38, KL, KB, KC, KI, KJ, KZ, bI_0, bI_n, nI00, nI10, ne_eq, Classical.not_not, not_true_eq_false, not_false_eq_true, if_true, if_false, ite_not, ite_self, Bool.false_eq_true, nIne1, kMask, mask, mask_n, O_co, AR, nIlt, nIle, hin, hc, hz, q', e1, nI_add]
            exact ih _ _ ⟨by rw [hs]; rfl, rfl⟩
  rw [← key]
  simp (disch := first | assumption | omega) only [f_X0_soundWith, kb_X0_soundWith_0, KL, KB, KC, KI, KJ, KZ, bI_0, bI_n, nI00, nI10, ne_eq, Classical.not_not, not_true_eq_false, not_false_eq_true, if_true, if_false, ite_not, ite_self, Bool.false_eq_true, nIne1]
def clsW (w : Nat) : Nat := if w ≤ 16 then 1 else 2
def shR (p : Nat → Bool) (what : Nat) (r : Int32) : Prop := (r = -1 ∧ ∀ w, w < 289 → p w = false) ∨ ∃ t, t < 289 ∧ p t = true ∧ (∀ u, u < t → p u = false) ∧ r = (if what = 0 then nI t else if what = 1 then nI (clsW t) else nI (sumN (fun w => bN (p w && decide (clsW w = clsW t))) 289 - 1))
theorem shR.uniq {p : Nat → Bool} {what : Nat} {r s : Int32} (h1 : shR p what r) (h2 : shR p what s) : r = s := by
  rcases h1 with ⟨a1, a2⟩ | ⟨t, t1, t2, t3, t4⟩
  · rcases h2 with ⟨b1, b2⟩ | ⟨u, u1, u2, u3, u4⟩
    · rw [a1, b1]
    · rw [a2 u u1] at u2; cases u2
  · rcases h2 with ⟨b1, b2⟩ | ⟨u, u1, u2, u3, u4⟩
    · rw [b2 t t1] at t2; cases t2
    · have : t = u := by
        apply Nat.le_antisymm
        · apply Nat.le_of_not_lt
          intro q
          rw [t3 u q] at u2; cases u2
        · apply Nat.le_of_not_lt
          intro q
          rw [u3 t q] at t2; cases t2
      rw [t4, u4, this]
theorem cnt_one {p : Nat → Bool} {t : Nat} (ht : t ≤ 16) : sumN (fun w => bN (p w)) 17 = sumN (fun w => bN (p w && decide (clsW w = clsW t))) 289 := by
  have e : clsW t = 1 := if_pos ht
  rw [← sumN_ext (a := 17) (b := 289) (by omega) (fun w h1 _ => by
    rw [e, show clsW w = 2 from if_neg (by omega), decide_eq_false (by omega), Bool.and_false]; rfl)]
  exact sumN_congr 17 (fun w hw => by rw [e, show clsW w = 1 from if_pos (by omega), decide_eq_true rfl, Bool.and_true])
theorem cnt_two {p : Nat → Bool} {t : Nat} (ht : ¬ t ≤ 16) (h : ∀ u, u < t → p u = false) : sumN (fun w => bN (p w)) 289 = sumN (fun w => bN (p w && decide (clsW w = clsW t))) 289 := by
  have e : clsW t = 2 := if_neg ht
  refine sumN_congr 289 (fun w hw => ?_)
  by_cases q : w ≤ 16
  · rw [h w (by omega)]; rfl
  · rw [e, show clsW w = 2 from if_neg q, decide_eq_true rfl, Bool.and_true]
theorem cnt_pos {p : Nat → Bool} {t : Nat} (ht : t < 289) (hp' : p t = true) : 1 ≤ sumN (fun w => bN (p w && decide (clsW w = clsW t))) 289 := by
  have e : (sumN (fun w => if w = t then 1 else 0) 289) ≤ sumN (fun w => bN (p w && decide (clsW w = clsW t))) 289 := sumN_le 289 (fun w _ => by
    by_cases q : w = t
    · rw [if_pos q, q, hp', decide_eq_true rfl]; exact Nat.le_refl _
    · rw [if_neg q]; exact Nat.zero_le _)
  rw [sumN_pick, if_pos ht] at e
  exact e
theorem sh122 {S what : Nat} {fst riv : Int32} {p : Nat → Bool} {i : Nat} (hw : what ≤ 2) (hf : (fst = -1 ∧ i = 289 ∧ ∀ w, w < i → p w = false) ∨ ∃ t, t < i ∧ i ≤ 289 ∧ fst = nI t ∧ p t = true ∧ (∀ u, u < t → p u = false) ∧ (what = 2 → (t ≤ 16 ∧ i = 17) ∨ (¬ t ≤ 16 ∧ i = 289))) (hr : riv = nI (sumN (fun w => bN (p w)) i - 1)) (v : Value) (h : HP) : ∃ r, kb_X11_shortest_122 [.ref 188, .int (nI S), .int (nI what), .int fst, .int riv, v] [] h = some (some (.int r), h) ∧ shR p what r := by
  rcases hf with ⟨f1, f2, f3⟩ | ⟨t, t1, t2, t3, t4, t5, t6⟩
  · subst f1
    refine ⟨-1, ?_, Or.inl ⟨rfl, fun w hw => f3 w (by omega)⟩⟩
    simp (disch := first | assumption | omega) only [kb_X11_shortest_122, kb_X11_shortest_131, kb_X11_shortest_156, KL, KB, KC, KI, KJ, KZ, bI_0, bI_n, nI00, nI10, ne_eq, Classical.not_not, not_true_eq_false, not_false_eq_true, if_true, if_false, ite_not, ite_self, Bool.false_eq_true, nIne1, eq_self]
  · subst t3
    rcases (by omega : what = 0 ∨ what = 1 ∨ what = 2) with rfl | rfl | rfl
    · refine ⟨nI t, ?_, Or.inr ⟨t, by omega, t4, t5, by rw [if_pos rfl]⟩⟩
      have z00 : (nI 0 = 0) = True := eq_true rfl
      simp (disch := first | assumption | omega) only [kb_X11_shortest_122, kb_X11_shortest_131, kb_X11_shortest_156, KL, KB, KC, KI, KJ, KZ, bI_0, bI_n, nI00, nI10, ne_eq, Classical.not_not, not_true_eq_false, not_false_eq_true, if_true, if_false, ite_not, ite_self, Bool.false_eq_true, nIne1, z00]
    · have z10 : (nI 1 = 0) = False := eq_false (by decide)
      have z11 : (nI 1 = nI 1) = True := eq_true rfl
      by_cases q : t ≤ 16
      · have q' : (17 ≤ t) = False := eq_false (by omega)
        refine ⟨nI 1, ?_, Or.inr ⟨t, by omega, t4, t5, by rw [if_neg (by omega), if_pos rfl, show clsW t = 1 from if_pos q]⟩⟩
        simp (disch := first | assumption | omega) only [kb_X11_shortest_122, kb_X11_shortest_131, kb_X11_shortest_156, KL, KB, KC, KI, KJ, KZ, bI_0, bI_n, nI00, nI10, ne_eq, Classical.not_not, not_true_eq_false, not_false_eq_true, if_true, if_false, ite_not, ite_self, Bool.false_eq_true, nIne1, z10, z11, nIle, q']
      · have q' : (17 ≤ t) = True := eq_true (by omega)
        refine ⟨nI 2, ?_, Or.inr ⟨t, by omega, t4, t5, by rw [if_neg (by omega), if_pos rfl, show clsW t = 2 from if_neg q]⟩⟩
        simp (disch := first | assumption | omega) only [kb_X11_shortest_122, kb_X11_shortest_131, kb_X11_shortest_156, KL, KB, KC, KI, KJ, KZ, bI_0, bI_n, nI00, nI10, ne_eq, Classical.not_not, not_true_eq_false, not_false_eq_true, if_true, if_false, ite_not, ite_self, Bool.false_eq_true, nIne1, z10, z11, nIle, q']
    · have z20 : (nI 2 = 0) = False := eq_false (by decide)
      have z21 : (nI 2 = nI 1) = False := eq_false (by decide)
      refine ⟨riv, ?_, Or.inr ⟨t, by omega, t4, t5, ?_⟩⟩
      · simp (disch := first | assumption | omega) only [kb_X11_shortest_122, kb_X11_shortest_131, kb_X11_shortest_156, KL, KB, KC, KI, KJ, KZ, bI_0, bI_n, nI00, nI10, ne_eq, Classical.not_not, not_true_eq_false, not_false_eq_true, if_true, if_false, ite_not, ite_self, Bool.false_eq_true, nIne1, z20, z21]
      · rw [if_neg (by omega), if_neg (by omega), hr]
        rcases t6 rfl with ⟨a, b⟩ | ⟨a, b⟩
        · rw [b, cnt_one a]
        · rw [b, cnt_two a t5]
theorem m_short {j S what : Nat} {g g1 : GG} {m o : Nat} (hS : S < 64) (hw : what ≤ 2) (G : Nat → Nat → Bool) (hG : ∀ c, c < 6 → tryM g c (G c)) (z8 : g1 189 = g 189) (h33 : g1 188 33 = -1) : ∃ (g' : GG) (r : Int32), kl_X11_shortest_29 [.ref 188, .int (nI S), .int (nI what), .int (-1), .int (nI 0), .int (nI 1)] [] (hp g1 m o) = some (some (.int r), hp g' m o) ∧ shR (okS G S) what r ∧ FM g1 g' ∧ g' 188 33 = -1 := by
  generalize hp0 : okS G S = p
  have hpw : ∀ w, okW w → p w = allG G S w 6 := fun w hw => by
    rw [← hp0]
    unfold okS bwW
    rw [decide_eq_true ⟨hw.1, hw.2.1, hw⟩, Bool.true_and]
  have hpn : ∀ w, ¬ okW w → p w = false := fun w hw => by
    rw [← hp0]
    unfold okS bwW
    rw [decide_eq_false (fun q => hw q.2.2), Bool.false_and]
  unfold kl_X11_shortest_29
  refine kFor 289 (by unfold FU; omega) (fun i ls h => ∃ (g' : GG) (fst : Int32), ls = [.ref 188, .int (nI S), .int (nI what), .int fst, .int (nI (sumN (fun w => bN (p w)) i - 1)), .int (nI i)] ∧ h = hp g' m o ∧ FM g1 g' ∧ g' 188 33 = -1 ∧ ((fst = -1 ∧ ∀ w, w < i → p w = false) ∨ ∃ t, t < i ∧ fst = nI t ∧ p t = true ∧ (∀ u, u < t → p u = false) ∧ (t ≤ 16 → i ≤ 17))) (fun r => ∃ (g' : GG) (v : Int32), r = some (some (.int v), hp g' m o) ∧ shR p what v ∧ FM g1 g' ∧ g' 188 33 = -1) ?_ ?_ 1 _ _ (by omega) ⟨g1, -1, ?_, rfl, FM.rfl', h33, Or.inl ⟨rfl, fun w hw => ?_⟩⟩
  · rintro s0 ls h ⟨g', fst, rfl, rfl, h1, h2, h3⟩
    have hin : (289 ≤ 289) = True := eq_true (by omega)
    obtain ⟨r, e, hr⟩ := sh122 (S := S) (what := what) (fst := fst) (p := p) (i := 289) hw (by
      rcases h3 with ⟨a, b⟩ | ⟨t, a, b, c, d, e⟩
      · exact Or.inl ⟨a, rfl, b⟩
      · exact Or.inr ⟨t, a, by omega, b, c, d, fun _ => Or.inr ⟨fun q => by have := e q; omega, rfl⟩⟩) rfl (.int (nI 289)) (hp g' m o)
    simp (disch := first | assumption | omega) only [KL, KB, KC, KI, KJ, KZ, bI_0, bI_n, nI00, nI10, ne_eq, Classical.not_not, not_true_eq_false, not_false_eq_true, if_true, if_false, ite_not, ite_self, Bool.false_eq_true, nIne1, kMask, mask, mask_n, nIle, hin]
    exact ⟨g', r, e, hr, h1, h2⟩
  · rintro s0 i hi ih ls h ⟨g', fst, rfl, rfl, h1, h2, h3⟩
    have hin : (289 ≤ i) = False := eq_false (by omega)
    have ew := fun h => m_isW i (by omega) h
    have hss : sumN (fun w => bN (p w)) (i + 1) = sumN (fun w => bN (p w)) i + bN (p i) := rfl
    have z0 : (bW false = 0) = True := eq_true rfl
    have z1 : (bW true = 0) = False := eq_false (by decide)
    -- the body
    have body : ((∃ t, fst = nI t ∧ t ≤ 16) → i ≤ 16) → ∃ (g'' : GG) (v : Int32), kb_X11_shortest_68 s0 [.ref 188, .int (nI S), .int (nI what), .int fst, .int (nI (sumN (fun w => bN (p w)) i - 1)), .int (nI i)] [] (hp g' m o) = some (some (.int v), hp g'' m o) ∧ shR p what v ∧ FM g1 g'' ∧ g'' 188 33 = -1 := by
      intro hlim
      have skip : ∀ g2 : GG, p i = false → FM g1 g2 → g2 188 33 = -1 → ∃ (g'' : GG) (v : Int32), s0 [.ref 188, .int (nI S), .int (nI what), .int fst, .int (nI (sumN (fun w => bN (p w)) i - 1)), .int (nI (i + 1))] [] (hp g2 m o) = some (some (.int v), hp g'' m o) ∧ shR p what v ∧ FM g1 g'' ∧ g'' 188 33 = -1 := fun g2 hpi f2 f3 => ih _ _ ⟨g2, fst, by rw [hss, hpi]; rfl, rfl, f2, f3, by
        rcases h3 with ⟨a, b⟩ | ⟨t, a, b, c, d, e⟩
        · exact Or.inl ⟨a, fun w hw => by
            by_cases q : w = i
            · rw [q]; exact hpi
            · exact b w (by omega)⟩
        · exact Or.inr ⟨t, by omega, b, c, d, fun q => by have := hlim ⟨t, b, q⟩; omega⟩⟩
      by_cases d : okW i
      · rw [decide_eq_true d] at ew
        obtain ⟨g2, e2, f2, f33⟩ := m_isSound (g := g) (g0 := g') (m := m) (o := o) hS d G hG (by rw [h1.1 189 (by omega) (by omega)]; exact z8)
        rw [← hpw i d] at e2
        cases hpi : p i with
        | false =>
          rw [hpi] at e2
          have := skip g2 hpi (h1.tr f2) f33
          simp (disch := first | assumption | omega) only [kb_X11_shortest_68, kb_X11_shortest_116, KL, KB, KC, KI, KJ, KZ, bI_0, bI_n, nI00, nI10, ne_eq, Classical.not_not, not_true_eq_false, not_false_eq_true, if_true, if_false, ite_not, ite_self, Bool.false_eq_true, nIne1, O_mo, ew, z1, e2, z0, nI_add]
          exact this
        | true =>
          rw [hpi] at e2
          rcases id h3 with ⟨a, b⟩ | ⟨t, a, b, c, dd, e⟩
          · have hs0 : sumN (fun w => bN (p w)) i = 0 := sumN_zero i (fun w hw => by rw [b w hw]; rfl)
            have := ih [.ref 188, .int (nI S), .int (nI what), .int (nI i), .int (nI 0), .int (nI (i + 1))] (hp g2 m o) ⟨g2, nI i, by rw [hss, hpi, hs0]; rfl, rfl, h1.tr f2, f33, Or.inr ⟨i, by omega, rfl, hpi, b, fun q => by omega⟩⟩
            subst a
            rw [hs0]
            simp (disch := first | assumption | omega) only [kb_X11_shortest_68, kb_X11_shortest_101, kb_X11_shortest_115, kb_X11_shortest_116, KL, KB, KC, KI, KJ, KZ, bI_0, bI_n, nI00, nI10, ne_eq, Classical.not_not, not_true_eq_false, not_false_eq_true, if_true, if_false, ite_not, ite_self, Bool.false_eq_true, nIne1, O_mo, ew, z1, e2, eq_self, nI_add]
            exact this
          · subst b
            have hpos : 1 ≤ sumN (fun w => bN (p w)) i := by
              have e : (sumN (fun w => if w = t then 1 else 0) i) ≤ sumN (fun w => bN (p w)) i := sumN_le i (fun w _ => by
                by_cases q : w = t
                · rw [if_pos q, q, c]; exact Nat.le_refl _
                · rw [if_neg q]; exact Nat.zero_le _)
              rw [sumN_pick, if_pos a] at e
              exact e
            have := ih [.ref 188, .int (nI S), .int (nI what), .int (nI t), .int (nI (sumN (fun w => bN (p w)) i - 1 + 1)), .int (nI (i + 1))] (hp g2 m o) ⟨g2, nI t, by rw [hss, hpi, show bN true = 1 from rfl, show sumN (fun w => bN (p w)) i - 1 + 1 = sumN (fun w => bN (p w)) i + 1 - 1 by omega], rfl, h1.tr f2, f33, Or.inr ⟨t, by omega, rfl, c, dd, fun q => by have := hlim ⟨t, rfl, q⟩; omega⟩⟩
            simp (disch := first | assumption | omega) only [kb_X11_shortest_68, kb_X11_shortest_101, kb_X11_shortest_115, kb_X11_shortest_116, KL, KB, KC, KI, KJ, KZ, bI_0, bI_n, nI00, nI10, ne_eq, Classical.not_not, not_true_eq_false, not_false_eq_true, if_true, if_false, ite_not, ite_self, Bool.false_eq_true, nIne1, O_mo, ew, z1, e2, nI_add]
            exact this
      · rw [decide_eq_false d] at ew
        have := skip g' (hpn i d) h1 h2
        simp (disch := first | assumption | omega) only [kb_X11_shortest_68, kb_X11_shortest_116, KL, KB, KC, KI, KJ, KZ, bI_0, bI_n, nI00, nI10, ne_eq, Classical.not_not, not_true_eq_false, not_false_eq_true, if_true, if_false, ite_not, ite_self, Bool.false_eq_true, nIne1, ew, z0, nI_add]
        exact this
    rcases id h3 with ⟨a, b⟩ | ⟨t, a, b, c, d, e⟩
    · have := body (fun ⟨t, q, q2⟩ => by rw [a] at q; exact absurd q.symm (fun x => by have := (nIne1 (show t < 2147483648 by omega)).mp x; exact this))
      subst a
      simp (disch := first | assumption | omega) only [kb_X11_shortest_55, KL, KB, KC, KI, KJ, KZ, bI_0, bI_n, nI00, nI10, ne_eq, Classical.not_not, not_true_eq_false, not_false_eq_true, if_true, if_false, ite_not, ite_self, Bool.false_eq_true, nIne1, kMask, mask, mask_n, nIle, hin, eq_self]
      exact this
    · subst b
      by_cases q : t ≤ 16 ∧ 16 < i
      · -- shorter ones than those that come are found
        have q1 : (17 ≤ t) = False := eq_false (by omega)
        have q2 : (16 < i) = True := eq_true q.2
        obtain ⟨r, er, hr⟩ := sh122 (S := S) (what := what) (fst := nI t) (p := p) (i := i) hw (Or.inr ⟨t, a, by omega, rfl, c, d, fun _ => Or.inl ⟨q.1, by have := e q.1; omega⟩⟩) rfl (.int (nI i)) (hp g' m o)
        simp (disch := first | assumption | omega) only [KL, KB, KC, KI, KJ, KZ, bI_0, bI_n, nI00, nI10, ne_eq, Classical.not_not, not_true_eq_false, not_false_eq_true, if_true, if_false, ite_not, ite_self, Bool.false_eq_true, nIne1, kMask, mask, mask_n, nIle, nIlt, hin, q1, q2]
        exact ⟨g', r, er, hr, h1, h2⟩
      · have p55 : kb_X11_shortest_55 s0 [.ref 188, .int (nI S), .int (nI what), .int (nI t), .int (nI (sumN (fun w => bN (p w)) i - 1)), .int (nI i)] [] (hp g' m o) = if 2 ≤ what then kb_X11_shortest_68 s0 [.ref 188, .int (nI S), .int (nI what), .int (nI t), .int (nI (sumN (fun w => bN (p w)) i - 1)), .int (nI i)] [] (hp g' m o) else kb_X11_shortest_122 [.ref 188, .int (nI S), .int (nI what), .int (nI t), .int (nI (sumN (fun w => bN (p w)) i - 1)), .int (nI i)] [] (hp g' m o) := by
          by_cases w2 : 2 ≤ what
          · have w2' : (2 ≤ what) = True := eq_true w2
            simp (disch := first | assumption | omega) only [kb_X11_shortest_55, KL, KB, KC, KI, KJ, KZ, bI_0, bI_n, nI00, nI10, ne_eq, Classical.not_not, not_true_eq_false, not_false_eq_true, if_true, if_false, ite_not, ite_self, Bool.false_eq_true, nIne1, nIle, w2']
          · have w2' : (2 ≤ what) = False := eq_false w2
            simp (disch := first | assumption | omega) only [kb_X11_shortest_55, KL, KB, KC, KI, KJ, KZ, bI_0, bI_n, nI00, nI10, ne_eq, Classical.not_not, not_true_eq_false, not_false_eq_true, if_true, if_false, ite_not, ite_self, Bool.false_eq_true, nIne1, nIle, w2']
        have go : ∃ (g'' : GG) (v : Int32), kb_X11_shortest_55 s0 [.ref 188, .int (nI S), .int (nI what), .int (nI t), .int (nI (sumN (fun w => bN (p w)) i - 1)), .int (nI i)] [] (hp g' m o) = some (some (.int v), hp g'' m o) ∧ shR p what v ∧ FM g1 g'' ∧ g'' 188 33 = -1 := by
          rw [p55]
          by_cases w2 : 2 ≤ what
          · rw [if_pos w2]
            exact body (fun ⟨u, u1, u2⟩ => by
              rw [nIeq (by omega) (by omega)] at u1
              omega)
          · rw [if_neg w2]
            obtain ⟨r, er, hr⟩ := sh122 (S := S) (what := what) (fst := nI t) (p := p) (i := i) hw (Or.inr ⟨t, a, by omega, rfl, c, d, fun x => by omega⟩) rfl (.int (nI i)) (hp g' m o)
            exact ⟨g', r, er, hr, h1, h2⟩
        by_cases t17 : 17 ≤ t
        · have q1 : (17 ≤ t) = True := eq_true t17
          simp (disch := first | assumption | omega) only [KL, KB, KC, KI, KJ, KZ, bI_0, bI_n, nI00, nI10, ne_eq, Classical.not_not, not_true_eq_false, not_false_eq_true, if_true, if_false, ite_not, ite_self, Bool.false_eq_true, nIne1, kMask, mask, mask_n, nIle, hin, q1]
          exact go
        · have q1 : (17 ≤ t) = False := eq_false t17
          have q2 : (16 < i) = False := eq_false (by omega)
          simp (disch := first | assumption | omega) only [KL, KB, KC, KI, KJ, KZ, bI_0, bI_n, nI00, nI10, ne_eq, Classical.not_not, not_true_eq_false, not_false_eq_true, if_true, if_false, ite_not, ite_self, Bool.false_eq_true, nIne1, kMask, mask, mask_n, nIle, nIlt, hin, q1, q2]
          exact go
  · have e : sumN (fun w => bN (p w)) 1 = 0 := by
      show 0 + bN (p 0) = 0
      rw [hpn 0 (fun q => by have := q.1; omega)]; rfl
    rw [e]
  · rw [show w = 0 by omega]
    exact hpn 0 (fun q => by have := q.1; omega)
theorem ag_shortest (a0 a1 : Int32) : Ag RT f_X10_shortest f_X11_shortest [.int a0, .int a1] := by
  intro j g m o hj hR
  by_cases hP : nI 1 ≤ a0 ∧ a0 ≤ nI 63
  · have hyP : (nI 1 ≤ a0 ∧ a0 ≤ nI 63) = True := eq_true hP
    rcases in_cases a0 63 (by decide) with ⟨S, hS, rfl⟩ | h0
    · have hS64 : S < 64 := by omega
      rcases in_cases a1 2 (by decide) with ⟨k, hk, rfl⟩ | h1
      · have hyk : (nI 0 ≤ nI k ∧ nI k ≤ nI 2) = True := eq_true (in_yes hk (by omega))
        obtain ⟨G, hG⟩ := chs (α := Nat → Bool) (k := 6) (P := fun c b => ∃ o', tryC g c o' b ∧ tryM g c b) (fun c hc => hR.words hc)
        obtain ⟨g1, m1, o1, e1, k1, z1, q1⟩ := c_try (j := j) (m := m) (o := o) (lo := 1) (hi := 288) hS64 (by omega) (by omega) G (fun c hc => by obtain ⟨o', h, -⟩ := hG c hc; exact ⟨o', h⟩)
        have q2 : ∀ w, w < 289 → g1 171 w = bW (okS G S w) := q1
        obtain ⟨g2, r, e2, hr, f2, h33⟩ := m_short (j := j) (g1 := g1) (m := m1) (o := o1) (what := k) hS64 (by omega) G (fun c hc => by obtain ⟨o', -, h⟩ := hG c hc; exact h) k1.2.2.2.1 (by rw [z1]; exact hR.2.2.2.2.2.2.1)
        have hk2 : KEEP g1 g2 := KEEP.of (fun a x y z w => f2.1 a (by omega) (by omega)) (fun i hi => by
          by_cases q : i = 33
          · rw [q, h33, z1]; exact hR.2.2.2.2.2.2.1.symm
          · exact f2.2 i (by omega) (by omega) q)
        refine ⟨r, g1, m1, o1, g2, ?_, ?_, hR.keep (k1.tr hk2)⟩
        · have el := c_leastSound (m := m1) (o := o1) q2
          have s1 := c_soundWith (m := m1) (o := o1) 1 (Or.inl rfl) q2
          have s2 := c_soundWith (m := m1) (o := o1) 2 (Or.inr rfl) q2
          have hcls : ∃ v, f_X10_shortest [.ref 0, .int (nI S), .int (nI k)] (hp g m o) = some (some (.int v), hp g1 m1 o1) ∧ shR (okS G S) k v := by
            rcases firstJ_cases (okS G S) 289 0 with ⟨a, b⟩ | ⟨t, t0, t1, t2, t3, t4⟩
            · rw [a] at el
              refine ⟨-1, ?_, Or.inl ⟨rfl, fun w hw => b w (by omega) (by omega)⟩⟩
              simp (disch := first | assumption | omega) only [f_X10_shortest, kb_X10_shortest_15, kb_X10_shortest_46, kb_X10_shortest_82, kb_X10_shortest_59, kb_X10_shortest_0, KL, KB, KC, KI, KJ, KZ, bI_0, bI_n, nI00, nI10, ne_eq, Classical.not_not, not_true_eq_false, not_false_eq_true, if_true, if_false, ite_not, ite_self, Bool.false_eq_true, nIne1, O_fp, O_co, c_isSet, hyP, c_within, hyk, e1, el, eq_self]
            · rw [t3] at el
              have hpos := cnt_pos (p := okS G S) (by omega) t2
              rcases (by omega : k = 0 ∨ k = 1 ∨ k = 2) with rfl | rfl | rfl
              · have z00 : (nI 0 = 0) = True := eq_true rfl
                refine ⟨nI t, ?_, Or.inr ⟨t, by omega, t2, fun u hu => t4 u (by omega) hu, by rw [if_pos rfl]⟩⟩
                simp (disch := first | assumption | omega) only [f_X10_shortest, kb_X10_shortest_15, kb_X10_shortest_46, kb_X10_shortest_82, kb_X10_shortest_59, kb_X10_shortest_0, KL, KB, KC, KI, KJ, KZ, bI_0, bI_n, nI00, nI10, ne_eq, Classical.not_not, not_true_eq_false, not_false_eq_true, if_true, if_false, ite_not, ite_self, Bool.false_eq_true, nIne1, O_fp, O_co, c_isSet, hyP, c_within, hyk, e1, el, z00]
              · have z10 : (nI 1 = 0) = False := eq_false (by decide)
                have z11 : (nI 1 = nI 1) = True := eq_true rfl
                by_cases q : t ≤ 16
                · have q' : (nI t ≤ nI 16) = True := by rw [nIle (by omega) (by omega)]; exact eq_true q
                  refine ⟨nI 1, ?_, Or.inr ⟨t, by omega, t2, fun u hu => t4 u (by omega) hu, by rw [if_neg (by omega), if_pos rfl, show clsW t = 1 from if_pos q]⟩⟩
                  simp (disch := first | assumption | omega) only [f_X10_shortest, kb_X10_shortest_15, kb_X10_shortest_46, kb_X10_shortest_82, kb_X10_shortest_59, kb_X10_shortest_0, KL, KB, KC, KI, KJ, KZ, bI_0, bI_n, nI00, nI10, ne_eq, Classical.not_not, not_true_eq_false, not_false_eq_true, if_true, if_false, ite_not, ite_self, Bool.false_eq_true, nIne1, O_fp, O_co, c_isSet, hyP, c_within, hyk, e1, el, z10, z11, q']
                · have q' : (nI t ≤ nI 16) = False := by rw [nIle (by omega) (by omega)]; exact eq_false q
                  refine ⟨nI 2, ?_, Or.inr ⟨t, by omega, t2, fun u hu => t4 u (by omega) hu, by rw [if_neg (by omega), if_pos rfl, show clsW t = 2 from if_neg q]⟩⟩
                  simp (disch := first | assumption | omega) only [f_X10_shortest, kb_X10_shortest_15, kb_X10_shortest_46, kb_X10_shortest_82, kb_X10_shortest_59, kb_X10_shortest_0, KL, KB, KC, KI, KJ, KZ, bI_0, bI_n, nI00, nI10, ne_eq, Classical.not_not, not_true_eq_false, not_false_eq_true, if_true, if_false, ite_not, ite_self, Bool.false_eq_true, nIne1, O_fp, O_co, c_isSet, hyP, c_within, hyk, e1, el, z10, z11, q']
              · have z20 : (nI 2 = 0) = False := eq_false (by decide)
                have z21 : (nI 2 = nI 1) = False := eq_false (by decide)
                refine ⟨nI (sumN (fun w => bN (okS G S w && decide (clsW w = clsW t))) 289 - 1), ?_, Or.inr ⟨t, by omega, t2, fun u hu => t4 u (by omega) hu, by rw [if_neg (by omega), if_neg (by omega)]⟩⟩
                by_cases q : t ≤ 16
                · have q' : (nI t ≤ nI 16) = True := by rw [nIle (by omega) (by omega)]; exact eq_true q
                  have ec : clsW t = 1 := if_pos q
                  rw [ec] at hpos ⊢
                  have s1' : f_X0_soundWith [.ref 164, .int (nI 1)] (hp g1 m1 o1) = some (some (.int (nI (sumN (fun w => bN (okS G S w && decide (clsW w = 1))) 289))), hp g1 m1 o1) := s1
                  simp (disch := first | assumption | omega) only [f_X10_shortest, kb_X10_shortest_15, kb_X10_shortest_46, kb_X10_shortest_82, kb_X10_shortest_59, kb_X10_shortest_0, KL, KB, KC, KI, KJ, KZ, bI_0, bI_n, nI00, nI10, ne_eq, Classical.not_not, not_true_eq_false, not_false_eq_true, if_true, if_false, ite_not, ite_self, Bool.false_eq_true, nIne1, O_fp, O_co, c_isSet, hyP, c_within, hyk, e1, el, z20, z21, q', s1', nI_sub]
                · have q' : (nI t ≤ nI 16) = False := by rw [nIle (by omega) (by omega)]; exact eq_false q
                  have ec : clsW t = 2 := if_neg q
                  rw [ec] at hpos ⊢
                  have s2' : f_X0_soundWith [.ref 164, .int (nI 2)] (hp g1 m1 o1) = some (some (.int (nI (sumN (fun w => bN (okS G S w && decide (clsW w = 2))) 289))), hp g1 m1 o1) := s2
                  simp (disch := first | assumption | omega) only [f_X10_shortest, kb_X10_shortest_15, kb_X10_shortest_46, kb_X10_shortest_82, kb_X10_shortest_59, kb_X10_shortest_0, KL, KB, KC, KI, KJ, KZ, bI_0, bI_n, nI00, nI10, ne_eq, Classical.not_not, not_true_eq_false, not_false_eq_true, if_true, if_false, ite_not, ite_self, Bool.false_eq_true, nIne1, O_fp, O_co, c_isSet, hyP, c_within, hyk, e1, el, z20, z21, q', s2', nI_sub]
          obtain ⟨v, ev, hv⟩ := hcls
          rw [hr.uniq hv]
          exact ev
        · simp (disch := first | assumption | omega) only [f_X11_shortest, kb_X11_shortest_0, KL, KB, KC, KI, KJ, KZ, bI_0, bI_n, nI00, nI10, ne_eq, Classical.not_not, not_true_eq_false, not_false_eq_true, if_true, if_false, ite_not, ite_self, Bool.false_eq_true, nIne1, m_isIn, hyP, hyk, e2]
      · refine ⟨-1, g, m, o, g, ?_, ?_, RT_mono _ _ _ _ hR⟩
        · simp (disch := first | assumption | omega) only [f_X10_shortest, kb_X10_shortest_15, kb_X10_shortest_46, kb_X10_shortest_82, kb_X10_shortest_59, kb_X10_shortest_0, KL, KB, KC, KI, KJ, KZ, bI_0, bI_n, nI00, nI10, ne_eq, Classical.not_not, not_true_eq_false, not_false_eq_true, if_true, if_false, ite_not, ite_self, Bool.false_eq_true, nIne1, c_isSet, hyP, c_within, h1]
        · simp (disch := first | assumption | omega) only [f_X11_shortest, kb_X11_shortest_0, kb_X11_shortest_19, KL, KB, KC, KI, KJ, KZ, bI_0, bI_n, nI00, nI10, ne_eq, Classical.not_not, not_true_eq_false, not_false_eq_true, if_true, if_false, ite_not, ite_self, Bool.false_eq_true, nIne1, m_isIn, hyP, h1]
    · exact absurd ⟨i_le1 hP.1, hP.2⟩ h0
  · have hyP : (nI 1 ≤ a0 ∧ a0 ≤ nI 63) = False := eq_false hP
    refine ⟨-1, g, m, o, g, ?_, ?_, RT_mono _ _ _ _ hR⟩
    · simp (disch := first | assumption | omega) only [f_X10_shortest, kb_X10_shortest_15, kb_X10_shortest_46, kb_X10_shortest_82, kb_X10_shortest_59, kb_X10_shortest_0, KL, KB, KC, KI, KJ, KZ, bI_0, bI_n, nI00, nI10, ne_eq, Classical.not_not, not_true_eq_false, not_false_eq_true, if_true, if_false, ite_not, ite_self, Bool.false_eq_true, nIne1, c_isSet, hyP]
    · simp (disch := first | assumption | omega) only [f_X11_shortest, kb_X11_shortest_0, kb_X11_shortest_19, KL, KB, KC, KI, KJ, KZ, bI_0, bI_n, nI00, nI10, ne_eq, Classical.not_not, not_true_eq_false, not_false_eq_true, if_true, if_false, ite_not, ite_self, Bool.false_eq_true, nIne1, m_isIn, hyP]
