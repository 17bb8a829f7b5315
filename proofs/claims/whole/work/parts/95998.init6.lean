-- ===== the constructors: the model; the law's start =====
set_option maxRecDepth 100000 in
theorem SHn_full : SHn 212 = SH := by
  funext i
  unfold SHn
  by_cases h : i < 212
  · rw [if_pos h]
  · rw [if_neg h]
    unfold SH
    have hl : SHL.length = 212 := by decide
    rw [List.getD_eq_getElem?_getD, List.getElem?_eq_none (by omega)]
    rfl
def needP (i j : Nat) : Prop := (i = 0 ∧ j ≤ 6) ∨ (i = 1 ∧ 1 ≤ j ∧ j ≤ 3) ∨ (i = 3 ∧ j < 4) ∨ (i = 4 ∧ j < 6) ∨ (5 ≤ i ∧ i ≤ 16 ∧ (i - 5) % 3 = 0 ∧ 3 ≤ j ∧ j ≤ 4) ∨ (17 ≤ i ∧ i ≤ 76 ∧ (i - 17) % 10 = 0 ∧ 1 ≤ j ∧ j ≤ 9) ∨ (i = 77 ∧ j ≤ 1) ∨ (i = 80 ∧ j ≤ 2) ∨ (i = 82 ∧ 1 ≤ j ∧ j ≤ 3) ∨ (i = 84 ∧ j < 4) ∨ (i = 85 ∧ j < 6) ∨ (86 ≤ i ∧ i ≤ 97 ∧ (i - 86) % 3 = 0 ∧ 3 ≤ j ∧ j ≤ 4) ∨ (98 ≤ i ∧ i ≤ 157 ∧ (i - 98) % 10 = 0 ∧ 1 ≤ j ∧ j ≤ 9) ∨ (i = 158 ∧ (j = 0 ∨ j = 4 ∨ j = 5)) ∨ (i = 160 ∧ 3 ≤ j ∧ j ≤ 4) ∨ (i = 164 ∧ (j < 5 ∨ (6 ≤ j ∧ j ≤ 11))) ∨ (i = 165 ∧ j < 4) ∨ (172 ≤ i ∧ i ≤ 183 ∧ (i - 172) % 3 = 0 ∧ 1 ≤ j ∧ j ≤ 2) ∨ (i = 184 ∧ j ≤ 1) ∨ (i = 185 ∧ j ≤ 2) ∨ (i = 188 ∧ (j = 0 ∨ j = 1 ∨ j = 3 ∨ j = 4 ∨ j = 5 ∨ j = 6 ∨ j = 7 ∨ j = 21 ∨ j = 22 ∨ j = 23 ∨ j = 24 ∨ j = 25 ∨ j = 26 ∨ j = 27 ∨ j = 28 ∨ j = 29 ∨ j = 30 ∨ j = 31 ∨ j = 32 ∨ j = 36 ∨ j = 46 ∨ j = 47 ∨ j = 48))
def memB (j : Nat) : Bool := decide (j = 0) || (decide (j = 1) || (decide (j = 3) || (decide (j = 4) || (decide (j = 5) || (decide (j = 6) || (decide (j = 7) || (decide (j = 21) || (decide (j = 22) || (decide (j = 23) || (decide (j = 24) || (decide (j = 25) || (decide (j = 26) || (decide (j = 27) || (decide (j = 28) || (decide (j = 29) || (decide (j = 30) || (decide (j = 31) || (decide (j = 32) || (decide (j = 36) || (decide (j = 46) || (decide (j = 47) || (decide (j = 48)))))))))))))))))))))))
theorem memB_P {j : Nat} (h : memB j = true) : j = 0 ∨ j = 1 ∨ j = 3 ∨ j = 4 ∨ j = 5 ∨ j = 6 ∨ j = 7 ∨ j = 21 ∨ j = 22 ∨ j = 23 ∨ j = 24 ∨ j = 25 ∨ j = 26 ∨ j = 27 ∨ j = 28 ∨ j = 29 ∨ j = 30 ∨ j = 31 ∨ j = 32 ∨ j = 36 ∨ j = 46 ∨ j = 47 ∨ j = 48 := ((Bool.or_eq_true _ _).mp h).imp of_decide_eq_true (fun h => ((Bool.or_eq_true _ _).mp h).imp of_decide_eq_true (fun h => ((Bool.or_eq_true _ _).mp h).imp of_decide_eq_true (fun h => ((Bool.or_eq_true _ _).mp h).imp of_decide_eq_true (fun h => ((Bool.or_eq_true _ _).mp h).imp of_decide_eq_true (fun h => ((Bool.or_eq_true _ _).mp h).imp of_decide_eq_true (fun h => ((Bool.or_eq_true _ _).mp h).imp of_decide_eq_true (fun h => ((Bool.or_eq_true _ _).mp h).imp of_decide_eq_true (fun h => ((Bool.or_eq_true _ _).mp h).imp of_decide_eq_true (fun h => ((Bool.or_eq_true _ _).mp h).imp of_decide_eq_true (fun h => ((Bool.or_eq_true _ _).mp h).imp of_decide_eq_true (fun h => ((Bool.or_eq_true _ _).mp h).imp of_decide_eq_true (fun h => ((Bool.or_eq_true _ _).mp h).imp of_decide_eq_true (fun h => ((Bool.or_eq_true _ _).mp h).imp of_decide_eq_true (fun h => ((Bool.or_eq_true _ _).mp h).imp of_decide_eq_true (fun h => ((Bool.or_eq_true _ _).mp h).imp of_decide_eq_true (fun h => ((Bool.or_eq_true _ _).mp h).imp of_decide_eq_true (fun h => ((Bool.or_eq_true _ _).mp h).imp of_decide_eq_true (fun h => ((Bool.or_eq_true _ _).mp h).imp of_decide_eq_true (fun h => ((Bool.or_eq_true _ _).mp h).imp of_decide_eq_true (fun h => ((Bool.or_eq_true _ _).mp h).imp of_decide_eq_true (fun h => ((Bool.or_eq_true _ _).mp h).imp of_decide_eq_true (fun h => of_decide_eq_true h))))))))))))))))))))))
def needB (i j : Nat) : Bool := decide (i = 0 ∧ j ≤ 6) || (decide (i = 1 ∧ 1 ≤ j ∧ j ≤ 3) || (decide (i = 3 ∧ j < 4) || (decide (i = 4 ∧ j < 6) || (decide (5 ≤ i ∧ i ≤ 16 ∧ (i - 5) % 3 = 0 ∧ 3 ≤ j ∧ j ≤ 4) || (decide (17 ≤ i ∧ i ≤ 76 ∧ (i - 17) % 10 = 0 ∧ 1 ≤ j ∧ j ≤ 9) || (decide (i = 77 ∧ j ≤ 1) || (decide (i = 80 ∧ j ≤ 2) || (decide (i = 82 ∧ 1 ≤ j ∧ j ≤ 3) || (decide (i = 84 ∧ j < 4) || (decide (i = 85 ∧ j < 6) || (decide (86 ≤ i ∧ i ≤ 97 ∧ (i - 86) % 3 = 0 ∧ 3 ≤ j ∧ j ≤ 4) || (decide (98 ≤ i ∧ i ≤ 157 ∧ (i - 98) % 10 = 0 ∧ 1 ≤ j ∧ j ≤ 9) || (decide (i = 158 ∧ (j = 0 ∨ j = 4 ∨ j = 5)) || (decide (i = 160 ∧ 3 ≤ j ∧ j ≤ 4) || (decide (i = 164 ∧ (j < 5 ∨ (6 ≤ j ∧ j ≤ 11))) || (decide (i = 165 ∧ j < 4) || (decide (172 ≤ i ∧ i ≤ 183 ∧ (i - 172) % 3 = 0 ∧ 1 ≤ j ∧ j ≤ 2) || (decide (i = 184 ∧ j ≤ 1) || (decide (i = 185 ∧ j ≤ 2) || ((decide (i = 188) && memB j)))))))))))))))))))))
theorem needB_P {i j : Nat} (h : needB i j = true) : needP i j := ((Bool.or_eq_true _ _).mp h).imp of_decide_eq_true (fun h => ((Bool.or_eq_true _ _).mp h).imp of_decide_eq_true (fun h => ((Bool.or_eq_true _ _).mp h).imp of_decide_eq_true (fun h => ((Bool.or_eq_true _ _).mp h).imp of_decide_eq_true (fun h => ((Bool.or_eq_true _ _).mp h).imp of_decide_eq_true (fun h => ((Bool.or_eq_true _ _).mp h).imp of_decide_eq_true (fun h => ((Bool.or_eq_true _ _).mp h).imp of_decide_eq_true (fun h => ((Bool.or_eq_true _ _).mp h).imp of_decide_eq_true (fun h => ((Bool.or_eq_true _ _).mp h).imp of_decide_eq_true (fun h => ((Bool.or_eq_true _ _).mp h).imp of_decide_eq_true (fun h => ((Bool.or_eq_true _ _).mp h).imp of_decide_eq_true (fun h => ((Bool.or_eq_true _ _).mp h).imp of_decide_eq_true (fun h => ((Bool.or_eq_true _ _).mp h).imp of_decide_eq_true (fun h => ((Bool.or_eq_true _ _).mp h).imp of_decide_eq_true (fun h => ((Bool.or_eq_true _ _).mp h).imp of_decide_eq_true (fun h => ((Bool.or_eq_true _ _).mp h).imp of_decide_eq_true (fun h => ((Bool.or_eq_true _ _).mp h).imp of_decide_eq_true (fun h => ((Bool.or_eq_true _ _).mp h).imp of_decide_eq_true (fun h => ((Bool.or_eq_true _ _).mp h).imp of_decide_eq_true (fun h => ((Bool.or_eq_true _ _).mp h).imp of_decide_eq_true (fun h => ⟨of_decide_eq_true ((Bool.and_eq_true _ _).mp h).1, memB_P ((Bool.and_eq_true _ _).mp h).2⟩))))))))))))))))))))
set_option maxRecDepth 100000 in
theorem need_tab : (List.range 212).all (fun i => (List.range 60).all (fun j => (RR 17 175 i j).isNone || needB i j)) = true := by decide +kernel
set_option maxRecDepth 100000 in
theorem need_of {i j b : Nat} (h : RR 17 175 i j = some b) : needP i j := by
  by_cases hi : i < 212 ∧ j < 60
  · have t := need_tab
    rw [List.all_eq_true] at t
    have t1 := t i (List.mem_range.mpr hi.1)
    rw [List.all_eq_true] at t1
    have t2 := t1 j (List.mem_range.mpr hi.2)
    rw [h] at t2
    exact needB_P t2
  · exfalso
    unfold RR at h
    rw [if_neg (by omega), if_neg (by omega)] at h
    have hl : RLL.length = 212 := by decide
    have hr : RLL.all (fun r => decide (r.length ≤ 60)) = true := by decide
    rw [List.all_eq_true] at hr
    cases e : RLL[i]? with
    | none =>
      have hrow : RLL.getD i [] = [] := by rw [List.getD_eq_getElem?_getD, e]; rfl
      rw [hrow] at h
      cases h
    | some row =>
      have hm := of_decide_eq_true (hr row (List.mem_of_getElem? e))
      have hlt := (List.getElem?_eq_some_iff.mp e).1
      have hrow : RLL.getD i [] = row := by rw [List.getD_eq_getElem?_getD, e]; rfl
      rw [hrow, List.getD_eq_getElem?_getD, List.getElem?_eq_none (by omega)] at h
      cases h
theorem RF_full {H : List (Nat × Nat)} (h : ∀ i j, needP i j → (i, j) ∈ H) : RF H = RR 17 175 := by
  funext i j
  unfold RF
  by_cases q : (i, j) ∈ H
  · rw [if_pos q]
  · rw [if_neg q]
    cases e : RR 17 175 i j with
    | none => rfl
    | some b => exact (q (h i j (need_of e))).elim
theorem HQ_full {g : GG} {H : List (Nat × Nat)} (h : ∀ i j, needP i j → (i, j) ∈ H) : HQ 212 24944 g H = hp g 17 175 := by
  unfold HQ hp
  rw [SHn_full, RF_full h]
/-- the model's cells of the crossings below i are made -/
def MCL (g : GG) (i : Nat) : Prop := ∀ c, c < i → (∀ r, r < 6 → g 189 (10 + 560 * c + 92 * r + 89) = -1) ∧ g 189 (10 + 560 * c + 552) = nI 4 ∧ ∀ k, k < 560 → k ≠ 552 → (∀ r, r < 6 → k ≠ 92 * r + 89) → g 189 (10 + 560 * c + k) = nI 0
theorem no_link {c k c' r : Nat} (hk : k < 560) (hr : r < 6) (h : ∀ r, r < 6 → k ≠ 92 * r + 89) : 10 + 560 * c + k ≠ 10 + 560 * c' + 92 * r + 89 := by
  have := h r hr
  rcases Nat.lt_trichotomy c c' with q | q | q
  · omega
  · subst q; omega
  · omega
theorem m_six (g1 : GG) : ∃ g', kl_X11_init_217 [.ref 188, .int (nI 0)] [] (hp g1 17 175) = some (none, hp g' 17 175) ∧ (∀ x, x ≠ 189 → g' x = g1 x) ∧ MCL g' 6 ∧ ∀ t, (t < 10 ∨ 3370 ≤ t) → g' 189 t = g1 189 t := by
  unfold kl_X11_init_217
  refine kFor 6 (by unfold FU; omega) (fun i ls h => ∃ g', ls = [.ref 188, .int (nI i)] ∧ h = hp g' 17 175 ∧ (∀ x, x ≠ 189 → g' x = g1 x) ∧ MCL g' i ∧ ∀ t, (t < 10 ∨ 3370 ≤ t) → g' 189 t = g1 189 t) (fun r => ∃ g', r = some (none, hp g' 17 175) ∧ (∀ x, x ≠ 189 → g' x = g1 x) ∧ MCL g' 6 ∧ ∀ t, (t < 10 ∨ 3370 ≤ t) → g' 189 t = g1 189 t) ?_ ?_ 0 _ _ (by omega) ⟨g1, rfl, rfl, fun _ _ => rfl, fun c hc => absurd hc (Nat.not_lt_zero _), fun _ _ => rfl⟩
  · rintro s ls h ⟨g', rfl, rfl, h1, h2, h3⟩
    have hin : (6 ≤ 6) = True := eq_true (by omega)
    simp (disch := first | assumption | omega) only [KL, KB, KC, KI, KJ, KZ, bI_0, bI_n, nI00, nI10, ne_eq, Classical.not_not, not_true_eq_false, not_false_eq_true, if_true, if_false, ite_not, ite_self, Bool.false_eq_true, nIne1, kMask, mask, mask_n, nIle, hin]
    exact ⟨g', rfl, h1, h2, h3⟩
  · rintro s i hi ih ls h ⟨g', rfl, rfl, h1, h2, h3⟩
    have hin : (6 ≤ i) = False := eq_false (by omega)
    obtain ⟨g3, p1, p2, p3, p4, p5, g4, e4, w1, w2, w3⟩ := m_clears g' 17 175 i 4 hi
    simp (disch := first | assumption | omega) only [KL, KB, KC, KI, KJ, KZ, bI_0, bI_n, nI00, nI10, ne_eq, Classical.not_not, not_true_eq_false, not_false_eq_true, if_true, if_false, ite_not, ite_self, Bool.false_eq_true, nIne1, kMask, mask, mask_n, O_mo, nIle, hin, e4, nI_add]
    refine ih _ _ ⟨g4, rfl, rfl, fun x hx => by rw [w1 x hx, p1 x hx]; exact h1 x hx, fun c hc => ⟨fun r hr => ?_, ?_, fun k hk k5 kn => ?_⟩, fun t ht => ?_⟩
    · rw [w2 c (by omega) r hr]
      have e3 : g3 189 (10 + 560 * c + 92 * r + 89) = -1 := by
        by_cases e : c = i
        · rw [e]; exact p2 r hr
        · rw [p5 _ (by omega)]; exact (h2 c (by omega)).1 r hr
      rw [e3]
      split <;> rfl
    · rw [w3 _ (fun c' hc' r hr => no_link (by omega) hr (fun r hr => by omega))]
      by_cases e : c = i
      · rw [e]; exact p3
      · rw [p5 _ (by omega)]; exact (h2 c (by omega)).2.1
    · rw [w3 _ (fun c' hc' r hr => no_link hk hr kn)]
      by_cases e : c = i
      · rw [e]; exact p4 k hk k5 kn
      · rw [p5 _ (by omega)]; exact (h2 c (by omega)).2.2 k hk k5 kn
    · rw [w3 _ (fun c' hc' r hr => by omega), p5 _ (by omega)]
      exact h3 t ht
set_option maxRecDepth 100000 in
theorem i_model {g : GG} {H : List (Nat × Nat)} (hI : INV 188 g H) (hn : ∀ i j, i < 188 → needP i j → (i, j) ∈ H) : ∃ g', f_X11_init [.ref 188] (HQ 189 9312 g H) = some (none, hp g' 17 175) ∧ (∀ a, a ≠ 188 → a ≠ 189 → g' a = g a) ∧ MCL g' 6 ∧ (∀ t, t < 10 → g' 189 t = if t = 2 then nI 1 else 0) ∧ (∀ t, 3370 ≤ t → g' 189 t = 0) ∧ g' 188 19 = -1 ∧ g' 188 33 = -1 ∧ g' 188 34 = -1 ∧ ∀ i, i ≠ 19 → i ≠ 33 → i ≠ 34 → g' 188 i = 0 := by
  have hI1 := hI.up (show 188 ≤ 189 by omega)
  have s197 : SH 188 = (51, 49) := rfl
  have s198 : SH 189 = (1, 6870) := rfl
  have s199 : SH 190 = (1, 6870) := rfl
  have s200 : SH 191 = (1, 48) := rfl
  have s201 : SH 192 = (1, 820) := rfl
  have s202 : SH 193 = (1, 400) := rfl
  have s203 : SH 194 = (1, 420) := rfl
  have s204 : SH 195 = (1, 17) := rfl
  have s205 : SH 196 = (1, 6) := rfl
  have s206 : SH 197 = (1, 6) := rfl
  have s207 : SH 198 = (1, 6) := rfl
  have s208 : SH 199 = (1, 6) := rfl
  have s209 : SH 200 = (1, 6) := rfl
  have s210 : SH 201 = (1, 6) := rfl
  have s211 : SH 202 = (1, 6) := rfl
  have s212 : SH 203 = (1, 6) := rfl
  have s213 : SH 204 = (1, 6) := rfl
  have s214 : SH 205 = (1, 6) := rfl
  have s215 : SH 206 = (1, 6) := rfl
  have s216 : SH 207 = (2, 6) := rfl
  have s217 : SH 208 = (1, 7) := rfl
  have s218 : SH 209 = (1, 36) := rfl
  have s219 : SH 210 = (1, 36) := rfl
  have s220 : SH 211 = (1, 36) := rfl
  have q0 : RR 17 175 188 0 = some 189 := rfl
  have q1 : RR 17 175 188 1 = some 190 := rfl
  have q3 : RR 17 175 188 3 = some 191 := rfl
  have q4 : RR 17 175 188 4 = some 192 := rfl
  have q5 : RR 17 175 188 5 = some 193 := rfl
  have q6 : RR 17 175 188 6 = some 194 := rfl
  have q7 : RR 17 175 188 7 = some 195 := rfl
  have q21 : RR 17 175 188 21 = some 196 := rfl
  have q22 : RR 17 175 188 22 = some 197 := rfl
  have q23 : RR 17 175 188 23 = some 198 := rfl
  have q24 : RR 17 175 188 24 = some 199 := rfl
  have q25 : RR 17 175 188 25 = some 200 := rfl
  have q26 : RR 17 175 188 26 = some 201 := rfl
  have q27 : RR 17 175 188 27 = some 202 := rfl
  have q28 : RR 17 175 188 28 = some 203 := rfl
  have q29 : RR 17 175 188 29 = some 204 := rfl
  have q30 : RR 17 175 188 30 = some 205 := rfl
  have q31 : RR 17 175 188 31 = some 206 := rfl
  have q32 : RR 17 175 188 32 = some 207 := rfl
  have q36 : RR 17 175 188 36 = some 208 := rfl
  have q46 : RR 17 175 188 46 = some 209 := rfl
  have q47 : RR 17 175 188 47 = some 210 := rfl
  have q48 : RR 17 175 188 48 = some 211 := rfl
  generalize hg1 : upd2 (upd2 (upd2 g 188 19 (-1)) 188 33 (-1)) 188 34 (-1) = g1
  have fr1 : ∀ a, a ≠ 188 → g1 a = g a := fun a ha => by rw [← hg1, uN ha, uN ha, uN ha]
  have hm0 : (188, 0) ∈ [(188, 48), (188, 47), (188, 46), (188, 36), (188, 32), (188, 31), (188, 30), (188, 29), (188, 28), (188, 27), (188, 26), (188, 25), (188, 24), (188, 23), (188, 22), (188, 21), (188, 7), (188, 6), (188, 5), (188, 4), (188, 3), (188, 1), (188, 0)] ++ H := by simp
  have full : ∀ i j, needP i j → (i, j) ∈ [(188, 48), (188, 47), (188, 46), (188, 36), (188, 32), (188, 31), (188, 30), (188, 29), (188, 28), (188, 27), (188, 26), (188, 25), (188, 24), (188, 23), (188, 22), (188, 21), (188, 7), (188, 6), (188, 5), (188, 4), (188, 3), (188, 1), (188, 0)] ++ H := fun i j hp' => by
    by_cases q : i < 188
    · exact List.mem_append_right _ (hn i j q hp')
    · have h197 : i = 188 ∧ (j = 0 ∨ j = 1 ∨ j = 3 ∨ j = 4 ∨ j = 5 ∨ j = 6 ∨ j = 7 ∨ j = 21 ∨ j = 22 ∨ j = 23 ∨ j = 24 ∨ j = 25 ∨ j = 26 ∨ j = 27 ∨ j = 28 ∨ j = 29 ∨ j = 30 ∨ j = 31 ∨ j = 32 ∨ j = 36 ∨ j = 46 ∨ j = 47 ∨ j = 48) := by
        unfold needP at hp'
        omega
      obtain ⟨rfl, hj⟩ := h197
      refine List.mem_append_left _ ?_
      rcases hj with rfl | rfl | rfl | rfl | rfl | rfl | rfl | rfl | rfl | rfl | rfl | rfl | rfl | rfl | rfl | rfl | rfl | rfl | rfl | rfl | rfl | rfl | rfl <;> simp
  obtain ⟨g2, e2, w1, w2, w3⟩ := m_six (upd2 g1 189 2 (nI 1))
  rw [← HQ_full full] at e2
  have gr := fun (k : KK) (ls st : List Value) => Q_gr (n := 212) (z := 24944) (g := g1) (ci := 11) (N := 49) (show 188 < 212 by omega) s197 hm0 q0 k ls st
  have ia := fun (k : KK) (ls st : List Value) (v : Int32) => Q_ias (n := 212) (z := 24944) (g := g1) (H := [(188, 48), (188, 47), (188, 46), (188, 36), (188, 32), (188, 31), (188, 30), (188, 29), (188, 28), (188, 27), (188, 26), (188, 25), (188, 24), (188, 23), (188, 22), (188, 21), (188, 7), (188, 6), (188, 5), (188, 4), (188, 3), (188, 1), (188, 0)] ++ H) (a := 189) (i := 2) (x := v) (by omega) s198 (by decide) (by decide) k ls st
  refine ⟨g2, ?_, fun a a1 a2 => by rw [w1 a a2, uN a2]; exact fr1 a a1, w2, fun t ht => ?_, fun t ht => ?_, ?_, ?_, ?_, fun i i1 i2 i3 => ?_⟩
  · rw [← hg1] at gr ia
    simp only [List.cons_append, List.nil_append] at gr ia e2 full
    rw [← HQ_full full, ← hg1] at *
    rw [← hg1] at e2
    simp (disch := first | assumption | omega | (repeat first | assumption | omega | apply INV.pi | apply INV.pr | (refine INV.up (by assumption) ?_))) only [f_X11_init, kb_X11_init_0, KL, KB, KC, KI, KJ, KZ, bI_0, bI_n, nI00, nI10, ne_eq, Classical.not_not, not_true_eq_false, not_false_eq_true, if_true, if_false, ite_not, ite_self, Bool.false_eq_true, nIne1, Q_obj, Q_newA, Q_pr, Q_pi, Nat.reduceAdd, Nat.add_assoc, gr, ia, e2]
  · rw [w3 t (Or.inl ht)]
    by_cases e : t = 2
    · rw [e, uS, if_pos rfl]
    · rw [uO (Or.inr e), if_neg e, fr1 189 (by omega)]; exact hI.2 _ _ (by omega)
  · rw [w3 t (Or.inr ht), uO (Or.inr (by omega)), fr1 189 (by omega)]; exact hI.2 _ _ (by omega)
  · rw [w1 188 (by omega), uN (by omega), ← hg1, uO (Or.inr (by omega)), uO (Or.inr (by omega))]; exact uS
  · rw [w1 188 (by omega), uN (by omega), ← hg1, uO (Or.inr (by omega))]; exact uS
  · rw [w1 188 (by omega), uN (by omega), ← hg1]; exact uS
  · rw [w1 188 (by omega), uN (by omega), ← hg1, uO (Or.inr i3), uO (Or.inr i2), uO (Or.inr i1)]; exact hI.2 _ _ (by omega)
