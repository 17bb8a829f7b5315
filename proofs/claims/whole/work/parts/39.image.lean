-- ===== the same, moved to other cells (a copy); image =====
theorem XFa.move {g g' : GG} {X X' w w' B : Nat} (h : XFa g X w B) (h1 : ∀ i, i < 30 → g' (X' + 1) i = g (X + 1) i) (h2 : ∀ r, r < 6 → ∀ t, t < 5 → g' w' (B + 92 * r + t) = g w (B + 92 * r + t)) : XFa g' X' w' B := by
  intro what hw r hr
  obtain ⟨v, a, b, c⟩ := h what hw r hr
  exact ⟨v, a, by rw [h1 _ (by omega)]; exact b, by rw [h2 r hr what hw]; exact c⟩
theorem cartR.move {g g' : GG} {X X' w w' B n r q q' : Nat} {c : Option ACart} (h : cartR g X w B n r q c) (hr : r < 6) (hq : q ≤ q') (h1 : ∀ t, t < 6 → g' (X' + 2) (6 * t + r) = g (X + 2) (6 * t + r)) (h2 : ∀ t, 18 ≤ t → t ≤ 24 → g' w' (B + 92 * r + t) = g w (B + 92 * r + t)) : cartR g' X' w' B n r q' c := by
  have e0 := h1 0 (by omega)
  have e1 := h1 1 (by omega)
  have e2 := h1 2 (by omega)
  have e3 := h1 3 (by omega)
  have e4 := h1 4 (by omega)
  have e5 := h1 5 (by omega)
  simp only [Nat.mul_zero, Nat.zero_add, Nat.mul_one, show 6 * 2 = 12 from rfl, show 6 * 3 = 18 from rfl, show 6 * 4 = 24 from rfl, show 6 * 5 = 30 from rfl] at e0 e1 e2 e3 e4 e5
  cases c with
  | none =>
    obtain ⟨a, b⟩ := h
    exact ⟨by rw [e0]; exact a, by rw [h2 18 (by omega) (by omega)]; exact b⟩
  | some c =>
    obtain ⟨a1, a2, a3, a4, a5, b0, b1, b2, b3, b4, b5, c0, c1, c2, c3, c4, c5, c6⟩ := h
    refine ⟨a1, a2, a3, a4, Nat.le_trans a5 (by omega), ?_⟩
    rw [e0, e1, e2, e3, e4, e5, h2 18 (by omega) (by omega), h2 19 (by omega) (by omega), h2 20 (by omega) (by omega), h2 21 (by omega) (by omega), h2 22 (by omega) (by omega), h2 23 (by omega) (by omega), h2 24 (by omega) (by omega)]
    exact ⟨b0, b1, b2, b3, b4, b5, c0, c1, c2, c3, c4, c5, c6⟩
theorem XCa.move {g g' : GG} {X X' w w' B n q q' : Nat} (h : XCa g X w B n q) (hq : q ≤ q') (h1 : ∀ i, i < 36 → g' (X' + 2) i = g (X + 2) i) (h2 : ∀ r, r < 6 → ∀ t, 18 ≤ t → t ≤ 24 → g' w' (B + 92 * r + t) = g w (B + 92 * r + t)) : XCa g' X' w' B n q' := by
  intro r hr
  obtain ⟨c, hc⟩ := h r hr
  exact ⟨c, hc.move hr hq (fun t ht => h1 _ (by omega)) (fun t a b => h2 r hr t a b)⟩
theorem goodsR.move {g g' : GG} {a a' i0 w w' j0 n r : Nat} {l : List (Nat × Nat × Nat)} (h : goodsR g a i0 w j0 n r l) (h1 : ∀ i, i < l.length → g' a' (i0 + i) = g a (i0 + i)) (h2 : ∀ i, i < 3 * l.length → g' w' (j0 + i) = g w (j0 + i)) : goodsR g' a' i0 w' j0 n r l := by
  intro i z hz
  have hi := (List.getElem?_eq_some_iff.mp hz).1
  obtain ⟨b0, b1, b2, b3, b4⟩ := h i z hz
  refine ⟨b0, by rw [h1 i hi]; exact b1, by rw [h2 _ (by omega)]; exact b2, ?_, ?_⟩
  · rw [Nat.add_assoc, h2 _ (by omega), ← Nat.add_assoc]; exact b3
  · rw [Nat.add_assoc, h2 _ (by omega), ← Nat.add_assoc]; exact b4
theorem XCo.move {g g' : GG} {X X' w w' B n : Nat} (h : XCo g X w B n) (h1 : ∀ i, i < 12 → g' (X' + 3) i = g (X + 3) i) (h2 : ∀ i, i < 6 → g' (X' + 4) i = g (X + 4) i) (h3 : ∀ r, r < 6 → ∀ t, 5 ≤ t → t < 18 → g' w' (B + 92 * r + t) = g w (B + 92 * r + t)) : XCo g' X' w' B n := by
  intro r hr
  obtain ⟨l, a1, a2, a3, a4, a5⟩ := h r hr
  refine ⟨l, a1, a2, by rw [h2 r hr]; exact a3, by rw [h3 r hr 5 (by omega) (by omega)]; exact a4, a5.move (fun i hi => h1 _ (by omega)) (fun i hi => ?_)⟩
  rw [Nat.add_assoc (B + 92 * r), h3 r hr _ (by omega) (by omega)]
theorem XRo.move {g g' : GG} {X X' w w' B n : Nat} (h : XRo g X w B n) (h1 : ∀ i, i < 120 → g' (X' + 5) i = g (X + 5) i) (h2 : ∀ i, i < 6 → g' (X' + 6) i = g (X + 6) i) (h3 : ∀ r, r < 6 → ∀ t, 25 ≤ t → t < 86 → g' w' (B + 92 * r + t) = g w (B + 92 * r + t)) : XRo g' X' w' B n := by
  intro r hr
  obtain ⟨l, a1, a2, a3, a4, a5⟩ := h r hr
  refine ⟨l, a1, a2, by rw [h2 r hr]; exact a3, by rw [h3 r hr 25 (by omega) (by omega)]; exact a4, a5.move (fun i hi => h1 _ (by omega)) (fun i hi => ?_)⟩
  rw [Nat.add_assoc (B + 92 * r), h3 r hr _ (by omega) (by omega)]
theorem XCt.move {g g' : GG} {X X' w w' B n q q' : Nat} (h : XCt g X w B n q) (hq : q ≤ q') (h1 : ∀ i, i < 18 → g' (X' + 7) i = g (X + 7) i) (h2 : ∀ r, r < 6 → ∀ t, 86 ≤ t → t < 89 → g' w' (B + 92 * r + t) = g w (B + 92 * r + t)) : XCt g' X' w' B n q' := by
  intro t ht r hr
  obtain ⟨v, a1, a2, a3, a4⟩ := h t ht r hr
  refine ⟨v, Nat.le_trans a1 (by omega), a2, by rw [h1 _ (by omega)]; exact a3, ?_⟩
  rw [Nat.add_assoc (B + 92 * r), h2 r hr _ (by omega) (by omega), ← Nat.add_assoc]; exact a4
theorem XTo.move {g g' : GG} {X X' w w' B q q' : Nat} (h : XTo g X w B q) (hq : q ≤ q') (h1 : ∀ i, i < 3 → g' (X' + 8) i = g (X + 8) i) (h2 : ∀ t, 553 ≤ t → t < 556 → g' w' (B + t) = g w (B + t)) : XTo g' X' w' B q' := by
  intro t ht
  obtain ⟨v, a1, a3, a4⟩ := h t ht
  refine ⟨v, Nat.le_trans a1 (by omega), by rw [h1 _ ht]; exact a3, ?_⟩
  rw [Nat.add_assoc, h2 _ (by omega) (by omega), ← Nat.add_assoc]; exact a4
theorem XLi.move {g g' : GG} {X X' w w' B n : Nat} (h : XLi g X w B n) (h1 : ∀ i, i < 18 → g' (X' + 9) i = g (X + 9) i) (h2 : ∀ r, r < 6 → ∀ t, 89 ≤ t → t < 92 → g' w' (B + 92 * r + t) = g w (B + 92 * r + t)) : XLi g' X' w' B n := by
  intro r hr
  rcases h r hr with ⟨a, b⟩ | ⟨to, ro, room, a1, a2, a3, a4, b1, b2, b3, c1, c2, c3⟩
  · exact Or.inl ⟨by rw [h1 r (by omega)]; exact a, by rw [h2 r hr 89 (by omega) (by omega)]; exact b⟩
  · exact Or.inr ⟨to, ro, room, a1, a2, a3, a4, by rw [h1 _ (by omega)]; exact b1, by rw [h1 _ (by omega)]; exact b2, by rw [h1 _ (by omega)]; exact b3, by rw [h2 r hr 89 (by omega) (by omega)]; exact c1, by rw [h2 r hr 90 (by omega) (by omega)]; exact c2, by rw [h2 r hr 91 (by omega) (by omega)]; exact c3⟩
theorem XRn.move {g g' : GG} {X X' w w' B n q : Nat} (h : XRn g X w B n q) (h0 : g' X' 0 = g X 0) (h1 : ∀ i, i < 30 → g' (X' + 1) i = g (X + 1) i) (h2 : ∀ i, i < 36 → g' (X' + 2) i = g (X + 2) i) (h3 : ∀ i, i < 12 → g' (X' + 3) i = g (X + 3) i) (h4 : ∀ i, i < 6 → g' (X' + 4) i = g (X + 4) i) (h5 : ∀ i, i < 120 → g' (X' + 5) i = g (X + 5) i) (h6 : ∀ i, i < 6 → g' (X' + 6) i = g (X + 6) i) (h7 : ∀ i, i < 18 → g' (X' + 7) i = g (X + 7) i) (h8 : ∀ i, i < 3 → g' (X' + 8) i = g (X + 8) i) (h9 : ∀ i, i < 18 → g' (X' + 9) i = g (X + 9) i) (hm : ∀ i, i < 560 → g' w' (B + i) = g w (B + i)) : XRn g' X' w' B n q := by
  have hz : ∀ r, r < 6 → ∀ t, t < 92 → g' w' (B + 92 * r + t) = g w (B + 92 * r + t) := fun r hr t ht => by rw [Nat.add_assoc, hm _ (by omega)]
  obtain ⟨n3, n6, e1, e2, f1, f2, f3, f4, f5, f6, f7⟩ := h
  exact ⟨n3, n6, by rw [h0]; exact e1, by rw [hm 552 (by omega)]; exact e2,
    f1.move h1 (fun r hr t ht => hz r hr t (by omega)),
    f2.move (Nat.le_refl _) h2 (fun r hr t _ _ => hz r hr t (by omega)),
    f3.move h3 h4 (fun r hr t _ _ => hz r hr t (by omega)),
    f4.move h5 h6 (fun r hr t _ _ => hz r hr t (by omega)),
    f5.move (Nat.le_refl _) h7 (fun r hr t _ _ => hz r hr t (by omega)),
    f6.move (Nat.le_refl _) h8 (fun t _ _ => hm t (by omega)),
    f7.move h9 (fun r hr t _ _ => hz r hr t (by omega))⟩
theorem ruleC.move {g g' : GG} {q q' : Nat} {rl : ARule} (h : ruleC g q rl) (hw : wfR rl) (h0 : ∀ i, i < 3 → g' q' i = g q i) (h1 : ∀ i, i < 17 → g' (q' + 1) i = g (q + 1) i) (h2 : ∀ i, i < 400 → g' (q' + 2) i = g (q + 2) i) : ruleC g' q' rl := by
  obtain ⟨a, b, c, d, e⟩ := h
  obtain ⟨w1, w2, -⟩ := hw
  refine ⟨by rw [h0 0 (by omega)]; exact a, by rw [h0 1 (by omega)]; exact b, by rw [h0 2 (by omega)]; exact c, fun i hi => ?_, fun t z hz => ?_⟩
  · rw [h1 i (by omega)]; exact d i hi
  · rw [h2 t (by have := (List.getElem?_eq_some_iff.mp hz).1; omega)]; exact e t z hz
theorem ruleM.move {g g' : GG} {w w' k : Nat} {rl : ARule} (h : ruleM g w k rl) (hw : wfR rl) (hk : k < 4) (h1 : ∀ i, 3380 ≤ i → i < 6870 → g' w' i = g w i) : ruleM g' w' k rl := by
  obtain ⟨a, b, c⟩ := h
  obtain ⟨w1, w2, -⟩ := hw
  refine ⟨by rw [h1 _ (by omega) (by omega)]; exact a, fun i z hz => ?_, fun t z hz => ?_⟩
  · have hi := (List.getElem?_eq_some_iff.mp hz).1
    obtain ⟨b1, b2, b3⟩ := b i z hz
    exact ⟨by rw [h1 _ (by omega) (by omega)]; exact b1, by rw [h1 _ (by omega) (by omega)]; exact b2, by rw [h1 _ (by omega) (by omega)]; exact b3⟩
  · have ht := (List.getElem?_eq_some_iff.mp hz).1
    obtain ⟨c1, c2⟩ := c t z hz
    exact ⟨by rw [h1 _ (by omega) (by omega)]; exact c1, fun h => by rw [h1 _ (by omega) (by omega)]; exact c2 h⟩
/-- how many cells the object b + a of a world has that are told -/
def wsz (a : Nat) : Nat := if a = 1 then 1 else if a = 2 then 2 else if a ≤ 4 then 0 else if a ≤ 16 then (match (a - 5) % 3 with | 0 => 3 | 1 => 17 | _ => 400) else (match (a - 17) % 10 with | 0 => 1 | 1 => 30 | 2 => 36 | 3 => 12 | 4 => 6 | 5 => 120 | 6 => 6 | 7 => 18 | 8 => 3 | _ => 18)
theorem wsz_r0 : ∀ k, k < 4 → ∀ t, t < 3 → wsz (5 + 3 * k + t) = (match t with | 0 => 3 | 1 => 17 | _ => 400) := by decide +kernel
theorem wsz_x : ∀ c, c < 6 → ∀ t, t < 10 → wsz (17 + 10 * c + t) = (match t with | 0 => 1 | 1 => 30 | 2 => 36 | 3 => 12 | 4 => 6 | 5 => 120 | 6 => 6 | 7 => 18 | 8 => 3 | _ => 18) := by decide +kernel
theorem WR.move {g g' : GG} {b b' w w' q : Nat} (h : WR g b w q) (h1 : ∀ a, a ≤ 76 → ∀ i, i < wsz a → g' (b' + a) i = g (b + a) i) (h2 : ∀ i, i < 6870 → g' w' i = g w i) : WR g' b' w' q := by
  obtain ⟨a1, a2, a3, a4⟩ := h
  refine ⟨by rw [h1 1 (by omega) 0 (by decide), h2 _ (by omega)]; exact a1, fun k hk => ?_, fun k hk => ?_, fun c hc => ?_⟩
  · obtain ⟨v, v1, v2, v3⟩ := a2 k hk
    exact ⟨v, v1, by rw [h1 2 (by omega) k hk]; exact v2, by rw [h2 _ (by omega)]; exact v3⟩
  · obtain ⟨rl, r1, r2, r3⟩ := a3 k hk
    have hs := wsz_r0 k hk
    refine ⟨rl, r1, ?_, r3.move r1 hk (fun i _ hi => h2 i hi)⟩
    rw [Nat.add_assoc] at r2 ⊢
    exact r2.move r1 (fun i hi => h1 (5 + 3 * k) (by omega) i (by have z := hs 0 (by omega); rw [Nat.add_zero] at z; rw [z]; exact hi)) (fun i hi => h1 (5 + 3 * k + 1) (by omega) i (by rw [hs 1 (by omega)]; exact hi)) (fun i hi => h1 (5 + 3 * k + 2) (by omega) i (by rw [hs 2 (by omega)]; exact hi))
  · obtain ⟨n, hx⟩ := a4 c hc
    have hs := wsz_x c hc
    refine ⟨n, ?_⟩
    rw [Nat.add_assoc] at hx ⊢
    exact hx.move (h1 (17 + 10 * c) (by omega) 0 (by have z := hs 0 (by omega); rw [Nat.add_zero] at z; rw [z]; decide)) (fun i hi => h1 (17 + 10 * c + 1) (by omega) i (by rw [hs 1 (by omega)]; exact hi)) (fun i hi => h1 (17 + 10 * c + 2) (by omega) i (by rw [hs 2 (by omega)]; exact hi)) (fun i hi => h1 (17 + 10 * c + 3) (by omega) i (by rw [hs 3 (by omega)]; exact hi)) (fun i hi => h1 (17 + 10 * c + 4) (by omega) i (by rw [hs 4 (by omega)]; exact hi)) (fun i hi => h1 (17 + 10 * c + 5) (by omega) i (by rw [hs 5 (by omega)]; exact hi)) (fun i hi => h1 (17 + 10 * c + 6) (by omega) i (by rw [hs 6 (by omega)]; exact hi)) (fun i hi => h1 (17 + 10 * c + 7) (by omega) i (by rw [hs 7 (by omega)]; exact hi)) (fun i hi => h1 (17 + 10 * c + 8) (by omega) i (by rw [hs 8 (by omega)]; exact hi)) (fun i hi => h1 (17 + 10 * c + 9) (by omega) i (by rw [hs 9 (by omega)]; exact hi)) (fun i hi => h2 _ (by omega))
