-- ===== what does not change =====
theorem XFa.congr {g g' : GG} {X w B : Nat} (h : XFa g X w B) (h1 : ∀ i, i < 30 → g' (X + 1) i = g (X + 1) i) (h2 : ∀ r, r < 6 → ∀ t, t < 5 → g' w (B + 92 * r + t) = g w (B + 92 * r + t)) : XFa g' X w B := by
  intro what hw r hr
  obtain ⟨v, a, b, c⟩ := h what hw r hr
  exact ⟨v, a, by rw [h1 _ (by omega)]; exact b, by rw [h2 r hr what hw]; exact c⟩
theorem cartR.congr {g g' : GG} {X w B n r q q' : Nat} {c : Option ACart} (h : cartR g X w B n r q c) (hr : r < 6) (hq : q ≤ q') (h1 : ∀ t, t < 6 → g' (X + 2) (6 * t + r) = g (X + 2) (6 * t + r)) (h2 : ∀ t, 18 ≤ t → t ≤ 24 → g' w (B + 92 * r + t) = g w (B + 92 * r + t)) : cartR g' X w B n r q' c := by
  have e0 := h1 0 (by omega)
  have e1 := h1 1 (by omega)
  have e2 := h1 2 (by omega)
  have e3 := h1 3 (by omega)
  have e4 := h1 4 (by omega)
  have e5 := h1 5 (by omega)
  simp only [Nat.mul_zero, Nat.zero_add, Nat.mul_one, show 6 * 2 = 12 from rfl, show 6 * 3 = 18 from rfl, show 6 * 4 = 24 from rfl, show 6 * 5 = 30 from rfl] at e0 e1 e2 e3 e4 e5
  cases c with
  | none =>
    obtain ⟨a, b⟩ := h
    exact ⟨by rw [e0]; exact a, by rw [h2 18 (by omega) (by omega)]; exact b⟩
  | some c =>
    obtain ⟨a1, a2, a3, a4, a5, b0, b1, b2, b3, b4, b5, c0, c1, c2, c3, c4, c5, c6⟩ := h
    refine ⟨a1, a2, a3, a4, Nat.le_trans a5 (by omega), ?_⟩
    rw [e0, e1, e2, e3, e4, e5, h2 18 (by omega) (by omega), h2 19 (by omega) (by omega), h2 20 (by omega) (by omega), h2 21 (by omega) (by omega), h2 22 (by omega) (by omega), h2 23 (by omega) (by omega), h2 24 (by omega) (by omega)]
    exact ⟨b0, b1, b2, b3, b4, b5, c0, c1, c2, c3, c4, c5, c6⟩
theorem XCa.congr {g g' : GG} {X w B n q q' : Nat} (h : XCa g X w B n q) (hq : q ≤ q') (h1 : ∀ i, i < 36 → g' (X + 2) i = g (X + 2) i) (h2 : ∀ r, r < 6 → ∀ t, 18 ≤ t → t ≤ 24 → g' w (B + 92 * r + t) = g w (B + 92 * r + t)) : XCa g' X w B n q' := by
  intro r hr
  obtain ⟨c, hc⟩ := h r hr
  exact ⟨c, hc.congr hr hq (fun t ht => h1 _ (by omega)) (fun t a b => h2 r hr t a b)⟩
theorem goodsR.congr {g g' : GG} {a i0 w j0 n r : Nat} {l : List (Nat × Nat × Nat)} (h : goodsR g a i0 w j0 n r l) (h1 : ∀ i, i < l.length → g' a (i0 + i) = g a (i0 + i)) (h2 : ∀ i, i < 3 * l.length → g' w (j0 + i) = g w (j0 + i)) : goodsR g' a i0 w j0 n r l := by
  intro i z hz
  have hi := (List.getElem?_eq_some_iff.mp hz).1
  obtain ⟨b0, b1, b2, b3, b4⟩ := h i z hz
  refine ⟨b0, by rw [h1 i hi]; exact b1, by rw [h2 _ (by omega)]; exact b2, ?_, ?_⟩
  · rw [Nat.add_assoc, h2 _ (by omega), ← Nat.add_assoc]; exact b3
  · rw [Nat.add_assoc, h2 _ (by omega), ← Nat.add_assoc]; exact b4
theorem XCo.congr {g g' : GG} {X w B n : Nat} (h : XCo g X w B n) (h1 : ∀ i, i < 12 → g' (X + 3) i = g (X + 3) i) (h2 : ∀ i, i < 6 → g' (X + 4) i = g (X + 4) i) (h3 : ∀ r, r < 6 → ∀ t, 5 ≤ t → t < 18 → g' w (B + 92 * r + t) = g w (B + 92 * r + t)) : XCo g' X w B n := by
  intro r hr
  obtain ⟨l, a1, a2, a3, a4, a5⟩ := h r hr
  refine ⟨l, a1, a2, by rw [h2 r hr]; exact a3, by rw [h3 r hr 5 (by omega) (by omega)]; exact a4, a5.congr (fun i hi => h1 _ (by omega)) (fun i hi => ?_)⟩
  rw [Nat.add_assoc (B + 92 * r), h3 r hr _ (by omega) (by omega)]
theorem XRo.congr {g g' : GG} {X w B n : Nat} (h : XRo g X w B n) (h1 : ∀ i, i < 120 → g' (X + 5) i = g (X + 5) i) (h2 : ∀ i, i < 6 → g' (X + 6) i = g (X + 6) i) (h3 : ∀ r, r < 6 → ∀ t, 25 ≤ t → t < 86 → g' w (B + 92 * r + t) = g w (B + 92 * r + t)) : XRo g' X w B n := by
  intro r hr
  obtain ⟨l, a1, a2, a3, a4, a5⟩ := h r hr
  refine ⟨l, a1, a2, by rw [h2 r hr]; exact a3, by rw [h3 r hr 25 (by omega) (by omega)]; exact a4, a5.congr (fun i hi => h1 _ (by omega)) (fun i hi => ?_)⟩
  rw [Nat.add_assoc (B + 92 * r), h3 r hr _ (by omega) (by omega)]
theorem XCt.congr {g g' : GG} {X w B n q q' : Nat} (h : XCt g X w B n q) (hq : q ≤ q') (h1 : ∀ i, i < 18 → g' (X + 7) i = g (X + 7) i) (h2 : ∀ r, r < 6 → ∀ t, 86 ≤ t → t < 89 → g' w (B + 92 * r + t) = g w (B + 92 * r + t)) : XCt g' X w B n q' := by
  intro t ht r hr
  obtain ⟨v, a1, a2, a3, a4⟩ := h t ht r hr
  refine ⟨v, Nat.le_trans a1 (by omega), a2, by rw [h1 _ (by omega)]; exact a3, ?_⟩
  rw [Nat.add_assoc (B + 92 * r), h2 r hr _ (by omega) (by omega), ← Nat.add_assoc]; exact a4
theorem XTo.congr {g g' : GG} {X w B q q' : Nat} (h : XTo g X w B q) (hq : q ≤ q') (h1 : ∀ i, i < 3 → g' (X + 8) i = g (X + 8) i) (h2 : ∀ t, 553 ≤ t → t < 556 → g' w (B + t) = g w (B + t)) : XTo g' X w B q' := by
  intro t ht
  obtain ⟨v, a1, a3, a4⟩ := h t ht
  refine ⟨v, Nat.le_trans a1 (by omega), by rw [h1 _ ht]; exact a3, ?_⟩
  rw [Nat.add_assoc, h2 _ (by omega) (by omega), ← Nat.add_assoc]; exact a4
theorem XLi.congr {g g' : GG} {X w B n : Nat} (h : XLi g X w B n) (h1 : ∀ i, i < 18 → g' (X + 9) i = g (X + 9) i) (h2 : ∀ r, r < 6 → ∀ t, 89 ≤ t → t < 92 → g' w (B + 92 * r + t) = g w (B + 92 * r + t)) : XLi g' X w B n := by
  intro r hr
  rcases h r hr with ⟨a, b⟩ | ⟨to, ro, room, a1, a2, a3, a4, b1, b2, b3, c1, c2, c3⟩
  · exact Or.inl ⟨by rw [h1 r (by omega)]; exact a, by rw [h2 r hr 89 (by omega) (by omega)]; exact b⟩
  · exact Or.inr ⟨to, ro, room, a1, a2, a3, a4, by rw [h1 _ (by omega)]; exact b1, by rw [h1 _ (by omega)]; exact b2, by rw [h1 _ (by omega)]; exact b3, by rw [h2 r hr 89 (by omega) (by omega)]; exact c1, by rw [h2 r hr 90 (by omega) (by omega)]; exact c2, by rw [h2 r hr 91 (by omega) (by omega)]; exact c3⟩
theorem XRn.congr {g g' : GG} {X w B n q q' : Nat} (h : XRn g X w B n q) (hq : q ≤ q') (h1 : ∀ a, X ≤ a → a ≤ X + 9 → g' a = g a) (h2 : ∀ i, i < 560 → g' w (B + i) = g w (B + i)) : XRn g' X w B n q' := by
  have h3 : ∀ r, r < 6 → ∀ t, t < 92 → g' w (B + 92 * r + t) = g w (B + 92 * r + t) := fun r hr t ht => by rw [Nat.add_assoc, h2 _ (by omega)]
  obtain ⟨n3, n6, e1, e2, f1, f2, f3, f4, f5, f6, f7⟩ := h
  exact ⟨n3, n6, by rw [h1 X (by omega) (by omega)]; exact e1, by rw [h2 552 (by omega)]; exact e2,
    f1.congr (fun i _ => by rw [h1 _ (by omega) (by omega)]) (fun r hr t ht => h3 r hr t (by omega)),
    f2.congr hq (fun i _ => by rw [h1 _ (by omega) (by omega)]) (fun r hr t _ _ => h3 r hr t (by omega)),
    f3.congr (fun i _ => by rw [h1 _ (by omega) (by omega)]) (fun i _ => by rw [h1 _ (by omega) (by omega)]) (fun r hr t _ _ => h3 r hr t (by omega)),
    f4.congr (fun i _ => by rw [h1 _ (by omega) (by omega)]) (fun i _ => by rw [h1 _ (by omega) (by omega)]) (fun r hr t _ _ => h3 r hr t (by omega)),
    f5.congr hq (fun i _ => by rw [h1 _ (by omega) (by omega)]) (fun r hr t _ _ => h3 r hr t (by omega)),
    f6.congr hq (fun i _ => by rw [h1 _ (by omega) (by omega)]) (fun t _ _ => h2 t (by omega)),
    f7.congr (fun i _ => by rw [h1 _ (by omega) (by omega)]) (fun r hr t _ _ => h3 r hr t (by omega))⟩
theorem XR.congr {g g' : GG} {X w B q q' : Nat} (h : XR g X w B q) (hq : q ≤ q') (h1 : ∀ a, X ≤ a → a ≤ X + 9 → g' a = g a) (h2 : ∀ i, i < 560 → g' w (B + i) = g w (B + i)) : XR g' X w B q' := by
  obtain ⟨n, h⟩ := h
  exact ⟨n, h.congr hq h1 h2⟩
theorem lnB_le (rl : ARule) (i : Nat) : lnB rl i ≤ (allS rl).length := by
  unfold lnB allS
  rw [List.length_flatMap]
  have h : rl.map (fun q => q.2.length) = (rl.take i).map (fun q => q.2.length) ++ (rl.drop i).map (fun q => q.2.length) := by rw [← List.map_append, List.take_append_drop]
  rw [h, List.sum_append]
  omega
theorem ruleC.congr {g g' : GG} {q : Nat} {rl : ARule} (h : ruleC g q rl) (h1 : ∀ a, q ≤ a → a ≤ q + 2 → g' a = g a) : ruleC g' q rl := by
  obtain ⟨a, b, c, d, e⟩ := h
  exact ⟨by rw [h1 q (by omega) (by omega)]; exact a, by rw [h1 q (by omega) (by omega)]; exact b, by rw [h1 q (by omega) (by omega)]; exact c, fun i hi => by rw [h1 _ (by omega) (by omega)]; exact d i hi, fun t z hz => by rw [h1 _ (by omega) (by omega)]; exact e t z hz⟩
theorem ruleM.congr {g g' : GG} {w k : Nat} {rl : ARule} (h : ruleM g w k rl) (hw : wfR rl) (hk : k < 4) (h1 : ∀ i, 3380 ≤ i → i < 6870 → g' w i = g w i) : ruleM g' w k rl := by
  obtain ⟨a, b, c⟩ := h
  obtain ⟨w1, w2, -⟩ := hw
  refine ⟨by rw [h1 _ (by omega) (by omega)]; exact a, fun i z hz => ?_, fun t z hz => ?_⟩
  · have hi := (List.getElem?_eq_some_iff.mp hz).1
    obtain ⟨b1, b2, b3⟩ := b i z hz
    exact ⟨by rw [h1 _ (by omega) (by omega)]; exact b1, by rw [h1 _ (by omega) (by omega)]; exact b2, by rw [h1 _ (by omega) (by omega)]; exact b3⟩
  · have ht := (List.getElem?_eq_some_iff.mp hz).1
    obtain ⟨c1, c2⟩ := c t z hz
    exact ⟨by rw [h1 _ (by omega) (by omega)]; exact c1, fun h => by rw [h1 _ (by omega) (by omega)]; exact c2 h⟩
theorem WR.congr {g g' : GG} {b w q q' : Nat} (h : WR g b w q) (hq : q ≤ q') (h1 : ∀ a, b + 1 ≤ a → a ≤ b + 76 → g' a = g a) (h2 : ∀ i, i < 6870 → g' w i = g w i) : WR g' b w q' := by
  obtain ⟨a1, a2, a3, a4⟩ := h
  refine ⟨by rw [h1 _ (by omega) (by omega), h2 _ (by omega)]; exact a1, fun k hk => ?_, fun k hk => ?_, fun c hc => ?_⟩
  · obtain ⟨v, v1, v2, v3⟩ := a2 k hk
    exact ⟨v, v1, by rw [h1 _ (by omega) (by omega)]; exact v2, by rw [h2 _ (by omega)]; exact v3⟩
  · obtain ⟨rl, r1, r2, r3⟩ := a3 k hk
    exact ⟨rl, r1, r2.congr (fun a _ _ => h1 a (by omega) (by omega)), r3.congr r1 hk (fun i _ hi => h2 i hi)⟩
  · exact (a4 c hc).congr hq (fun a _ _ => h1 a (by omega) (by omega)) (fun i hi => h2 _ (by omega))
theorem tapeR.congr {g g' : GG} (h : tapeR g) (h1 : g' 158 = g 158) (h2 : g' 159 = g 159) (h3 : g' 188 10 = g 188 10) (h4 : g' 193 = g 193) : tapeR g' := by
  obtain ⟨L, a, b, c, d, e, f⟩ := h
  exact ⟨L, a, by rw [h1]; exact b, by rw [h3]; exact c, fun i hi => by rw [h2, h4]; exact d i hi, by rw [h1]; exact e, by rw [h1]; exact f⟩
theorem imgR.congr {g g' : GG} {q q' : Nat} (h : imgR g q) (hq : q ≤ q') (h1 : g' 0 7 = g 0 7) (h2 : g' 188 2 = g 188 2) (h3 : ∀ a, 82 ≤ a → a ≤ 157 → g' a = g a) (h4 : g' 190 = g 190) : imgR g' q' := by
  rcases h with ⟨a, b⟩ | ⟨a, b, c⟩
  · exact Or.inl ⟨by rw [h1]; exact a, by rw [h2]; exact b⟩
  · exact Or.inr ⟨by rw [h1]; exact a, by rw [h2]; exact b, c.congr hq (fun a _ _ => h3 a (by omega) (by omega)) (fun i _ => by rw [h4])⟩
theorem ORD.congr {g g' : GG} (h : ORD g) (h1 : ∀ a, 172 ≤ a → a ≤ 183 → g' a = g a) : ORD g' := by
  intro n h3 h6
  obtain ⟨a, b⟩ := h n h3 h6
  refine ⟨by rw [h1 _ (by omega) (by omega)]; exact a, fun k hk r hr => ?_⟩
  obtain ⟨c, d⟩ := b k hk r hr
  exact ⟨by rw [h1 _ (by omega) (by omega)]; exact c, by rw [h1 _ (by omega) (by omega)]; exact d⟩
theorem RT_mono (j : Nat) (g : GG) (m o : Nat) (h : RT j g m o) : RT (j + 1) g m o := by
  obtain ⟨a, b, c, d, e, f⟩ := h
  exact ⟨a.congr (by omega) (fun _ _ _ => rfl) (fun _ _ => rfl), b, c, d, e.congr (by omega) rfl rfl (fun _ _ _ => rfl) rfl, f⟩
/-- what R reads but the live world -/
theorem RT_other {q : Nat} {g g' : GG} {m o m' o' : Nat} (h : RT q g m o) (hw : WR g' 0 189 (q + 1)) (h1 : ∀ a, 82 ≤ a → a ≤ 160 → g' a = g a) (h2 : g' 0 7 = g 0 7) (h3 : ∀ a, 172 ≤ a → a ≤ 183 → g' a = g a) (h4 : g' 190 = g 190) (h5 : g' 193 = g 193) (h6 : ∀ i, i = 2 ∨ i = 10 ∨ i = 17 ∨ i = 19 ∨ i = 33 ∨ i = 34 ∨ i = 35 → g' 188 i = g 188 i) : RT (q + 1) g' m' o' := by
  obtain ⟨a, b, c, d, e, f, s1, s2, s3⟩ := h
  have z := fun i h => h6 i h
  exact ⟨hw, b.congr (h1 158 (by omega) (by omega)) (h1 159 (by omega) (by omega)) (z 10 (by omega)) h5, by rw [h1 158 (by omega) (by omega), z 17 (by omega)]; exact c, by rw [h1 158 (by omega) (by omega), z 19 (by omega)]; exact d, e.congr (by omega) h2 (z 2 (by omega)) (fun a p q => h1 a (by omega) (by omega)) h4, f.congr h3, by rw [z 33 (by omega)]; exact s1, by rw [z 34 (by omega)]; exact s2, by rw [z 35 (by omega)]; exact s3⟩
