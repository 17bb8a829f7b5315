-- ===== crossing: the agreement =====
theorem newX_ne {g : GG} {X a : Nat} {n : Int32} (h : a < X ∨ X + 9 < a ∨ a = X + 3 ∨ a = X + 5) : newX g X n a = g a := by
  unfold newX
  rw [flA_ne (by omega), flA_ne (by omega), flA_ne (by omega), flA_ne (by omega), flA_ne (by omega), flA_ne (by omega), flA_ne (by omega), uN (by omega)]
theorem newX_at (g : GG) (X : Nat) (n : Int32) : newX g X n X 0 = n ∧ (∀ i, i < 30 → newX g X n (X + 1) i = nI 0) ∧ (∀ i, i < 36 → newX g X n (X + 2) i = -1) ∧ (∀ i, i < 6 → newX g X n (X + 4) i = nI 0) ∧ (∀ i, i < 6 → newX g X n (X + 6) i = nI 0) ∧ (∀ i, i < 18 → newX g X n (X + 7) i = nI 0) ∧ (∀ i, i < 3 → newX g X n (X + 8) i = nI 0) ∧ ∀ i, i < 18 → newX g X n (X + 9) i = -1 := by
  unfold newX
  refine ⟨?_, fun i hi => ?_, fun i hi => ?_, fun i hi => ?_, fun i hi => ?_, fun i hi => ?_, fun i hi => ?_, fun i hi => ?_⟩
  · rw [flA_ne (by omega), flA_ne (by omega), flA_ne (by omega), flA_ne (by omega), flA_ne (by omega), flA_ne (by omega), flA_ne (by omega), uS]
  · rw [flA_ne (by omega), flA_ne (by omega), flA_ne (by omega), flA_ne (by omega), flA_ne (by omega), flA_ne (by omega), flA_in hi]
  · rw [flA_ne (by omega), flA_ne (by omega), flA_ne (by omega), flA_ne (by omega), flA_ne (by omega), flA_in hi]
  · rw [flA_ne (by omega), flA_ne (by omega), flA_ne (by omega), flA_ne (by omega), flA_in hi]
  · rw [flA_ne (by omega), flA_ne (by omega), flA_ne (by omega), flA_in hi]
  · rw [flA_ne (by omega), flA_ne (by omega), flA_in hi]
  · rw [flA_ne (by omega), flA_in hi]
  · rw [flA_in hi]
theorem link_ne {c c' r r' k : Nat} (hr : r < 6) (hr' : r' < 6) (hk : k < 92) (h9 : k ≠ 89) : 10 + 560 * c + 92 * r + k ≠ 10 + 560 * c' + 92 * r' + 89 := by
  rcases Nat.lt_trichotomy c c' with h | rfl | h
  · omega
  · rcases Nat.lt_trichotomy r r' with h | rfl | h <;> omega
  · omega
theorem iteSame (p : Prop) [Decidable p] (v : Int32) : (if p then v else v) = v := by split <;> rfl
theorem ag_crossing (a0 a1 : Int32) : Ag RT f_X10_crossing f_X11_crossing [.int a0, .int a1] := by
  intro j g m o hj hR
  rcases in_cases a0 5 (by decide) with ⟨c, hc, rfl⟩ | h0
  · have hc6 : c < 6 := by omega
    have hyc : (nI 0 ≤ nI c ∧ nI c ≤ nI 5) = True := eq_true (in_yes hc (by omega))
    have hX := isX_live c hc6
    by_cases h3 : a1 < nI 3
    · have hn : ¬ (nI 3 ≤ a1 ∧ a1 ≤ nI 6) := fun q => Int32.not_le.mpr h3 q.1
      refine ⟨nI 0, g, m, o, g, ?_, ?_, RT_mono _ _ _ _ hR⟩
      · simp (disch := first | assumption | omega) only [f_X10_crossing, kb_X10_crossing_21, kb_X10_crossing_0, KL, KB, KC, KI, KJ, KZ, bI_0, bI_n, nI00, nI10, ne_eq, Classical.not_not, not_true_eq_false, not_false_eq_true, if_true, if_false, ite_not, ite_self, Bool.false_eq_true, nIne1, O_fp, c_at g m o c hc6, h3]
      · simp (disch := first | assumption | omega) only [f_X11_crossing, kb_X11_crossing_17, kb_X11_crossing_0, KL, KB, KC, KI, KJ, KZ, bI_0, bI_n, nI00, nI10, ne_eq, Classical.not_not, not_true_eq_false, not_false_eq_true, if_true, if_false, ite_not, ite_self, Bool.false_eq_true, nIne1, O_mo, m_isCrossing, m_isIn, hyc, hn]
    · by_cases h6 : a1 ≤ nI 6
      · obtain ⟨n, rfl, n3, n6⟩ : ∃ n, a1 = nI n ∧ 3 ≤ n ∧ n ≤ 6 := by
          rcases in_cases a1 6 (by decide) with ⟨n, h, rfl⟩ | h
          · refine ⟨n, rfl, ?_, h⟩
            rw [nIlt (by omega) (by omega)] at h3
            omega
          · exact absurd ⟨Int32.le_trans (by decide) (Int32.not_lt.mp h3), h6⟩ h
        have hn : (nI 3 ≤ nI n ∧ nI n ≤ nI 6) = True := eq_true ⟨by rw [nIle (by omega) (by omega)]; exact n3, h6⟩
        have hN : ∃ N : Nat → Nat, ∀ c', c' < 6 → XRn g (17 + 10 * c') 189 (10 + 560 * c') (N c') j := by
          refine ⟨fun c => if h : c < 6 then Classical.choose (hR.at h) else 0, fun c hc => ?_⟩
          simp only [dif_pos hc]
          exact Classical.choose_spec (hR.at hc)
        obtain ⟨N, hN⟩ := hN
        obtain ⟨w0, w1, w2, w3, w4, w5, w6, w7⟩ := newX_at g (17 + 10 * c) (nI n)
        obtain ⟨g2, e2, p1, p2⟩ := forgets_c (newX g (17 + 10 * c) (nI n)) m o c hc6 (fun c' => if c' = c then n else N c') (fun c' hc' => by
          by_cases q : c' = c
          · subst q; simp only [if_true]; exact ⟨w0, n6⟩
          · simp only [if_neg q]
            rw [newX_ne (by omega)]
            exact ⟨(hN c' hc').2.2.1, (hN c' hc').2.1⟩) (.ref 0) (.int (nI n)) (.ref (17 + 10 * c))
        obtain ⟨g3, t1, t2, t3, t4, t5, g4, e4, u1, u2, u3⟩ := m_clears g2 m o c n hc6
        -- the class's cells
        have kA : ∀ x, x ≠ 189 → (∀ c', c' < 6 → x ≠ 17 + 10 * c' + 9) → g4 x = newX g (17 + 10 * c) (nI n) x := fun x hx h => by rw [u1 x hx, t1 x hx, p1 x h]
        have kB : ∀ x, x ≠ 189 → (x < 17 + 10 * c ∨ 17 + 10 * c + 9 < x) → (∀ c', c' < 6 → x ≠ 17 + 10 * c' + 9) → g4 x = g x := fun x hx h1 h => by rw [kA x hx h, newX_ne (by omega)]
        have kL : ∀ c', c' < 6 → g4 (17 + 10 * c' + 9) = g2 (17 + 10 * c' + 9) := fun c' _ => by rw [u1 _ (by omega), t1 _ (by omega)]
        -- the model's
        have mO : ∀ t, (t < 10 + 560 * c ∨ 10 + 560 * c + 560 ≤ t) → g3 189 t = g 189 t := fun t ht => by rw [t5 t ht, p1 189 (fun c' _ => by omega), newX_ne (by omega)]
        have mB : ∀ t, (t < 10 + 560 * c ∨ 10 + 560 * c + 560 ≤ t) → (∀ c', c' < 6 → ∀ r, r < 6 → t ≠ 10 + 560 * c' + 92 * r + 89) → g4 189 t = g 189 t := fun t ht h => by rw [u3 t h, mO t ht]
        have hOwn : XRn g4 (17 + 10 * c) 189 (10 + 560 * c) n (j + 1) := by
          have z : ∀ r, r < 6 → ∀ k, k < 92 → k ≠ 89 → g4 189 (10 + 560 * c + 92 * r + k) = nI 0 := fun r hr k hk hk9 => by
            rw [u3 _ (fun c' hc' r' hr' => link_ne hr hr' hk hk9), Nat.add_assoc (10 + 560 * c)]
            exact t4 _ (by omega) (by omega) (fun r' hr' => by have := link_ne (c := 0) (c' := 0) hr hr' hk hk9; omega)
          have lk : ∀ r, r < 6 → g4 (17 + 10 * c + 9) r = -1 := fun r hr => by
            rw [kL c hc6]
            by_cases hq : r < n
            · rw [(p2 c hc6).1 r (by simp only [if_true]; exact hq), w7 r (by omega), iteSame]
            · rw [(p2 c hc6).2 r (by simp only [if_true]; omega), w7 r (by omega)]
          refine ⟨n3, n6, ?_, ?_, fun w hw r hr => ⟨0, Nat.zero_le _, ?_, z r hr w (by omega) (by omega)⟩, fun r hr => ⟨none, ?_, z r hr 18 (by omega) (by omega)⟩, fun r hr => ⟨[], by decide, fun _ => rfl, ?_, z r hr 5 (by omega) (by omega), fun i y hy => by simp at hy⟩, fun r hr => ⟨[], by decide, fun _ => rfl, ?_, z r hr 25 (by omega) (by omega), fun i y hy => by simp at hy⟩, fun t ht r hr => ⟨0, Nat.zero_le _, fun _ => rfl, ?_, ?_⟩, fun t ht => ⟨0, Nat.zero_le _, ?_, ?_⟩, fun r hr => Or.inl ⟨lk r hr, ?_⟩⟩
          · rw [kA _ (by omega) (fun c' _ => by omega)]; exact w0
          · rw [u3 _ (fun c' hc' r' hr' => by omega)]; exact t3
          · rw [kA _ (by omega) (fun c' _ => by omega)]; exact w1 _ (by omega)
          · rw [kA _ (by omega) (fun c' _ => by omega)]; exact w2 _ (by omega)
          · rw [kA _ (by omega) (fun c' _ => by omega)]; exact w3 _ (by omega)
          · rw [kA _ (by omega) (fun c' _ => by omega)]; exact w4 _ (by omega)
          · rw [kA _ (by omega) (fun c' _ => by omega)]; exact w5 _ (by omega)
          · rw [Nat.add_assoc]; exact z r hr (86 + t) (by omega) (by omega)
          · rw [kA _ (by omega) (fun c' _ => by omega)]; exact w6 _ (by omega)
          · rw [u3 _ (fun c' hc' r' hr' => by omega), Nat.add_assoc]
            exact t4 _ (by omega) (by omega) (fun r' hr' => by omega)
          · rw [u2 c hc6 r hr, t2 r hr, iteSame]
        have hOth : ∀ c', c' < 6 → c' ≠ c → XRn g4 (17 + 10 * c') 189 (10 + 560 * c') (N c') (j + 1) := by
          intro c' hc' hne
          obtain ⟨m3, m6, en, em, fFa, fCa, fCo, fRo, fCt, fTo, fLi⟩ := hN c' hc'
          have kX : ∀ t, t < 9 → g4 (17 + 10 * c' + t) = g (17 + 10 * c' + t) := fun t ht => kB _ (by omega) (by omega) (fun c'' _ => by omega)
          have mX : ∀ r, r < 6 → ∀ k, k < 92 → k ≠ 89 → g4 189 (10 + 560 * c' + 92 * r + k) = g 189 (10 + 560 * c' + 92 * r + k) := fun r hr k hk h9 => mB _ (by omega) (fun c'' _ r' hr' => link_ne hr hr' hk h9)
          have lk : ∀ i, g4 (17 + 10 * c' + 9) i = if i < N c' ∧ g (17 + 10 * c' + 9) i = nI c then -1 else g (17 + 10 * c' + 9) i := fun i => by
            have e : newX g (17 + 10 * c) (nI n) (17 + 10 * c' + 9) = g (17 + 10 * c' + 9) := newX_ne (by omega)
            obtain ⟨q1, q2⟩ := p2 c' hc'
            rw [e, if_neg hne] at q1 q2
            rw [kL c' hc']
            by_cases hq : i < N c'
            · rw [q1 i hq]
              by_cases hz : g (17 + 10 * c' + 9) i = nI c
              · rw [if_pos hz, if_pos ⟨hq, hz⟩]
              · rw [if_neg hz, if_neg (fun h => hz h.2)]
            · rw [q2 i (by omega), if_neg (fun h => hq h.1)]
          have mk : ∀ r, r < 6 → g4 189 (10 + 560 * c' + 92 * r + 89) = if g 189 (10 + 560 * c' + 92 * r + 89) = nI c then -1 else g 189 (10 + 560 * c' + 92 * r + 89) := fun r hr => by
            rw [u2 c' hc' r hr, mO _ (by omega)]
          refine ⟨m3, m6, by have e := kX 0 (by omega); rw [Nat.add_zero] at e; rw [e]; exact en, by rw [mB _ (by omega) (fun c'' _ r' _ => by omega)]; exact em, fFa.congr (fun i _ => by rw [kX 1 (by omega)]) (fun r hr t ht => mX r hr t (by omega) (by omega)), fCa.congr (by omega) (fun i _ => by rw [kX 2 (by omega)]) (fun r hr t _ _ => mX r hr t (by omega) (by omega)), fCo.congr (fun i _ => by rw [kX 3 (by omega)]) (fun i _ => by rw [kX 4 (by omega)]) (fun r hr t _ _ => mX r hr t (by omega) (by omega)), fRo.congr (fun i _ => by rw [kX 5 (by omega)]) (fun i _ => by rw [kX 6 (by omega)]) (fun r hr t _ _ => mX r hr t (by omega) (by omega)), fCt.congr (by omega) (fun i _ => by rw [kX 7 (by omega)]) (fun r hr t _ _ => mX r hr t (by omega) (by omega)), fTo.congr (by omega) (fun i _ => by rw [kX 8 (by omega)]) (fun t _ _ => mB _ (by omega) (fun c'' _ r' _ => by omega)), fun r hr => ?_⟩
          rcases fLi r hr with ⟨p, q⟩ | ⟨to, ro, room, y1, y2, y3, y4, q1, q2, q3, s1, s2, s3⟩
          · left
            rw [lk r, mk r hr, p, q, iteSame, iteSame]
            exact ⟨rfl, rfl⟩
          · by_cases hto : to = c
            · left
              rw [lk r, mk r hr, q1, s1, if_pos ⟨y1, by rw [hto]⟩, if_pos (by rw [hto])]
              exact ⟨rfl, rfl⟩
            · right
              have hnc : ¬ nI to = nI c := by rw [nIeq (by omega) (by omega)]; exact hto
              refine ⟨to, ro, room, y1, y2, y3, y4, ?_, ?_, ?_, ?_, by rw [mX r hr 90 (by omega) (by omega)]; exact s2, by rw [mX r hr 91 (by omega) (by omega)]; exact s3⟩
              · rw [lk r, q1, if_neg (fun h => hnc h.2)]
              · rw [lk (6 + r), if_neg (fun h => by omega)]; exact q2
              · rw [lk (12 + r), if_neg (fun h => by omega)]; exact q3
              · rw [mk r hr, s1, if_neg hnc]
        refine ⟨nI 1, g2, m, o, g4, ?_, ?_, ?_⟩
        · have h63 : (nI n < nI 3) = False := eq_false h3
          have h66 : (nI n ≤ nI 6) = True := eq_true h6
          simp (disch := first | assumption | omega) only [f_X10_crossing, kb_X10_crossing_21, kb_X10_crossing_0, KL, KB, KC, KI, KJ, KZ, bI_0, bI_n, nI00, nI10, ne_eq, Classical.not_not, not_true_eq_false, not_false_eq_true, if_true, if_false, ite_not, ite_self, Bool.false_eq_true, nIne1, O_fp, O_w, c_at g m o c hc6, h63, h66, XO, x_makeNew _ _ _ _ _ hX, LE, e2]
        · simp (disch := first | assumption | omega) only [f_X11_crossing, kb_X11_crossing_17, kb_X11_crossing_0, KL, KB, KC, KI, KJ, KZ, bI_0, bI_n, nI00, nI10, ne_eq, Classical.not_not, not_true_eq_false, not_false_eq_true, if_true, if_false, ite_not, ite_self, Bool.false_eq_true, nIne1, O_mo, m_isCrossing, m_isIn, hyc, hn, e4]
        · have kC : ∀ x, x ≠ 189 → (x < 17 ∨ 76 < x) → g4 x = g x := fun x h1 h2 => kB x h1 (by omega) (fun c' _ => by omega)
          have hW : WR g4 0 189 (j + 1) := by
            obtain ⟨a1, a2, a3, a4⟩ := hR.1
            have mC : ∀ i, i < 10 ∨ 3370 ≤ i → g4 189 i = g 189 i := fun i hi => mB i (by omega) (fun c' _ r _ => by omega)
            refine ⟨by rw [kC _ (by omega) (by omega), mC 0 (by omega)]; exact a1, fun k hk => ?_, fun k hk => ?_, fun c' hc' => ?_⟩
            · obtain ⟨v, v1, v2, v3⟩ := a2 k hk
              exact ⟨v, v1, by rw [kC _ (by omega) (by omega)]; exact v2, by rw [mC _ (by omega)]; exact v3⟩
            · obtain ⟨rl, r1, r2, r3⟩ := a3 k hk
              exact ⟨rl, r1, r2.congr (fun a _ _ => kC a (by omega) (by omega)), r3.congr r1 hk (fun i _ hi => mC i (by omega))⟩
            · by_cases q : c' = c
              · subst q
                refine ⟨n, ?_⟩
                simp only [Nat.zero_add]
                exact hOwn
              · refine ⟨N c', ?_⟩
                simp only [Nat.zero_add]
                exact hOth c' hc' q
          exact RT_other hR hW (fun a _ _ => kC a (by omega) (by omega)) (by rw [kC 0 (by omega) (by omega)]) (fun a _ _ => kC a (by omega) (by omega)) (kC 190 (by omega) (by omega)) (kC 193 (by omega) (by omega)) (fun i _ => by rw [kC 188 (by omega) (by omega)])
      · have hn : ¬ (nI 3 ≤ a1 ∧ a1 ≤ nI 6) := fun q => h6 q.2
        refine ⟨nI 0, g, m, o, g, ?_, ?_, RT_mono _ _ _ _ hR⟩
        · simp (disch := first | assumption | omega) only [f_X10_crossing, kb_X10_crossing_21, kb_X10_crossing_0, KL, KB, KC, KI, KJ, KZ, bI_0, bI_n, nI00, nI10, ne_eq, Classical.not_not, not_true_eq_false, not_false_eq_true, if_true, if_false, ite_not, ite_self, Bool.false_eq_true, nIne1, O_fp, c_at g m o c hc6, h3, h6]
        · simp (disch := first | assumption | omega) only [f_X11_crossing, kb_X11_crossing_17, kb_X11_crossing_0, KL, KB, KC, KI, KJ, KZ, bI_0, bI_n, nI00, nI10, ne_eq, Classical.not_not, not_true_eq_false, not_false_eq_true, if_true, if_false, ite_not, ite_self, Bool.false_eq_true, nIne1, O_mo, m_isCrossing, m_isIn, hyc, hn]
  · refine ⟨nI 0, g, m, o, g, ?_, ?_, RT_mono _ _ _ _ hR⟩
    · simp (disch := first | assumption | omega) only [f_X10_crossing, kb_X10_crossing_21, kb_X10_crossing_0, KL, KB, KC, KI, KJ, KZ, bI_0, bI_n, nI00, nI10, ne_eq, Classical.not_not, not_true_eq_false, not_false_eq_true, if_true, if_false, ite_not, ite_self, Bool.false_eq_true, nIne1, O_fp, c_atN g m o a0 h0]
    · simp (disch := first | assumption | omega) only [f_X11_crossing, kb_X11_crossing_17, kb_X11_crossing_0, KL, KB, KC, KI, KJ, KZ, bI_0, bI_n, nI00, nI10, ne_eq, Classical.not_not, not_true_eq_false, not_false_eq_true, if_true, if_false, ite_not, ite_self, Bool.false_eq_true, nIne1, O_mo, m_isCrossing, h0]
