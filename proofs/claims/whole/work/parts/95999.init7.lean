-- ===== the law's start =====
theorem h00_eq : h00 = HQ 0 0 (fun _ _ => 0) [] := by
  have e1 : (fun _ => ((0, 0) : Nat × Nat)) = SHn 0 := by
    funext a
    unfold SHn
    rw [if_neg (by omega)]
  have e2 : (fun _ _ => (none : Option Nat)) = RF [] := by
    funext i j
    unfold RF
    rw [if_neg (by intro h; cases h)]
  unfold h00 HQ
  rw [e1, e2]
theorem inv0 : INV 0 (fun _ _ => 0) [] := ⟨fun q hq => (by cases hq), fun _ _ _ => rfl⟩
set_option maxRecDepth 100000 in
theorem init_law : ∃ (g : GG) (m o : Nat), RT 0 g m o ∧ ∀ (L : Nat) (xs : Nat → Int32), kb_L_law_0 L xs [.ref (OUT + 2000)] [] h00 = kl_L_law_18 L xs [.ref (OUT + 2000), .ref 0, .ref 188, .int (nI 0)] [] (hp g m o) := by
  have s0 : SH 0 = (50, 8) := rfl
  have s1 : SH 1 = (49, 4) := rfl
  have s81 : SH 77 = (44, 2) := rfl
  have s84 : SH 80 = (48, 8) := rfl
  have s86 : SH 82 = (49, 4) := rfl
  have s166 : SH 158 = (45, 15) := rfl
  have s173 : SH 164 = (40, 20) := rfl
  have s193 : SH 184 = (42, 2) := rfl
  have s194 : SH 185 = (46, 5) := rfl
  have s197 : SH 188 = (51, 49) := rfl
  have r0 : RR 17 175 0 0 = some 1 := rfl
  have r1 : RR 17 175 0 1 = some 82 := rfl
  have r2 : RR 17 175 0 2 = some 158 := rfl
  have r3 : RR 17 175 0 3 = some 80 := rfl
  have r4 : RR 17 175 0 4 = some 164 := rfl
  have r5 : RR 17 175 0 5 = some 184 := rfl
  have r6 : RR 17 175 0 6 = some 185 := rfl
  have i0 := inv0
  have i1 := inv0.up (show 0 ≤ 1 by omega)
  -- the world
  obtain ⟨gA, HA, eA, iA, sA, fA, zA1, lA0, lA1, ruA, maA, wA, hrA, hxA⟩ := i_world (b := 0) (z := 12) (g := fun _ _ => 0) (H := []) isW_0 (by omega) i1
  simp only [Nat.zero_add, Nat.reduceAdd] at eA
  have iA' : INV 77 gA HA := iA
  -- the pair
  obtain ⟨gB, HB, eB, iB, sB, hgB, pB0, pB1⟩ := i_pair (z := 3268) iA'
  simp only [Nat.reduceAdd] at eB
  rw [hgB] at eB iB
  -- standing
  obtain ⟨gC, HC, eC, iC, sC, fC, pC0, pC1, pC2⟩ := i_stand (z := 3356) iB
  simp only [Nat.reduceAdd] at eC
  have iC1 : INV 82 gC ((0, 0) :: HC) := iC.pr (by omega)
  -- the kept world
  obtain ⟨gD, HD, eD, iD, sD', fD, zD1, lD0, lD1, ruD, maD, wD, hrD, hxD⟩ := i_world (b := 81) (z := 3366) isW_85 (by omega) iC1
  simp only [Nat.reduceAdd] at eD
  have iD1 : INV 158 gD ((0, 1) :: HD) := INV.pr iD (by omega)
  -- the reader
  obtain ⟨gE, HE, eE, iE, sE, fE, tE1, tE2, tE3, pE0, pE4, pE5, pE3, pE6, tE8, tE9⟩ := i_read (z := 6635) iD1
  simp only [Nat.reduceAdd] at eE
  have iE1 : INV 164 gE ((0, 3) :: (0, 2) :: HE) := (iE.pr (by omega)).pr (by omega)
  -- what lies below in the class's world
  have low : ∀ a, a < 77 → gE a = gA a := fun a ha => by rw [fE a (by omega) (by omega), fD a (by omega), fC a (by omega)]
  have upE : ∀ q, q ∈ HA → q ∈ (0, 3) :: (0, 2) :: HE := fun q hq => List.mem_cons_of_mem _ (List.mem_cons_of_mem _ (sE _ (List.mem_cons_of_mem _ (sD' _ (List.mem_cons_of_mem _ (sC _ (sB _ hq)))))))
  -- all that can come
  obtain ⟨gF, HF, eF, iF, sF, fF, oF, pF, pF6, pF4⟩ := i_come (z := 7541) iE1 (upE _ (wA 3 (by omega) (by omega))) (upE _ (hxA 0 (by omega)).1) (by rw [low 17 (by omega)]; exact (maA 0 (by omega)).1)
  simp only [Nat.reduceAdd] at eF
  have iF1 : INV 184 gF ((0, 4) :: HF) := iF.pr (by omega)
  -- days, rings
  obtain ⟨gG, HG, eG, iG, sG, hgG, pG0, pG1⟩ := i_days (z := 9186) iF1
  simp only [Nat.reduceAdd, Nat.add_zero] at eG
  rw [hgG] at eG iG
  have iG1 : INV 185 gF ((0, 5) :: HG) := iG.pr (by omega)
  obtain ⟨gI, HI, eI, iI, sI, fI, pI0, pI1, pI2⟩ := i_rings (z := 9191) iG1
  simp only [Nat.reduceAdd] at eI
  have iI1 : INV 188 (upd2 gI 0 7 (nI 0)) ((0, 6) :: HI) := (iI.pr (by omega)).pi (by omega)
  -- what is put down at last
  have uI : ∀ q, q ∈ HI → q ∈ (0, 6) :: HI := fun q hq => List.mem_cons_of_mem _ hq
  have uG : ∀ q, q ∈ HG → q ∈ (0, 6) :: HI := fun q hq => uI _ (sI _ (List.mem_cons_of_mem _ hq))
  have uF : ∀ q, q ∈ HF → q ∈ (0, 6) :: HI := fun q hq => uG _ (sG _ (List.mem_cons_of_mem _ hq))
  have uE : ∀ q, q ∈ HE → q ∈ (0, 6) :: HI := fun q hq => uF _ (sF _ (List.mem_cons_of_mem _ (List.mem_cons_of_mem _ hq)))
  have uD : ∀ q, q ∈ HD → q ∈ (0, 6) :: HI := fun q hq => uE _ (sE _ (List.mem_cons_of_mem _ hq))
  have uC : ∀ q, q ∈ HC → q ∈ (0, 6) :: HI := fun q hq => uD _ (sD' _ (List.mem_cons_of_mem _ hq))
  have uB : ∀ q, q ∈ HB → q ∈ (0, 6) :: HI := fun q hq => uC _ (sC _ hq)
  have uA : ∀ q, q ∈ HA → q ∈ (0, 6) :: HI := fun q hq => uB _ (sB _ hq)
  have need : ∀ i j, i < 188 → needP i j → (i, j) ∈ (0, 6) :: HI := by
    intro i j hi h
    unfold needP at h
    rcases h with h | h | h | h | h | h | h | h | h | h | h | h | h | h | h | h | h | h | h | h | h
    · obtain ⟨rfl, hj⟩ := h
      rcases (by omega : j = 0 ∨ j = 1 ∨ j = 2 ∨ j = 3 ∨ j = 4 ∨ j = 5 ∨ j = 6) with rfl | rfl | rfl | rfl | rfl | rfl | rfl
      · exact uD _ (sD' _ List.mem_cons_self)
      · exact uE _ (sE _ List.mem_cons_self)
      · exact uF _ (sF _ (List.mem_cons_of_mem _ List.mem_cons_self))
      · exact uF _ (sF _ List.mem_cons_self)
      · exact uG _ (sG _ List.mem_cons_self)
      · exact uI _ (sI _ List.mem_cons_self)
      · exact List.mem_cons_self
    · obtain ⟨rfl, h1, h2⟩ := h; exact uA _ (wA j h1 h2)
    · obtain ⟨rfl, h1⟩ := h; exact uA _ (hrA j h1).1
    · obtain ⟨rfl, h1⟩ := h; exact uA _ (hxA j h1).1
    · have := (hrA ((i - 5) / 3) (by omega)).2 j h.2.2.2.1 h.2.2.2.2
      rw [show 0 + 5 + 3 * ((i - 5) / 3) = i by omega] at this
      exact uA _ this
    · have := (hxA ((i - 17) / 10) (by omega)).2 j h.2.2.2.1 h.2.2.2.2
      rw [show 0 + 17 + 10 * ((i - 17) / 10) = i by omega] at this
      exact uA _ this
    · obtain ⟨rfl, hj⟩ := h
      rcases (by omega : j = 0 ∨ j = 1) with rfl | rfl
      · exact uB _ pB0
      · exact uB _ pB1
    · obtain ⟨rfl, hj⟩ := h
      rcases (by omega : j = 0 ∨ j = 1 ∨ j = 2) with rfl | rfl | rfl
      · exact uC _ pC0
      · exact uC _ pC1
      · exact uC _ pC2
    · obtain ⟨rfl, h1, h2⟩ := h; exact uD _ (wD j h1 h2)
    · obtain ⟨rfl, h1⟩ := h; exact uD _ (hrD j h1).1
    · obtain ⟨rfl, h1⟩ := h; exact uD _ (hxD j h1).1
    · have := (hrD ((i - 86) / 3) (by omega)).2 j h.2.2.2.1 h.2.2.2.2
      rw [show 81 + 5 + 3 * ((i - 86) / 3) = i by omega] at this
      exact uD _ this
    · have := (hxD ((i - 98) / 10) (by omega)).2 j h.2.2.2.1 h.2.2.2.2
      rw [show 81 + 17 + 10 * ((i - 98) / 10) = i by omega] at this
      exact uD _ this
    · obtain ⟨rfl, hj⟩ := h
      rcases hj with rfl | rfl | rfl
      · exact uE _ pE0
      · exact uE _ pE4
      · exact uE _ pE5
    · obtain ⟨rfl, h1, h2⟩ := h
      rcases (by omega : j = 3 ∨ j = 4) with rfl | rfl
      · exact uE _ pE3
      · exact uE _ pE6
    · obtain ⟨rfl, hj⟩ := h
      rcases hj with hj | ⟨h1, h2⟩
      · exact uF _ (pF j hj)
      · exact uF _ (pF6 j h1 h2)
    · obtain ⟨rfl, hj⟩ := h; exact uF _ (pF4 j hj).1
    · have hp4 := (pF4 ((i - 172) / 3) (by omega)).2
      rw [show 172 + 3 * ((i - 172) / 3) = i by omega] at hp4
      rcases (by omega : j = 1 ∨ j = 2) with rfl | rfl
      · exact uF _ hp4.1
      · exact uF _ hp4.2
    · obtain ⟨rfl, hj⟩ := h
      rcases (by omega : j = 0 ∨ j = 1) with rfl | rfl
      · exact uG _ pG0
      · exact uG _ pG1
    · obtain ⟨rfl, hj⟩ := h
      rcases (by omega : j = 0 ∨ j = 1 ∨ j = 2) with rfl | rfl | rfl
      · exact uI _ pI0
      · exact uI _ pI1
      · exact uI _ pI2
    · exact absurd h.1 (by omega)
  obtain ⟨gM, eM, fM, cM', tM, tM2, m19, m33, m34, mz⟩ := i_model iI1 need
  -- the cells at last
  have lowM : ∀ a, 0 < a → a < 77 → gM a = gA a := fun a h0 ha => by rw [fM a (by omega) (by omega), uN (by omega), fI a (by omega), fF a (by omega)]; exact low a ha
  refine ⟨gM, 17, 175, ?_, fun L xs => ?_⟩
  · refine ⟨⟨?_, fun k hk => ?_, fun k hk => ⟨[], ⟨by decide, by decide, fun q hq => by cases hq⟩, ?_, ?_⟩, fun c hc => ⟨4, by omega, by omega, ?_, (cM' c hc).2.1, fun w hw r hr => ⟨0, Nat.zero_le _, ?_, ?_⟩, fun r hr => ⟨none, ?_, ?_⟩, fun r hr => ⟨[], by decide, fun _ => rfl, ?_, ?_, fun i y hy => by simp at hy⟩, fun r hr => ⟨[], by decide, fun _ => rfl, ?_, ?_, fun i y hy => by simp at hy⟩, fun t ht r hr => ⟨0, Nat.zero_le _, fun _ => rfl, ?_, ?_⟩, fun t ht => ⟨0, Nat.zero_le _, ?_, ?_⟩, fun r hr => Or.inl ⟨?_, (cM' c hc).1 r hr⟩⟩⟩, ⟨0, by omega, ?_, mz 10 (by omega) (by omega) (by omega), fun i hi => absurd hi (Nat.not_lt_zero _), Or.inl (by rw [fM 158 (by omega) (by omega), uN (by omega), fI 158 (by omega), fF 158 (by omega)]; exact tE8), Or.inl (by rw [fM 158 (by omega) (by omega), uN (by omega), fI 158 (by omega), fF 158 (by omega)]; exact tE9)⟩, ?_, ?_, Or.inl ⟨?_, mz 2 (by omega) (by omega) (by omega)⟩, fun n h3 h6 => ?_, m33, m34, mz 35 (by omega) (by omega) (by omega)⟩
    · rw [lowM _ (by omega) (by omega), tM 0 (by omega), if_neg (by omega)]; exact zA1 0
    · refine ⟨k, by omega, ?_, ?_⟩
      · rw [lowM _ (by omega) (by omega)]
        rcases (by omega : k = 0 ∨ k = 1) with rfl | rfl
        · exact lA0
        · exact lA1
      · rw [tM _ (by omega)]
        rcases (by omega : k = 0 ∨ k = 1) with rfl | rfl
        · rfl
        · rfl
    · obtain ⟨x1, x2, x3⟩ := ruA k hk
      refine ⟨?_, ?_, ?_, fun i hi => ?_, fun t z hz => by simp [allS] at hz⟩
      · rw [lowM _ (by omega) (by omega)]; exact x1 0
      · rw [lowM _ (by omega) (by omega)]; exact x1 1
      · rw [lowM _ (by omega) (by omega)]; exact x1 2
      · rw [lowM _ (by omega) (by omega), show i = 0 from Nat.le_zero.mp hi]; exact x2 0
    · exact ⟨tM2 _ (by omega), fun i z hz => by simp at hz, fun t z hz => by simp [allS] at hz⟩
    · rw [lowM _ (by omega) (by omega)]; exact (maA c hc).1
    · rw [lowM _ (by omega) (by omega)]; exact (maA c hc).2.1 _
    · have := (cM' c hc).2.2 (92 * r + w) (by omega) (by omega) (fun r' hr' => by omega)
      rw [← Nat.add_assoc] at this
      exact this
    · rw [lowM _ (by omega) (by omega)]; exact (maA c hc).2.2.1 r (by omega)
    · have := (cM' c hc).2.2 (92 * r + 18) (by omega) (by omega) (fun r' hr' => by omega)
      rw [← Nat.add_assoc] at this
      exact this
    · rw [lowM _ (by omega) (by omega)]; exact (maA c hc).2.2.2.2.1 r
    · have := (cM' c hc).2.2 (92 * r + 5) (by omega) (by omega) (fun r' hr' => by omega)
      rw [← Nat.add_assoc] at this
      exact this
    · rw [lowM _ (by omega) (by omega)]; exact (maA c hc).2.2.2.2.2.2.1 r
    · have := (cM' c hc).2.2 (92 * r + 25) (by omega) (by omega) (fun r' hr' => by omega)
      rw [← Nat.add_assoc] at this
      exact this
    · rw [lowM _ (by omega) (by omega)]; exact (maA c hc).2.2.2.2.2.2.2.1 _
    · have := (cM' c hc).2.2 (92 * r + 86 + t) (by omega) (by omega) (fun r' hr' => by omega)
      rw [← Nat.add_assoc, ← Nat.add_assoc] at this
      exact this
    · rw [lowM _ (by omega) (by omega)]; exact (maA c hc).2.2.2.2.2.2.2.2.1 t
    · have := (cM' c hc).2.2 (553 + t) (by omega) (by omega) (fun r' hr' => by omega)
      rw [← Nat.add_assoc] at this
      exact this
    · rw [lowM _ (by omega) (by omega)]; exact (maA c hc).2.2.2.2.2.2.2.2.2 r (by omega)
    · rw [fM 158 (by omega) (by omega), uN (by omega), fI 158 (by omega), fF 158 (by omega)]; exact tE1
    · rw [fM 158 (by omega) (by omega), uN (by omega), fI 158 (by omega), fF 158 (by omega), mz 17 (by omega) (by omega) (by omega)]; exact tE2
    · rw [fM 158 (by omega) (by omega), uN (by omega), fI 158 (by omega), fF 158 (by omega), m19]; exact tE3
    · rw [fM 0 (by omega) (by omega)]; exact uS
    · have h1 := oF (n - 3) (by omega)
      have z : ∀ a, 172 ≤ a → a ≤ 183 → gM a = gF a := fun a h1 h2 => by rw [fM a (by omega) (by omega), uN (by omega), fI a (by omega)]
      rw [show 3 + (n - 3) = n by omega] at h1
      refine ⟨by rw [z _ (by omega) (by omega)]; exact h1.1, fun k hk r hr => ?_⟩
      have h2 := h1.2 k hk r hr
      rw [z _ (by omega) (by omega), z _ (by omega) (by omega)]
      rw [show 172 + 3 * (n - 3) + 1 = 173 + 3 * (n - 3) by omega, show 172 + 3 * (n - 3) + 2 = 174 + 3 * (n - 3) by omega] at h2
      exact h2
  · rw [h00_eq]
    have iz1 : INV 1 (fun _ _ => (0 : Int32)) [] := i1
    simp (disch := first | assumption | omega | (repeat first | assumption | omega | apply INV.pi | apply INV.pr | (refine INV.up (by assumption) ?_))) only [kb_L_law_0, f_X10_init, kb_X10_init_0, KL, KB, KC, KI, KJ, KZ, bI_0, bI_n, nI00, nI10, ne_eq, Classical.not_not, not_true_eq_false, not_false_eq_true, if_true, if_false, ite_not, ite_self, Bool.false_eq_true, nIne1, Q_obj, Q_new, Q_ref0, Q_ref1, Q_ref2, Q_ast1, Q_ast2, Q_ast3, Q_pr, Q_pz, Nat.reduceAdd, Nat.add_assoc, eA, eB, eC, eD, eE, eF, eG, eI, eM]
