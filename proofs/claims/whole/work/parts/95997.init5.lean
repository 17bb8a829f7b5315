-- ===== the constructors: the small ones, all that can come =====
theorem isR_168 : isR 160 := ⟨rfl, rfl, rfl, fun m o j h1 h2 => by match j, h1, h2 with | 1, _, _ => rfl | 2, _, _ => rfl⟩
theorem isO_all : ∀ i, i < 4 → isO (172 + 3 * i) := by
  intro i hi
  match i, hi with
  | 0, _ => exact ⟨rfl, rfl, rfl, rfl, rfl⟩
  | 1, _ => exact ⟨rfl, rfl, rfl, rfl, rfl⟩
  | 2, _ => exact ⟨rfl, rfl, rfl, rfl, rfl⟩
  | 3, _ => exact ⟨rfl, rfl, rfl, rfl, rfl⟩
theorem inv_cons {n : Nat} {g g' : GG} {H : List (Nat × Nat)} (h : INV n g H) {m : Nat} (hm : n ≤ m) (hg : ∀ a, m ≤ a → g' a = g a) (l : List (Nat × Nat)) (hl : ∀ q, q ∈ l → q.1 < m) : INV m g' (l ++ H) := h.of hm hg (fun q hq => by
  rcases List.mem_append.mp hq with e | e
  · exact Or.inr (hl q e)
  · exact Or.inl e)
set_option maxRecDepth 100000 in
theorem i_pair {z : Nat} {g : GG} {H : List (Nat × Nat)} (hI : INV 77 g H) : CTR 78 80 80 g H z (f_X4_init [.ref 77] (HQ 78 z g H)) (fun g' H' => g' = g ∧ (77, 0) ∈ H' ∧ (77, 1) ∈ H') := by
  have hI1 := hI.up (show 77 ≤ 78 by omega)
  have s81 : SH 77 = (44, 2) := rfl
  have s82 : SH 78 = (1, 16) := rfl
  have s83 : SH 79 = (1, 64) := rfl
  have r0 : RR 17 175 77 0 = some 78 := rfl
  have r1 : RR 17 175 77 1 = some 79 := rfl
  refine ⟨g, [(77, 1), (77, 0)] ++ H, ?_, inv_cons hI (by omega) (fun _ _ => rfl) _ (by decide), fun q hq => List.mem_append_right _ hq, rfl, by simp, by simp⟩
  simp (disch := first | assumption | omega | (repeat first | assumption | omega | apply INV.pi | apply INV.pr | (refine INV.up (by assumption) ?_))) only [f_X4_init, kb_X4_init_0, KL, KB, KC, KI, KJ, KZ, bI_0, bI_n, nI00, nI10, ne_eq, Classical.not_not, not_true_eq_false, not_false_eq_true, if_true, if_false, ite_not, ite_self, Bool.false_eq_true, nIne1, Q_obj, Q_newA, Q_pr, Nat.reduceAdd, Nat.add_assoc, List.cons_append, List.nil_append]
set_option maxRecDepth 100000 in
theorem i_stand {z : Nat} {g : GG} {H : List (Nat × Nat)} (hI : INV 80 g H) : CTR 81 82 6 g H z (f_X8_init [.ref 80, .ref 1, .ref 77] (HQ 81 z g H)) (fun g' H' => (∀ a, a ≠ 80 → g' a = g a) ∧ (80, 0) ∈ H' ∧ (80, 1) ∈ H' ∧ (80, 2) ∈ H') := by
  have hI1 := hI.up (show 80 ≤ 81 by omega)
  have s84 : SH 80 = (48, 8) := rfl
  have s85 : SH 81 = (1, 6) := rfl
  have r0 : RR 17 175 80 0 = some 1 := rfl
  have r1 : RR 17 175 80 1 = some 77 := rfl
  have r2 : RR 17 175 80 2 = some 81 := rfl
  have fr : ∀ a, a ≠ 80 → upd2 (upd2 (upd2 (upd2 (upd2 g 80 3 (nI 0)) 80 4 (nI 0)) 80 5 (nI 0)) 80 6 (nI 0)) 80 7 (nI 0) a = g a := fun a ha => by rw [uN ha, uN ha, uN ha, uN ha, uN ha]
  refine ⟨upd2 (upd2 (upd2 (upd2 (upd2 g 80 3 (nI 0)) 80 4 (nI 0)) 80 5 (nI 0)) 80 6 (nI 0)) 80 7 (nI 0), [(80, 1), (80, 0), (80, 2)] ++ H, ?_, inv_cons hI (by omega) (fun a ha => fr a (by omega)) _ (by decide), fun q hq => List.mem_append_right _ hq, fr, by simp, by simp, by simp⟩
  simp (disch := first | assumption | omega | (repeat first | assumption | omega | apply INV.pi | apply INV.pr | (refine INV.up (by assumption) ?_))) only [f_X8_init, kb_X8_init_0, KL, KB, KC, KI, KJ, KZ, bI_0, bI_n, nI00, nI10, ne_eq, Classical.not_not, not_true_eq_false, not_false_eq_true, if_true, if_false, ite_not, ite_self, Bool.false_eq_true, nIne1, Q_obj, Q_newA, Q_pr, Q_pi, Nat.reduceAdd, Nat.add_assoc, List.cons_append, List.nil_append]
set_option maxRecDepth 100000 in
theorem i_read {z : Nat} {g : GG} {H : List (Nat × Nat)} (hI : INV 158 g H) : CTR 159 164 886 g H z (f_X5_init [.ref 158] (HQ 159 z g H)) (fun g' H' => (∀ a, a ≠ 158 → a ≠ 160 → g' a = g a) ∧ g' 158 1 = nI 0 ∧ g' 158 2 = nI 0 ∧ g' 158 3 = -1 ∧ (158, 0) ∈ H' ∧ (158, 4) ∈ H' ∧ (158, 5) ∈ H' ∧ (160, 3) ∈ H' ∧ (160, 4) ∈ H' ∧ g' 158 8 = nI 0 ∧ g' 158 9 = nI 0) := by
  have hI1 := hI.up (show 158 ≤ 159 by omega)
  have s166 : SH 158 = (45, 15) := rfl
  have s167 : SH 159 = (1, 400) := rfl
  have s168 : SH 160 = (47, 5) := rfl
  have s172 : SH 163 = (1, 64) := rfl
  have r0 : RR 17 175 158 0 = some 159 := rfl
  have r4 : RR 17 175 158 4 = some 160 := rfl
  have r5 : RR 17 175 158 5 = some 163 := rfl
  generalize hg1 : upd2 (upd2 (upd2 g 158 1 (nI 0)) 158 2 (nI 0)) 158 3 (-1) = g1
  have fr1 : ∀ a, a ≠ 158 → g1 a = g a := fun a ha => by rw [← hg1, uN ha, uN ha, uN ha]
  have hIg : INV 160 g1 ((158, 0) :: H) := inv_cons hI (by omega) (fun a ha => fr1 a (by omega)) [(158, 0)] (by decide)
  obtain ⟨g2, H2, e2, i2, m2, w1, w2, w3⟩ := i_rule (q := 160) (z := z + 405) (g := g1) (H := (158, 0) :: H) isR_168 (by omega) (hIg.up (by omega))
  have hI168 : INV 163 g2 H2 := i2
  generalize hg3 : upd2 (upd2 (upd2 (upd2 (upd2 (upd2 (upd2 (upd2 (upd2 g2 158 6 (nI 0)) 158 7 (nI 0)) 158 8 (nI 0)) 158 9 (nI 0)) 158 10 (nI 0)) 158 11 (nI 0)) 158 12 (nI 33)) 158 13 (nI 0)) 158 14 (nI 0) = g3
  have fr3 : ∀ a, a ≠ 158 → g3 a = g2 a := fun a ha => by rw [← hg3, uN ha, uN ha, uN ha, uN ha, uN ha, uN ha, uN ha, uN ha, uN ha]
  have lo3 : ∀ i, i < 4 → g3 158 i = g1 158 i := fun i hi => by
    rw [← hg3, uO (Or.inr (by omega)), uO (Or.inr (by omega)), uO (Or.inr (by omega)), uO (Or.inr (by omega)), uO (Or.inr (by omega)), uO (Or.inr (by omega)), uO (Or.inr (by omega)), uO (Or.inr (by omega)), uO (Or.inr (by omega)), w1 158 (by omega)]
  refine ⟨g3, [(158, 5), (158, 4)] ++ H2, ?_, inv_cons i2 (by omega) (fun a ha => fr3 a (by omega)) _ (by decide), fun q hq => List.mem_append_right _ (m2 q (List.mem_cons_of_mem _ hq)), fun a a1 a2 => by rw [fr3 a a1, w1 a a2, fr1 a a1], ?_, ?_, ?_, List.mem_append_right _ (m2 _ List.mem_cons_self), by simp, by simp, List.mem_append_right _ (w3 3 (by omega) (by omega)), List.mem_append_right _ (w3 4 (by omega) (by omega)), ?_, ?_⟩
  · rw [← hg1] at e2 hIg
    simp only [Nat.reduceAdd, Nat.add_assoc] at e2
    simp (disch := first | assumption | omega | (repeat first | assumption | omega | apply INV.pi | apply INV.pr | (refine INV.up (by assumption) ?_))) only [f_X5_init, kb_X5_init_0, KL, KB, KC, KI, KJ, KZ, bI_0, bI_n, nI00, nI10, ne_eq, Classical.not_not, not_true_eq_false, not_false_eq_true, if_true, if_false, ite_not, ite_self, Bool.false_eq_true, nIne1, Q_obj, Q_newA, Q_new, Q_ref0, Q_pr, Q_pi, Q_pz, Nat.reduceAdd, Nat.add_assoc, e2, List.cons_append, List.nil_append]
    rw [hg3]
  · rw [lo3 1 (by omega), ← hg1, uO (Or.inr (by omega)), uO (Or.inr (by omega))]; exact uS
  · rw [lo3 2 (by omega), ← hg1, uO (Or.inr (by omega))]; exact uS
  · rw [lo3 3 (by omega), ← hg1]; exact uS
  · rw [← hg3, uO (Or.inr (by omega)), uO (Or.inr (by omega)), uO (Or.inr (by omega)), uO (Or.inr (by omega)), uO (Or.inr (by omega)), uO (Or.inr (by omega))]; exact uS
  · rw [← hg3, uO (Or.inr (by omega)), uO (Or.inr (by omega)), uO (Or.inr (by omega)), uO (Or.inr (by omega)), uO (Or.inr (by omega))]; exact uS
set_option maxRecDepth 100000 in
theorem i_days {z : Nat} {g : GG} {H : List (Nat × Nat)} (hI : INV 184 g H) : CTR 185 185 0 g H z (f_X2_init [.ref 184, .ref 1, .ref 80] (HQ 185 z g H)) (fun g' H' => g' = g ∧ (184, 0) ∈ H' ∧ (184, 1) ∈ H') := by
  have hI1 := hI.up (show 184 ≤ 185 by omega)
  have s193 : SH 184 = (42, 2) := rfl
  have r0 : RR 17 175 184 0 = some 1 := rfl
  have r1 : RR 17 175 184 1 = some 80 := rfl
  refine ⟨g, [(184, 1), (184, 0)] ++ H, ?_, inv_cons hI (by omega) (fun _ _ => rfl) _ (by decide), fun q hq => List.mem_append_right _ hq, rfl, by simp, by simp⟩
  simp (disch := first | assumption | omega | (repeat first | assumption | omega | apply INV.pi | apply INV.pr | (refine INV.up (by assumption) ?_))) only [f_X2_init, kb_X2_init_0, KL, KB, KC, KI, KJ, KZ, bI_0, bI_n, nI00, nI10, ne_eq, Classical.not_not, not_true_eq_false, not_false_eq_true, if_true, if_false, ite_not, ite_self, Bool.false_eq_true, nIne1, Q_obj, Q_pr, List.cons_append, List.nil_append, Nat.add_zero]
set_option maxRecDepth 100000 in
theorem i_rings {z : Nat} {g : GG} {H : List (Nat × Nat)} (hI : INV 185 g H) : CTR 186 188 72 g H z (f_X6_init [.ref 185, .ref 1] (HQ 186 z g H)) (fun g' H' => (∀ a, a ≠ 185 → g' a = g a) ∧ (185, 0) ∈ H' ∧ (185, 1) ∈ H' ∧ (185, 2) ∈ H') := by
  have hI1 := hI.up (show 185 ≤ 186 by omega)
  have s194 : SH 185 = (46, 5) := rfl
  have s195 : SH 186 = (1, 36) := rfl
  have s196 : SH 187 = (1, 36) := rfl
  have r0 : RR 17 175 185 0 = some 1 := rfl
  have r1 : RR 17 175 185 1 = some 186 := rfl
  have r2 : RR 17 175 185 2 = some 187 := rfl
  have fr : ∀ a, a ≠ 185 → upd2 (upd2 g 185 3 (nI 0)) 185 4 (nI 0) a = g a := fun a ha => by rw [uN ha, uN ha]
  refine ⟨upd2 (upd2 g 185 3 (nI 0)) 185 4 (nI 0), [(185, 0), (185, 2), (185, 1)] ++ H, ?_, inv_cons hI (by omega) (fun a ha => fr a (by omega)) _ (by decide), fun q hq => List.mem_append_right _ hq, fr, by simp, by simp, by simp⟩
  simp (disch := first | assumption | omega | (repeat first | assumption | omega | apply INV.pi | apply INV.pr | (refine INV.up (by assumption) ?_))) only [f_X6_init, kb_X6_init_0, KL, KB, KC, KI, KJ, KZ, bI_0, bI_n, nI00, nI10, ne_eq, Classical.not_not, not_true_eq_false, not_false_eq_true, if_true, if_false, ite_not, ite_self, Bool.false_eq_true, nIne1, Q_obj, Q_newA, Q_pr, Q_pi, Nat.reduceAdd, Nat.add_assoc, List.cons_append, List.nil_append]
theorem RR174 : ∀ i, i < 4 → RR 17 175 165 i = some (172 + 3 * i) := by
  intro i hi
  match i, hi with
  | 0, _ => rfl
  | 1, _ => rfl
  | 2, _ => rfl
  | 3, _ => rfl
set_option maxRecDepth 100000 in
theorem i_come {z : Nat} {g : GG} {H : List (Nat × Nat)} (hI : INV 164 g H) (h13 : (1, 3) ∈ H) (h40 : (4, 0) ∈ H) (hg4 : g 17 0 = nI 4) : CTR 165 184 1643 g H z (f_X0_init [.ref 164, .ref 1, .ref 77] (HQ 165 z g H)) (fun g' H' => (∀ a, a < 164 → g' a = g a) ∧ (∀ i, i < 4 → ORQ g' (172 + 3 * i) (3 + i)) ∧ (∀ j, j < 5 → (164, j) ∈ H') ∧ (∀ j, 6 ≤ j → j ≤ 11 → (164, j) ∈ H') ∧ ∀ i, i < 4 → (165, i) ∈ H' ∧ (172 + 3 * i, 1) ∈ H' ∧ (172 + 3 * i, 2) ∈ H') := by
  have hI1 := hI.up (show 164 ≤ 165 by omega)
  have s1 : SH 1 = (49, 4) := rfl
  have s4 : SH 4 = (4, 6) := rfl
  have s21 : SH 17 = (41, 10) := rfl
  have s173 : SH 164 = (40, 20) := rfl
  have s174 : SH 165 = (5, 4) := rfl
  have s175 : SH 166 = (1, 144) := rfl
  have s176 : SH 167 = (1, 12) := rfl
  have s177 : SH 168 = (1, 12) := rfl
  have s178 : SH 169 = (1, 12) := rfl
  have s179 : SH 170 = (1, 6) := rfl
  have s180 : SH 171 = (2, 289) := rfl
  have r0 : RR 17 175 164 0 = some 1 := rfl
  have r1 : RR 17 175 164 1 = some 77 := rfl
  have r2 : RR 17 175 164 2 = some 165 := rfl
  have r3 : RR 17 175 164 3 = some 17 := rfl
  have r4 : RR 17 175 164 4 = some 175 := rfl
  have r6 : RR 17 175 164 6 = some 166 := rfl
  have r7 : RR 17 175 164 7 = some 167 := rfl
  have r8 : RR 17 175 164 8 = some 168 := rfl
  have r9 : RR 17 175 164 9 = some 169 := rfl
  have r10 : RR 17 175 164 10 = some 170 := rfl
  have r11 : RR 17 175 164 11 = some 171 := rfl
  have w3 : RR 17 175 1 3 = some 4 := rfl
  have w40 : RR 17 175 4 0 = some 17 := rfl
  generalize hg1 : upd2 (upd2 (upd2 (upd2 (upd2 (upd2 (upd2 (upd2 (upd2 g 164 5 (nI 1)) 164 12 (nI 0)) 164 13 (nI 0)) 164 14 (nI 0)) 164 15 (nI 0)) 164 16 (nI 0)) 164 17 (nI 0)) 164 18 (nI 0)) 164 19 (-1) = g1
  generalize hH1 : (164, 1) :: (164, 0) :: (164, 11) :: (164, 10) :: (164, 9) :: (164, 8) :: (164, 7) :: (164, 6) :: (164, 2) :: H = H1
  have fr1 : ∀ a, a ≠ 164 → g1 a = g a := fun a ha => by rw [← hg1, uN ha, uN ha, uN ha, uN ha, uN ha, uN ha, uN ha, uN ha, uN ha]
  have sub1 : ∀ q, q ∈ H → q ∈ H1 := fun q hq => by rw [← hH1]; simp only [List.mem_cons]; simp only [hq, or_true]
  have iH1 : INV 172 g1 H1 := by
    have := inv_cons (g' := g1) hI (show 164 ≤ 172 by omega) (fun a ha => fr1 a (by omega)) [(164, 1), (164, 0), (164, 11), (164, 10), (164, 9), (164, 8), (164, 7), (164, 6), (164, 2)] (by decide)
    rw [← hH1]
    exact this
  have lp : ∃ (g' : GG) (H' : List (Nat × Nat)), kl_X0_init_119 [.ref 164, .ref 1, .ref 77, .int (nI 0)] [] (HQ 172 (z + 479) g1 H1) = some (none, HQ 184 (z + 1643) g' H') ∧ INV 184 g' H' ∧ (∀ q, q ∈ H1 → q ∈ H') ∧ (∀ a, a < 172 → g' a = g1 a) ∧ (∀ i, i < 4 → ORQ g' (172 + 3 * i) (3 + i)) ∧ (164, 3) ∈ H' ∧ (164, 4) ∈ H' ∧ ∀ i, i < 4 → (165, i) ∈ H' ∧ (172 + 3 * i, 1) ∈ H' ∧ (172 + 3 * i, 2) ∈ H' := by
    have k2 : (164, 2) ∈ H1 := by rw [← hH1]; simp
    unfold kl_X0_init_119
    refine kFor 4 (by unfold FU; omega) (fun i ls h => ∃ (g' : GG) (H' : List (Nat × Nat)) (v : Value), ls = [.ref 164, .ref 1, v, .int (nI i)] ∧ h = HQ (172 + 3 * i) (z + 479 + 291 * i) g' H' ∧ INV (172 + 3 * i) g' H' ∧ (∀ q, q ∈ H1 → q ∈ H') ∧ (∀ a, a < 172 → g' a = g1 a) ∧ (∀ j, j < i → ORQ g' (172 + 3 * j) (3 + j)) ∧ ∀ j, j < i → (165, j) ∈ H' ∧ (172 + 3 * j, 1) ∈ H' ∧ (172 + 3 * j, 2) ∈ H') (fun r => ∃ (g' : GG) (H' : List (Nat × Nat)), r = some (none, HQ 184 (z + 1643) g' H') ∧ INV 184 g' H' ∧ (∀ q, q ∈ H1 → q ∈ H') ∧ (∀ a, a < 172 → g' a = g1 a) ∧ (∀ i, i < 4 → ORQ g' (172 + 3 * i) (3 + i)) ∧ (164, 3) ∈ H' ∧ (164, 4) ∈ H' ∧ ∀ i, i < 4 → (165, i) ∈ H' ∧ (172 + 3 * i, 1) ∈ H' ∧ (172 + 3 * i, 2) ∈ H') ?_ ?_ 0 _ _ (by omega) ⟨g1, H1, _, rfl, rfl, iH1, fun q hq => hq, fun _ _ => rfl, fun j hj => absurd hj (Nat.not_lt_zero _), fun j hj => absurd hj (Nat.not_lt_zero _)⟩
    · rintro s ls h ⟨g', H', v, rfl, rfl, h1, h2, h3, h4, h5⟩
      have hin : (4 ≤ 4) = True := eq_true (by omega)
      have n2 := h2 _ k2
      have n13 := h2 _ (sub1 _ h13)
      have n40 := h2 _ (sub1 _ h40)
      have n1741 := (h5 1 (by omega)).1
      have e21 : g' 17 0 = nI 4 := by rw [h3 17 (by omega), fr1 17 (by omega)]; exact hg4
      have ln := fun (k : KK) (ls st : List Value) => Q_len (n := 184) (z := z + 479 + 291 * 4) (g := g') (H := H') (a := 165) (kd := 5) (N := 4) (by omega) s174 (by decide) (by decide) k ls st
      have g2 := fun (H' : List (Nat × Nat)) (hm : (164, 2) ∈ H') (k : KK) (ls st : List Value) => Q_gr (n := 184) (z := z + 479 + 291 * 4) (g := g') (ci := 0) (N := 20) (show 164 < 184 by omega) s173 hm r2 k ls st
      have g2a := g2 H' n2
      have g2b := g2 ((164, 3) :: H') (List.mem_cons_of_mem _ n2)
      have g3b := fun (k : KK) (ls st : List Value) => Q_gr (n := 184) (z := z + 479 + 291 * 4) (g := g') (ci := 0) (N := 20) (H := (164, 3) :: H') (show 164 < 184 by omega) s173 List.mem_cons_self r3 k ls st
      have gw := fun (k : KK) (ls st : List Value) => Q_gr (n := 184) (z := z + 479 + 291 * 4) (g := g') (ci := 9) (N := 4) (show 1 < 184 by omega) s1 n13 w3 k ls st
      have al := fun (k : KK) (ls st : List Value) => Q_aal (n := 184) (z := z + 479 + 291 * 4) (g := g') (t := 3) (N := 6) (i := 0) (show 4 < 184 by omega) s4 (by decide) (by decide) n40 w40 k ls st
      have al4 := fun (k : KK) (ls st : List Value) => Q_aal (n := 184) (z := z + 479 + 291 * 4) (g := g') (t := 4) (N := 4) (i := 1) (H := (164, 3) :: H') (show 165 < 184 by omega) s174 (by decide) (by decide) (List.mem_cons_of_mem _ n1741) (RR174 1 (by omega)) k ls st
      have p3 := fun (k : KK) (ls st : List Value) => Q_pr (n := 184) (z := z + 479 + 291 * 4) (g := g') (H := H') (ci := 0) (N := 20) (kx := 3) (show 164 < 184 by omega) (show 17 < 184 by omega) s173 r3 k ls st
      have p4 := fun (k : KK) (ls st : List Value) => Q_pr (n := 184) (z := z + 479 + 291 * 4) (g := g') (H := (164, 3) :: H') (ci := 0) (N := 20) (kx := 4) (show 164 < 184 by omega) (show 175 < 184 by omega) s173 r4 k ls st
      have gi := fun (k : KK) (ls st : List Value) => Q_gi (n := 184) (z := z + 479 + 291 * 4) (g := g') (H := (164, 3) :: H') (ci := 1) (N := 10) (kx := 0) (show 17 < 184 by omega) s21 k ls st
      have e41 : nI 4 - nI 3 = nI 1 := by decide
      simp only [show 172 + 3 * 4 = 184 from rfl] at h1 ⊢
      simp only [show 172 + 3 * 1 = 175 from rfl] at al4
      simp (disch := first | assumption | omega) only [KL, KB, KC, KI, KJ, KZ, bI_0, bI_n, nI00, nI10, ne_eq, Classical.not_not, not_true_eq_false, not_false_eq_true, if_true, if_false, ite_not, ite_self, Bool.false_eq_true, nIne1, kMask, mask, mask_n, g2a, ln, nIle, hin, gw, al, p3, g2b, g3b, gi, e21, e41, al4, p4]
      refine ⟨g', (164, 4) :: (164, 3) :: H', ?_, (h1.pr (by omega)).pr (by omega), fun q hq => List.mem_cons_of_mem _ (List.mem_cons_of_mem _ (h2 q hq)), h3, h4, by simp, by simp, fun i hi => ?_⟩
      · rw [show z + 479 + 291 * 4 = z + 1643 by omega]
      · obtain ⟨x1, x2, x3⟩ := h5 i hi
        exact ⟨List.mem_cons_of_mem _ (List.mem_cons_of_mem _ x1), List.mem_cons_of_mem _ (List.mem_cons_of_mem _ x2), List.mem_cons_of_mem _ (List.mem_cons_of_mem _ x3)⟩
    · rintro s i hi ih ls h ⟨g', H', v, rfl, rfl, h1, h2, h3, h4, h5⟩
      have hin : (4 ≤ i) = False := eq_false (by omega)
      have hO := isO_all i hi
      have n2 := h2 _ k2
      obtain ⟨g2, H2, e2, v1, v2, v3, v4, v5, v6⟩ := i_orders (z := z + 479 + 291 * i + 3) (r := 3 + i) hO (by omega) (by omega) (by omega) h1
      have ln := fun (k : KK) (ls st : List Value) => Q_len (n := 172 + 3 * i) (z := z + 479 + 291 * i) (g := g') (H := H') (a := 165) (kd := 5) (N := 4) (by omega) s174 (by decide) (by decide) k ls st
      have g2a := fun (k : KK) (ls st : List Value) => Q_gr (n := 172 + 3 * i) (z := z + 479 + 291 * i) (g := g') (ci := 0) (N := 20) (show 164 < 172 + 3 * i by omega) s173 n2 r2 k ls st
      have nw := fun (k : KK) (ls st : List Value) => Q_new (z := z + 479 + 291 * i) (ci := 3) (N := 3) h1 (show 172 + 3 * i < 212 by omega) hO.1 k ls st
      have as := fun (k : KK) (ls st : List Value) => Q_aas (n := 172 + 3 * i + 3) (z := z + 479 + 291 * i + 3 + 288) (g := g2) (H := H2) (t := 4) (ci := 3) (nc := 3) (a := 165) (i := i) (show 165 < 172 + 3 * i + 3 by omega) (show 172 + 3 * i < 172 + 3 * i + 3 by omega) s174 hO.1 (by decide) hi (RR174 i hi) k ls st
      simp (disch := first | assumption | omega) only [KL, KB, KC, KI, KJ, KZ, bI_0, bI_n, nI00, nI10, ne_eq, Classical.not_not, not_true_eq_false, not_false_eq_true, if_true, if_false, ite_not, ite_self, Bool.false_eq_true, nIne1, kMask, mask, mask_n, g2a, ln, nIle, hin, nw, Q_ref1, nI_add, e2, as]
      refine ih _ _ ⟨g2, (165, i) :: H2, _, rfl, ?_, ?_, fun q hq => List.mem_cons_of_mem _ (v2 q (h2 q hq)), fun a ha => by rw [v3 a (by omega)]; exact h3 a ha, fun j hj => ?_, fun j hj => ?_⟩
      · rw [show 172 + 3 * i + 3 = 172 + 3 * (i + 1) by omega, show z + 479 + 291 * i + 3 + 288 = z + 479 + 291 * (i + 1) by omega]
      · rw [show 172 + 3 * (i + 1) = 172 + 3 * i + 3 by omega]
        exact v1.pr (by omega)
      · by_cases e : j = i
        · rw [e]; exact v4
        · obtain ⟨x1, x2⟩ := h4 j (by omega)
          exact ⟨by rw [v3 _ (by omega)]; exact x1, fun k hk x hx => by rw [v3 _ (by omega), v3 _ (by omega)]; exact x2 k hk x hx⟩
      · by_cases e : j = i
        · rw [e]; exact ⟨List.mem_cons_self, List.mem_cons_of_mem _ v5, List.mem_cons_of_mem _ v6⟩
        · obtain ⟨x1, x2, x3⟩ := h5 j (by omega)
          exact ⟨List.mem_cons_of_mem _ (v2 _ x1), List.mem_cons_of_mem _ (v2 _ x2), List.mem_cons_of_mem _ (v2 _ x3)⟩
  obtain ⟨g', H', e', w1, w2, w3', w4, w5, w6, w7⟩ := lp
  refine ⟨g', H', ?_, w1, fun q hq => w2 q (sub1 q hq), fun a ha => by rw [w3' a (by omega), fr1 a (by omega)], w4, fun j hj => ?_, fun j h1 h2 => w2 _ ?_, w7⟩
  · rw [← hg1, ← hH1] at e'
    simp (disch := first | assumption | omega | (repeat first | assumption | omega | apply INV.pi | apply INV.pr | (refine INV.up (by assumption) ?_))) only [f_X0_init, kb_X0_init_0, KL, KB, KC, KI, KJ, KZ, bI_0, bI_n, nI00, nI10, ne_eq, Classical.not_not, not_true_eq_false, not_false_eq_true, if_true, if_false, ite_not, ite_self, Bool.false_eq_true, nIne1, Q_obj, Q_newA, Q_pr, Q_pi, Nat.reduceAdd, Nat.add_assoc, e']
  · rcases (by omega : j = 0 ∨ j = 1 ∨ j = 2 ∨ j = 3 ∨ j = 4) with rfl | rfl | rfl | rfl | rfl
    · exact w2 _ (by rw [← hH1]; simp)
    · exact w2 _ (by rw [← hH1]; simp)
    · exact w2 _ (by rw [← hH1]; simp)
    · exact w5
    · exact w6
  · rw [← hH1]
    rcases (by omega : j = 6 ∨ j = 7 ∨ j = 8 ∨ j = 9 ∨ j = 10 ∨ j = 11) with rfl | rfl | rfl | rfl | rfl | rfl <;> simp
