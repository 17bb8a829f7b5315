theorem pure_law (L : Nat) (xs : Nat → Int32) (hL : L ≤ 4096) : ∃ h' : HP, f_law L xs [.ref (OUT + 2000)] h00 = some (some (.int 1), h') ∧ hN h' ≤ 600000 ∧ hZ h' ≤ 7302250 := by
  obtain ⟨g, m, o, hR, hi⟩ := init_law
  have h1 := law_go (R := RT) RT_mono ag_state ag_crossing ag_road ag_land ag_fight ag_cart ag_of ag_feed ag_end ag_rule ag_fault ag_waits ag_now ag_circle ag_meant ag_cleared ag_judge ag_comer ag_ever ag_lay ag_odds ag_mutual ag_used ag_holds ag_starve ag_shortest ag_sound ag_signs ag_border ag_run ag_days ag_count ag_link ag_ring ag_image ag_look L xs hL FU 0 g m o hR (by omega) (by unfold FU; omega)
  obtain ⟨g2, m2, o2, e⟩ := h1
  refine ⟨hp g2 m2 o2, ?_, Nat.le_of_ble_eq_true rfl, Nat.le_of_ble_eq_true rfl⟩
  show kb_L_law_0 L xs [.ref (OUT + 2000)] [] h00 = _
  rw [hi]
  exact e
