-- ===== what is still owed of the 36 agreements, and of the start =====
theorem ag_rule (a0 : Int32) : Ag RT f_X10_rule f_X11_rule [.int a0] := sorry
theorem init_law : ∃ (g : GG) (m o : Nat), RT 0 g m o ∧ ∀ (L : Nat) (xs : Nat → Int32), kb_L_law_0 L xs [.ref (OUT + 2000)] [] h00 = kl_L_law_18 L xs [.ref (OUT + 2000), .ref 0, .ref 197, .int (nI 0)] [] (hp g m o) := sorry
