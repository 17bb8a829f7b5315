-- ===== what is still owed of the 36 agreements, and of the start =====
theorem ag_rule (a0 : Int32) : Ag RT f_X10_rule f_X11_rule [.int a0] := sorry
