-- ===== wordings: the model's words =====
theorem SV0 (k0 : KK) (ks : List KK) (kd : KK) (ls st : List Value) (h : HP) : kSw 0 (k0 :: ks) kd ls (.int (nI 0) :: st) h = k0 ls st h := Eq.trans rfl rfl
theorem SV1 (k0 k1 : KK) (ks : List KK) (kd : KK) (ls st : List Value) (h : HP) : kSw 0 (k0 :: k1 :: ks) kd ls (.int (nI 1) :: st) h = k1 ls st h := Eq.trans rfl rfl
theorem SV2 (k0 k1 k2 : KK) (ks : List KK) (kd : KK) (ls st : List Value) (h : HP) : kSw 0 (k0 :: k1 :: k2 :: ks) kd ls (.int (nI 2) :: st) h = k2 ls st h := Eq.trans rfl rfl
theorem SV3 (k0 k1 k2 k3 : KK) (ks : List KK) (kd : KK) (ls st : List Value) (h : HP) : kSw 0 (k0 :: k1 :: k2 :: k3 :: ks) kd ls (.int (nI 3) :: st) h = k3 ls st h := Eq.trans rfl rfl
theorem SV4 (k0 k1 k2 k3 k4 : KK) (ks : List KK) (kd : KK) (ls st : List Value) (h : HP) : kSw 0 (k0 :: k1 :: k2 :: k3 :: k4 :: ks) kd ls (.int (nI 4) :: st) h = k4 ls st h := Eq.trans rfl rfl
theorem SV5 (k0 k1 k2 k3 k4 k5 : KK) (ks : List KK) (kd : KK) (ls st : List Value) (h : HP) : kSw 0 (k0 :: k1 :: k2 :: k3 :: k4 :: k5 :: ks) kd ls (.int (nI 5) :: st) h = k5 ls st h := Eq.trans rfl rfl
theorem SV6 (k0 k1 k2 k3 k4 k5 k6 : KK) (ks : List KK) (kd : KK) (ls st : List Value) (h : HP) : kSw 0 (k0 :: k1 :: k2 :: k3 :: k4 :: k5 :: k6 :: ks) kd ls (.int (nI 6) :: st) h = k6 ls st h := Eq.trans rfl rfl
theorem SV7 (k0 k1 k2 k3 k4 k5 k6 kd : KK) (ls st : List Value) (h : HP) : kSw 0 [k0, k1, k2, k3, k4, k5, k6] kd ls (.int (nI 7) :: st) h = kd ls st h := Eq.trans rfl rfl
theorem m_word0 (g : GG) (m o n x y rx ry : Nat) (p q : Goods) (en : g 188 20 = nI n) (n3 : 3 ≤ n) (n6 : n ≤ 6) (hx : x < n) (hy : y < n) (hp1 : p.1 < n) (hq1 : q.1 < n) (e9x : g 200 x = nI p.1) (e9y : g 200 y = nI q.1) (e11x : g 202 x = nI p.2.2) (e11y : g 202 y = nI q.2.2) (e12x : g 203 x = nI rx) (e12y : g 203 y = nI ry) (hrx : rx < 100) (hry : ry < 100) : f_X11_isWord [.ref 188, .int (nI 0), .int (nI x), .int (nI y)] (hp g m o) = some (some (.int (bW (wdB (fvec n x y (g 196) (g 197) (g 198) p q (bW (decide (ry < rx)))) 0))), hp g m o) := by
  have t1 := fun h => m_turn n x p.1 n3 n6 hx hp1 h
  have t2 := fun h => m_turn n y q.1 n3 n6 hy hq1 h
  have hn0 : (nI n = 0) = False := by rw [nIk0 (by omega)]; exact eq_false (by omega)
  have lx : (x + 1) % n < 2147483648 := by have := Nat.mod_lt (x + 1) (show 0 < n by omega); omega
  have ly : (y + 1) % n < 2147483648 := by have := Nat.mod_lt (y + 1) (show 0 < n by omega); omega
  have x6 : x < 6 := by omega
  have y6 : y < 6 := by omega
  generalize hF : fvec n x y (g 196) (g 197) (g 198) p q (bW (decide (ry < rx))) = F
  have F0 : F 0 = if y = (x + 1) % n then nI 1 else nI 0 := by rw [← hF]; rfl
  have F1 : F 1 = if x = (y + 1) % n then nI 1 else nI 0 := by rw [← hF]; rfl
  have F2 : F 2 = g 196 x := by rw [← hF]; rfl
  have F3 : F 3 = g 196 y := by rw [← hF]; rfl
  have F4 : F 4 = nI (turnN n x p.1) := by rw [← hF]; rfl
  have F5 : F 5 = nI (turnN n y q.1) := by rw [← hF]; rfl
  have F6 : F 6 = nI p.2.2 := by rw [← hF]; rfl
  have F7 : F 7 = nI q.2.2 := by rw [← hF]; rfl
  have F12 : F 12 = g 198 x := by rw [← hF]; rfl
  have F13 : F 13 = g 198 y := by rw [← hF]; rfl
  have F14 : F 14 = bW (decide (ry < rx)) := by rw [← hF]; rfl
  clear hF
  have e : wdB F 0 = decide (y = (x + 1) % n) := by
    show decide (F 0 = nI 1) = _
    by_cases a : y = (x + 1) % n
    · rw [decide_eq_true a]; exact decide_eq_true (by rw [F0, if_pos a])
    · rw [decide_eq_false a]; exact decide_eq_false (by rw [F0, if_neg a]; decide)
  rw [e]
  by_cases a : y = (x + 1) % n
  · have a' : (y = (x + 1) % n) = True := eq_true a
    rw [decide_eq_true a]
    simp (disch := first | assumption | omega) only [f_X11_isWord, kb_X11_isWord_0, kb_X11_isWord_61, KL, KB, KC, KI, KJ, KZ, bI_0, bI_n, nI00, nI10, ne_eq, Classical.not_not, not_true_eq_false, not_false_eq_true, if_true, if_false, ite_not, ite_self, Bool.false_eq_true, nIne1, O_mo, SV0, en, hn0, nI_add, nI_div, nI_rem2, nIeq, a']
    rfl
  · have a' : (y = (x + 1) % n) = False := eq_false a
    rw [decide_eq_false a]
    simp (disch := first | assumption | omega) only [f_X11_isWord, kb_X11_isWord_0, kb_X11_isWord_61, KL, KB, KC, KI, KJ, KZ, bI_0, bI_n, nI00, nI10, ne_eq, Classical.not_not, not_true_eq_false, not_false_eq_true, if_true, if_false, ite_not, ite_self, Bool.false_eq_true, nIne1, O_mo, SV0, en, hn0, nI_add, nI_div, nI_rem2, nIeq, a']
    rfl
theorem m_word1 (g : GG) (m o n x y rx ry : Nat) (p q : Goods) (en : g 188 20 = nI n) (n3 : 3 ≤ n) (n6 : n ≤ 6) (hx : x < n) (hy : y < n) (hp1 : p.1 < n) (hq1 : q.1 < n) (e9x : g 200 x = nI p.1) (e9y : g 200 y = nI q.1) (e11x : g 202 x = nI p.2.2) (e11y : g 202 y = nI q.2.2) (e12x : g 203 x = nI rx) (e12y : g 203 y = nI ry) (hrx : rx < 100) (hry : ry < 100) : f_X11_isWord [.ref 188, .int (nI 1), .int (nI x), .int (nI y)] (hp g m o) = some (some (.int (bW (wdB (fvec n x y (g 196) (g 197) (g 198) p q (bW (decide (ry < rx)))) 1))), hp g m o) := by
  have t1 := fun h => m_turn n x p.1 n3 n6 hx hp1 h
  have t2 := fun h => m_turn n y q.1 n3 n6 hy hq1 h
  have hn0 : (nI n = 0) = False := by rw [nIk0 (by omega)]; exact eq_false (by omega)
  have lx : (x + 1) % n < 2147483648 := by have := Nat.mod_lt (x + 1) (show 0 < n by omega); omega
  have ly : (y + 1) % n < 2147483648 := by have := Nat.mod_lt (y + 1) (show 0 < n by omega); omega
  have x6 : x < 6 := by omega
  have y6 : y < 6 := by omega
  generalize hF : fvec n x y (g 196) (g 197) (g 198) p q (bW (decide (ry < rx))) = F
  have F0 : F 0 = if y = (x + 1) % n then nI 1 else nI 0 := by rw [← hF]; rfl
  have F1 : F 1 = if x = (y + 1) % n then nI 1 else nI 0 := by rw [← hF]; rfl
  have F2 : F 2 = g 196 x := by rw [← hF]; rfl
  have F3 : F 3 = g 196 y := by rw [← hF]; rfl
  have F4 : F 4 = nI (turnN n x p.1) := by rw [← hF]; rfl
  have F5 : F 5 = nI (turnN n y q.1) := by rw [← hF]; rfl
  have F6 : F 6 = nI p.2.2 := by rw [← hF]; rfl
  have F7 : F 7 = nI q.2.2 := by rw [← hF]; rfl
  have F12 : F 12 = g 198 x := by rw [← hF]; rfl
  have F13 : F 13 = g 198 y := by rw [← hF]; rfl
  have F14 : F 14 = bW (decide (ry < rx)) := by rw [← hF]; rfl
  clear hF
  have e : wdB F 1 = decide (x = (y + 1) % n) := by
    show decide (F 1 = nI 1) = _
    by_cases a : x = (y + 1) % n
    · rw [decide_eq_true a]; exact decide_eq_true (by rw [F1, if_pos a])
    · rw [decide_eq_false a]; exact decide_eq_false (by rw [F1, if_neg a]; decide)
  rw [e]
  by_cases a : x = (y + 1) % n
  · have a' : (x = (y + 1) % n) = True := eq_true a
    rw [decide_eq_true a]
    simp (disch := first | assumption | omega) only [f_X11_isWord, kb_X11_isWord_0, kb_X11_isWord_79, KL, KB, KC, KI, KJ, KZ, bI_0, bI_n, nI00, nI10, ne_eq, Classical.not_not, not_true_eq_false, not_false_eq_true, if_true, if_false, ite_not, ite_self, Bool.false_eq_true, nIne1, O_mo, SV1, en, hn0, nI_add, nI_div, nI_rem2, nIeq, a']
    rfl
  · have a' : (x = (y + 1) % n) = False := eq_false a
    rw [decide_eq_false a]
    simp (disch := first | assumption | omega) only [f_X11_isWord, kb_X11_isWord_0, kb_X11_isWord_79, KL, KB, KC, KI, KJ, KZ, bI_0, bI_n, nI00, nI10, ne_eq, Classical.not_not, not_true_eq_false, not_false_eq_true, if_true, if_false, ite_not, ite_self, Bool.false_eq_true, nIne1, O_mo, SV1, en, hn0, nI_add, nI_div, nI_rem2, nIeq, a']
    rfl
theorem m_word2 (g : GG) (m o n x y rx ry : Nat) (p q : Goods) (en : g 188 20 = nI n) (n3 : 3 ≤ n) (n6 : n ≤ 6) (hx : x < n) (hy : y < n) (hp1 : p.1 < n) (hq1 : q.1 < n) (e9x : g 200 x = nI p.1) (e9y : g 200 y = nI q.1) (e11x : g 202 x = nI p.2.2) (e11y : g 202 y = nI q.2.2) (e12x : g 203 x = nI rx) (e12y : g 203 y = nI ry) (hrx : rx < 100) (hry : ry < 100) : f_X11_isWord [.ref 188, .int (nI 2), .int (nI x), .int (nI y)] (hp g m o) = some (some (.int (bW (wdB (fvec n x y (g 196) (g 197) (g 198) p q (bW (decide (ry < rx)))) 2))), hp g m o) := by
  have t1 := fun h => m_turn n x p.1 n3 n6 hx hp1 h
  have t2 := fun h => m_turn n y q.1 n3 n6 hy hq1 h
  have hn0 : (nI n = 0) = False := by rw [nIk0 (by omega)]; exact eq_false (by omega)
  have lx : (x + 1) % n < 2147483648 := by have := Nat.mod_lt (x + 1) (show 0 < n by omega); omega
  have ly : (y + 1) % n < 2147483648 := by have := Nat.mod_lt (y + 1) (show 0 < n by omega); omega
  have x6 : x < 6 := by omega
  have y6 : y < 6 := by omega
  generalize hF : fvec n x y (g 196) (g 197) (g 198) p q (bW (decide (ry < rx))) = F
  have F0 : F 0 = if y = (x + 1) % n then nI 1 else nI 0 := by rw [← hF]; rfl
  have F1 : F 1 = if x = (y + 1) % n then nI 1 else nI 0 := by rw [← hF]; rfl
  have F2 : F 2 = g 196 x := by rw [← hF]; rfl
  have F3 : F 3 = g 196 y := by rw [← hF]; rfl
  have F4 : F 4 = nI (turnN n x p.1) := by rw [← hF]; rfl
  have F5 : F 5 = nI (turnN n y q.1) := by rw [← hF]; rfl
  have F6 : F 6 = nI p.2.2 := by rw [← hF]; rfl
  have F7 : F 7 = nI q.2.2 := by rw [← hF]; rfl
  have F12 : F 12 = g 198 x := by rw [← hF]; rfl
  have F13 : F 13 = g 198 y := by rw [← hF]; rfl
  have F14 : F 14 = bW (decide (ry < rx)) := by rw [← hF]; rfl
  clear hF
  have e : wdB F 2 = decide (ry < rx) := wd_b F14
  rw [e]
  by_cases a : ry < rx
  · have a' : (rx ≤ ry) = False := eq_false (by omega)
    rw [decide_eq_true a]
    simp (disch := first | assumption | omega) only [f_X11_isWord, kb_X11_isWord_0, kb_X11_isWord_100, KL, KB, KC, KI, KJ, KZ, bI_0, bI_n, nI00, nI10, ne_eq, Classical.not_not, not_true_eq_false, not_false_eq_true, if_true, if_false, ite_not, ite_self, Bool.false_eq_true, nIne1, O_mo, AR, SV2, e12x, e12y, nIle, a']
    rfl
  · have a' : (rx ≤ ry) = True := eq_true (by omega)
    rw [decide_eq_false a]
    simp (disch := first | assumption | omega) only [f_X11_isWord, kb_X11_isWord_0, kb_X11_isWord_100, KL, KB, KC, KI, KJ, KZ, bI_0, bI_n, nI00, nI10, ne_eq, Classical.not_not, not_true_eq_false, not_false_eq_true, if_true, if_false, ite_not, ite_self, Bool.false_eq_true, nIne1, O_mo, AR, SV2, e12x, e12y, nIle, a']
    rfl
theorem m_word3 (g : GG) (m o n x y rx ry : Nat) (p q : Goods) (en : g 188 20 = nI n) (n3 : 3 ≤ n) (n6 : n ≤ 6) (hx : x < n) (hy : y < n) (hp1 : p.1 < n) (hq1 : q.1 < n) (e9x : g 200 x = nI p.1) (e9y : g 200 y = nI q.1) (e11x : g 202 x = nI p.2.2) (e11y : g 202 y = nI q.2.2) (e12x : g 203 x = nI rx) (e12y : g 203 y = nI ry) (hrx : rx < 100) (hry : ry < 100) : f_X11_isWord [.ref 188, .int (nI 3), .int (nI x), .int (nI y)] (hp g m o) = some (some (.int (bW (wdB (fvec n x y (g 196) (g 197) (g 198) p q (bW (decide (ry < rx)))) 3))), hp g m o) := by
  have t1 := fun h => m_turn n x p.1 n3 n6 hx hp1 h
  have t2 := fun h => m_turn n y q.1 n3 n6 hy hq1 h
  have hn0 : (nI n = 0) = False := by rw [nIk0 (by omega)]; exact eq_false (by omega)
  have lx : (x + 1) % n < 2147483648 := by have := Nat.mod_lt (x + 1) (show 0 < n by omega); omega
  have ly : (y + 1) % n < 2147483648 := by have := Nat.mod_lt (y + 1) (show 0 < n by omega); omega
  have x6 : x < 6 := by omega
  have y6 : y < 6 := by omega
  generalize hF : fvec n x y (g 196) (g 197) (g 198) p q (bW (decide (ry < rx))) = F
  have F0 : F 0 = if y = (x + 1) % n then nI 1 else nI 0 := by rw [← hF]; rfl
  have F1 : F 1 = if x = (y + 1) % n then nI 1 else nI 0 := by rw [← hF]; rfl
  have F2 : F 2 = g 196 x := by rw [← hF]; rfl
  have F3 : F 3 = g 196 y := by rw [← hF]; rfl
  have F4 : F 4 = nI (turnN n x p.1) := by rw [← hF]; rfl
  have F5 : F 5 = nI (turnN n y q.1) := by rw [← hF]; rfl
  have F6 : F 6 = nI p.2.2 := by rw [← hF]; rfl
  have F7 : F 7 = nI q.2.2 := by rw [← hF]; rfl
  have F12 : F 12 = g 198 x := by rw [← hF]; rfl
  have F13 : F 13 = g 198 y := by rw [← hF]; rfl
  have F14 : F 14 = bW (decide (ry < rx)) := by rw [← hF]; rfl
  clear hF
  by_cases a : g 196 y ≤ g 196 x
  · have a' : (g 196 y ≤ g 196 x) = True := eq_true a
    have e : wdB F 3 = false := decide_eq_false (fun q => q (by rw [F2, F3]; exact a))
    rw [e]
    simp (disch := first | assumption | omega) only [f_X11_isWord, kb_X11_isWord_0, kb_X11_isWord_121, KL, KB, KC, KI, KJ, KZ, bI_0, bI_n, nI00, nI10, ne_eq, Classical.not_not, not_true_eq_false, not_false_eq_true, if_true, if_false, ite_not, ite_self, Bool.false_eq_true, nIne1, O_mo, AR, SV3, a']
    rfl
  · have a' : (g 196 y ≤ g 196 x) = False := eq_false a
    have e : wdB F 3 = true := decide_eq_true (by rw [F2, F3]; exact a)
    rw [e]
    simp (disch := first | assumption | omega) only [f_X11_isWord, kb_X11_isWord_0, kb_X11_isWord_121, KL, KB, KC, KI, KJ, KZ, bI_0, bI_n, nI00, nI10, ne_eq, Classical.not_not, not_true_eq_false, not_false_eq_true, if_true, if_false, ite_not, ite_self, Bool.false_eq_true, nIne1, O_mo, AR, SV3, a']
    rfl
theorem m_word4 (g : GG) (m o n x y rx ry : Nat) (p q : Goods) (en : g 188 20 = nI n) (n3 : 3 ≤ n) (n6 : n ≤ 6) (hx : x < n) (hy : y < n) (hp1 : p.1 < n) (hq1 : q.1 < n) (e9x : g 200 x = nI p.1) (e9y : g 200 y = nI q.1) (e11x : g 202 x = nI p.2.2) (e11y : g 202 y = nI q.2.2) (e12x : g 203 x = nI rx) (e12y : g 203 y = nI ry) (hrx : rx < 100) (hry : ry < 100) : f_X11_isWord [.ref 188, .int (nI 4), .int (nI x), .int (nI y)] (hp g m o) = some (some (.int (bW (wdB (fvec n x y (g 196) (g 197) (g 198) p q (bW (decide (ry < rx)))) 4))), hp g m o) := by
  have t1 := fun h => m_turn n x p.1 n3 n6 hx hp1 h
  have t2 := fun h => m_turn n y q.1 n3 n6 hy hq1 h
  have hn0 : (nI n = 0) = False := by rw [nIk0 (by omega)]; exact eq_false (by omega)
  have lx : (x + 1) % n < 2147483648 := by have := Nat.mod_lt (x + 1) (show 0 < n by omega); omega
  have ly : (y + 1) % n < 2147483648 := by have := Nat.mod_lt (y + 1) (show 0 < n by omega); omega
  have x6 : x < 6 := by omega
  have y6 : y < 6 := by omega
  generalize hF : fvec n x y (g 196) (g 197) (g 198) p q (bW (decide (ry < rx))) = F
  have F0 : F 0 = if y = (x + 1) % n then nI 1 else nI 0 := by rw [← hF]; rfl
  have F1 : F 1 = if x = (y + 1) % n then nI 1 else nI 0 := by rw [← hF]; rfl
  have F2 : F 2 = g 196 x := by rw [← hF]; rfl
  have F3 : F 3 = g 196 y := by rw [← hF]; rfl
  have F4 : F 4 = nI (turnN n x p.1) := by rw [← hF]; rfl
  have F5 : F 5 = nI (turnN n y q.1) := by rw [← hF]; rfl
  have F6 : F 6 = nI p.2.2 := by rw [← hF]; rfl
  have F7 : F 7 = nI q.2.2 := by rw [← hF]; rfl
  have F12 : F 12 = g 198 x := by rw [← hF]; rfl
  have F13 : F 13 = g 198 y := by rw [← hF]; rfl
  have F14 : F 14 = bW (decide (ry < rx)) := by rw [← hF]; rfl
  clear hF
  have e : wdB F 4 = (decide (nI (turnN n y q.1) = 0) && decide (¬ nI (turnN n x p.1) = 0)) := by
    show (decide (F 5 = 0) && decide (¬ F 4 = 0)) = _
    rw [F4, F5]
  rw [e]
  by_cases a : nI (turnN n y q.1) = 0
  · have a' : (nI (turnN n y q.1) = 0) = True := eq_true a
    by_cases b : nI (turnN n x p.1) = 0
    · have b' : (nI (turnN n x p.1) = 0) = True := eq_true b
      rw [decide_eq_false (p := ¬ nI (turnN n x p.1) = 0) (fun q => q b), Bool.and_false]
      simp (disch := first | assumption | omega) only [f_X11_isWord, kb_X11_isWord_0, kb_X11_isWord_160, kb_X11_isWord_161, KL, KB, KC, KI, KJ, KZ, bI_0, bI_n, nI00, nI10, ne_eq, Classical.not_not, not_true_eq_false, not_false_eq_true, if_true, if_false, ite_not, ite_self, Bool.false_eq_true, nIne1, O_mo, AR, SV4, en, e9x, e9y, t1, t2, a', b']
      rfl
    · have b' : (nI (turnN n x p.1) = 0) = False := eq_false b
      rw [decide_eq_true a, decide_eq_true b]
      simp (disch := first | assumption | omega) only [f_X11_isWord, kb_X11_isWord_0, kb_X11_isWord_160, kb_X11_isWord_161, KL, KB, KC, KI, KJ, KZ, bI_0, bI_n, nI00, nI10, ne_eq, Classical.not_not, not_true_eq_false, not_false_eq_true, if_true, if_false, ite_not, ite_self, Bool.false_eq_true, nIne1, O_mo, AR, SV4, en, e9x, e9y, t1, t2, a', b']
      rfl
  · have a' : (nI (turnN n y q.1) = 0) = False := eq_false a
    rw [decide_eq_false a, Bool.false_and]
    simp (disch := first | assumption | omega) only [f_X11_isWord, kb_X11_isWord_0, kb_X11_isWord_160, kb_X11_isWord_161, KL, KB, KC, KI, KJ, KZ, bI_0, bI_n, nI00, nI10, ne_eq, Classical.not_not, not_true_eq_false, not_false_eq_true, if_true, if_false, ite_not, ite_self, Bool.false_eq_true, nIne1, O_mo, AR, SV4, en, e9x, e9y, t1, t2, a']
    rfl
theorem m_word5 (g : GG) (m o n x y rx ry : Nat) (p q : Goods) (en : g 188 20 = nI n) (n3 : 3 ≤ n) (n6 : n ≤ 6) (hx : x < n) (hy : y < n) (hp1 : p.1 < n) (hq1 : q.1 < n) (e9x : g 200 x = nI p.1) (e9y : g 200 y = nI q.1) (e11x : g 202 x = nI p.2.2) (e11y : g 202 y = nI q.2.2) (e12x : g 203 x = nI rx) (e12y : g 203 y = nI ry) (hrx : rx < 100) (hry : ry < 100) : f_X11_isWord [.ref 188, .int (nI 5), .int (nI x), .int (nI y)] (hp g m o) = some (some (.int (bW (wdB (fvec n x y (g 196) (g 197) (g 198) p q (bW (decide (ry < rx)))) 5))), hp g m o) := by
  have t1 := fun h => m_turn n x p.1 n3 n6 hx hp1 h
  have t2 := fun h => m_turn n y q.1 n3 n6 hy hq1 h
  have hn0 : (nI n = 0) = False := by rw [nIk0 (by omega)]; exact eq_false (by omega)
  have lx : (x + 1) % n < 2147483648 := by have := Nat.mod_lt (x + 1) (show 0 < n by omega); omega
  have ly : (y + 1) % n < 2147483648 := by have := Nat.mod_lt (y + 1) (show 0 < n by omega); omega
  have x6 : x < 6 := by omega
  have y6 : y < 6 := by omega
  generalize hF : fvec n x y (g 196) (g 197) (g 198) p q (bW (decide (ry < rx))) = F
  have F0 : F 0 = if y = (x + 1) % n then nI 1 else nI 0 := by rw [← hF]; rfl
  have F1 : F 1 = if x = (y + 1) % n then nI 1 else nI 0 := by rw [← hF]; rfl
  have F2 : F 2 = g 196 x := by rw [← hF]; rfl
  have F3 : F 3 = g 196 y := by rw [← hF]; rfl
  have F4 : F 4 = nI (turnN n x p.1) := by rw [← hF]; rfl
  have F5 : F 5 = nI (turnN n y q.1) := by rw [← hF]; rfl
  have F6 : F 6 = nI p.2.2 := by rw [← hF]; rfl
  have F7 : F 7 = nI q.2.2 := by rw [← hF]; rfl
  have F12 : F 12 = g 198 x := by rw [← hF]; rfl
  have F13 : F 13 = g 198 y := by rw [← hF]; rfl
  have F14 : F 14 = bW (decide (ry < rx)) := by rw [← hF]; rfl
  clear hF
  have e : wdB F 5 = (decide (nI (turnN n x p.1) = nI 2) && decide (¬ nI (turnN n y q.1) = nI 2)) := by
    show (decide (F 4 = nI 2) && decide (¬ F 5 = nI 2)) = _
    rw [F4, F5]
  rw [e]
  by_cases a : nI (turnN n x p.1) = nI 2
  · have a' : (nI (turnN n x p.1) = nI 2) = True := eq_true a
    by_cases b : nI (turnN n y q.1) = nI 2
    · have b' : (nI (turnN n y q.1) = nI 2) = True := eq_true b
      rw [decide_eq_false (p := ¬ nI (turnN n y q.1) = nI 2) (fun q => q b), Bool.and_false]
      simp (disch := first | assumption | omega) only [f_X11_isWord, kb_X11_isWord_0, kb_X11_isWord_202, kb_X11_isWord_203, KL, KB, KC, KI, KJ, KZ, bI_0, bI_n, nI00, nI10, ne_eq, Classical.not_not, not_true_eq_false, not_false_eq_true, if_true, if_false, ite_not, ite_self, Bool.false_eq_true, nIne1, O_mo, AR, SV5, en, e9x, e9y, t1, t2, a', b']
      rfl
    · have b' : (nI (turnN n y q.1) = nI 2) = False := eq_false b
      rw [decide_eq_true a, decide_eq_true b]
      simp (disch := first | assumption | omega) only [f_X11_isWord, kb_X11_isWord_0, kb_X11_isWord_202, kb_X11_isWord_203, KL, KB, KC, KI, KJ, KZ, bI_0, bI_n, nI00, nI10, ne_eq, Classical.not_not, not_true_eq_false, not_false_eq_true, if_true, if_false, ite_not, ite_self, Bool.false_eq_true, nIne1, O_mo, AR, SV5, en, e9x, e9y, t1, t2, a', b']
      rfl
  · have a' : (nI (turnN n x p.1) = nI 2) = False := eq_false a
    rw [decide_eq_false a, Bool.false_and]
    simp (disch := first | assumption | omega) only [f_X11_isWord, kb_X11_isWord_0, kb_X11_isWord_202, kb_X11_isWord_203, KL, KB, KC, KI, KJ, KZ, bI_0, bI_n, nI00, nI10, ne_eq, Classical.not_not, not_true_eq_false, not_false_eq_true, if_true, if_false, ite_not, ite_self, Bool.false_eq_true, nIne1, O_mo, AR, SV5, en, e9x, e9y, t1, t2, a']
    rfl
theorem m_word6 (g : GG) (m o n x y rx ry : Nat) (p q : Goods) (en : g 188 20 = nI n) (n3 : 3 ≤ n) (n6 : n ≤ 6) (hx : x < n) (hy : y < n) (hp1 : p.1 < n) (hq1 : q.1 < n) (e9x : g 200 x = nI p.1) (e9y : g 200 y = nI q.1) (e11x : g 202 x = nI p.2.2) (e11y : g 202 y = nI q.2.2) (e12x : g 203 x = nI rx) (e12y : g 203 y = nI ry) (hrx : rx < 100) (hry : ry < 100) : f_X11_isWord [.ref 188, .int (nI 6), .int (nI x), .int (nI y)] (hp g m o) = some (some (.int (bW (wdB (fvec n x y (g 196) (g 197) (g 198) p q (bW (decide (ry < rx)))) 6))), hp g m o) := by
  have t1 := fun h => m_turn n x p.1 n3 n6 hx hp1 h
  have t2 := fun h => m_turn n y q.1 n3 n6 hy hq1 h
  have hn0 : (nI n = 0) = False := by rw [nIk0 (by omega)]; exact eq_false (by omega)
  have lx : (x + 1) % n < 2147483648 := by have := Nat.mod_lt (x + 1) (show 0 < n by omega); omega
  have ly : (y + 1) % n < 2147483648 := by have := Nat.mod_lt (y + 1) (show 0 < n by omega); omega
  have x6 : x < 6 := by omega
  have y6 : y < 6 := by omega
  generalize hF : fvec n x y (g 196) (g 197) (g 198) p q (bW (decide (ry < rx))) = F
  have F0 : F 0 = if y = (x + 1) % n then nI 1 else nI 0 := by rw [← hF]; rfl
  have F1 : F 1 = if x = (y + 1) % n then nI 1 else nI 0 := by rw [← hF]; rfl
  have F2 : F 2 = g 196 x := by rw [← hF]; rfl
  have F3 : F 3 = g 196 y := by rw [← hF]; rfl
  have F4 : F 4 = nI (turnN n x p.1) := by rw [← hF]; rfl
  have F5 : F 5 = nI (turnN n y q.1) := by rw [← hF]; rfl
  have F6 : F 6 = nI p.2.2 := by rw [← hF]; rfl
  have F7 : F 7 = nI q.2.2 := by rw [← hF]; rfl
  have F12 : F 12 = g 198 x := by rw [← hF]; rfl
  have F13 : F 13 = g 198 y := by rw [← hF]; rfl
  have F14 : F 14 = bW (decide (ry < rx)) := by rw [← hF]; rfl
  clear hF
  by_cases a : nI q.2.2 ≤ nI p.2.2
  · have a' : (nI q.2.2 ≤ nI p.2.2) = True := eq_true a
    have e : wdB F 6 = false := decide_eq_false (fun q => q (by rw [F6, F7]; exact a))
    rw [e]
    simp (disch := first | assumption | omega) only [f_X11_isWord, kb_X11_isWord_0, kb_X11_isWord_224, KL, KB, KC, KI, KJ, KZ, bI_0, bI_n, nI00, nI10, ne_eq, Classical.not_not, not_true_eq_false, not_false_eq_true, if_true, if_false, ite_not, ite_self, Bool.false_eq_true, nIne1, O_mo, AR, SV6, e11x, e11y, a']
    rfl
  · have a' : (nI q.2.2 ≤ nI p.2.2) = False := eq_false a
    have e : wdB F 6 = true := decide_eq_true (by rw [F6, F7]; exact a)
    rw [e]
    simp (disch := first | assumption | omega) only [f_X11_isWord, kb_X11_isWord_0, kb_X11_isWord_224, KL, KB, KC, KI, KJ, KZ, bI_0, bI_n, nI00, nI10, ne_eq, Classical.not_not, not_true_eq_false, not_false_eq_true, if_true, if_false, ite_not, ite_self, Bool.false_eq_true, nIne1, O_mo, AR, SV6, e11x, e11y, a']
    rfl
theorem m_word7 (g : GG) (m o n x y rx ry : Nat) (p q : Goods) (en : g 188 20 = nI n) (n3 : 3 ≤ n) (n6 : n ≤ 6) (hx : x < n) (hy : y < n) (hp1 : p.1 < n) (hq1 : q.1 < n) (e9x : g 200 x = nI p.1) (e9y : g 200 y = nI q.1) (e11x : g 202 x = nI p.2.2) (e11y : g 202 y = nI q.2.2) (e12x : g 203 x = nI rx) (e12y : g 203 y = nI ry) (hrx : rx < 100) (hry : ry < 100) : f_X11_isWord [.ref 188, .int (nI 7), .int (nI x), .int (nI y)] (hp g m o) = some (some (.int (bW (wdB (fvec n x y (g 196) (g 197) (g 198) p q (bW (decide (ry < rx)))) 7))), hp g m o) := by
  have t1 := fun h => m_turn n x p.1 n3 n6 hx hp1 h
  have t2 := fun h => m_turn n y q.1 n3 n6 hy hq1 h
  have hn0 : (nI n = 0) = False := by rw [nIk0 (by omega)]; exact eq_false (by omega)
  have lx : (x + 1) % n < 2147483648 := by have := Nat.mod_lt (x + 1) (show 0 < n by omega); omega
  have ly : (y + 1) % n < 2147483648 := by have := Nat.mod_lt (y + 1) (show 0 < n by omega); omega
  have x6 : x < 6 := by omega
  have y6 : y < 6 := by omega
  generalize hF : fvec n x y (g 196) (g 197) (g 198) p q (bW (decide (ry < rx))) = F
  have F0 : F 0 = if y = (x + 1) % n then nI 1 else nI 0 := by rw [← hF]; rfl
  have F1 : F 1 = if x = (y + 1) % n then nI 1 else nI 0 := by rw [← hF]; rfl
  have F2 : F 2 = g 196 x := by rw [← hF]; rfl
  have F3 : F 3 = g 196 y := by rw [← hF]; rfl
  have F4 : F 4 = nI (turnN n x p.1) := by rw [← hF]; rfl
  have F5 : F 5 = nI (turnN n y q.1) := by rw [← hF]; rfl
  have F6 : F 6 = nI p.2.2 := by rw [← hF]; rfl
  have F7 : F 7 = nI q.2.2 := by rw [← hF]; rfl
  have F12 : F 12 = g 198 x := by rw [← hF]; rfl
  have F13 : F 13 = g 198 y := by rw [← hF]; rfl
  have F14 : F 14 = bW (decide (ry < rx)) := by rw [← hF]; rfl
  clear hF
  have e : wdB F 7 = (decide (g 198 y = 0) && decide (¬ g 198 x = 0)) := by
    show (decide (F 13 = 0) && decide (¬ F 12 = 0)) = _
    rw [F12, F13]
  rw [e]
  by_cases a : g 198 y = 0
  · have a' : (g 198 y = 0) = True := eq_true a
    by_cases b : g 198 x = 0
    · have b' : (g 198 x = 0) = True := eq_true b
      rw [decide_eq_false (p := ¬ g 198 x = 0) (fun q => q b), Bool.and_false]
      simp (disch := first | assumption | omega) only [f_X11_isWord, kb_X11_isWord_0, kb_X11_isWord_247, kb_X11_isWord_248, KL, KB, KC, KI, KJ, KZ, bI_0, bI_n, nI00, nI10, ne_eq, Classical.not_not, not_true_eq_false, not_false_eq_true, if_true, if_false, ite_not, ite_self, Bool.false_eq_true, nIne1, O_mo, AR, SV7, a', b']
      rfl
    · have b' : (g 198 x = 0) = False := eq_false b
      rw [decide_eq_true a, decide_eq_true b]
      simp (disch := first | assumption | omega) only [f_X11_isWord, kb_X11_isWord_0, kb_X11_isWord_247, kb_X11_isWord_248, KL, KB, KC, KI, KJ, KZ, bI_0, bI_n, nI00, nI10, ne_eq, Classical.not_not, not_true_eq_false, not_false_eq_true, if_true, if_false, ite_not, ite_self, Bool.false_eq_true, nIne1, O_mo, AR, SV7, a', b']
      rfl
  · have a' : (g 198 y = 0) = False := eq_false a
    rw [decide_eq_false a, Bool.false_and]
    simp (disch := first | assumption | omega) only [f_X11_isWord, kb_X11_isWord_0, kb_X11_isWord_247, kb_X11_isWord_248, KL, KB, KC, KI, KJ, KZ, bI_0, bI_n, nI00, nI10, ne_eq, Classical.not_not, not_true_eq_false, not_false_eq_true, if_true, if_false, ite_not, ite_self, Bool.false_eq_true, nIne1, O_mo, AR, SV7, a']
    rfl
theorem m_isWord (g : GG) (m o n x y w rx ry : Nat) (p q : Goods) (en : g 188 20 = nI n) (n3 : 3 ≤ n) (n6 : n ≤ 6) (hx : x < n) (hy : y < n) (hp1 : p.1 < n) (hq1 : q.1 < n) (e9x : g 200 x = nI p.1) (e9y : g 200 y = nI q.1) (e11x : g 202 x = nI p.2.2) (e11y : g 202 y = nI q.2.2) (e12x : g 203 x = nI rx) (e12y : g 203 y = nI ry) (hrx : rx < 100) (hry : ry < 100) (hw : w < 8) : f_X11_isWord [.ref 188, .int (nI w), .int (nI x), .int (nI y)] (hp g m o) = some (some (.int (bW (wdB (fvec n x y (g 196) (g 197) (g 198) p q (bW (decide (ry < rx)))) w))), hp g m o) := by
  rcases (by omega : w = 0 ∨ w = 1 ∨ w = 2 ∨ w = 3 ∨ w = 4 ∨ w = 5 ∨ w = 6 ∨ w = 7) with rfl | rfl | rfl | rfl | rfl | rfl | rfl | rfl
  · exact m_word0 g m o n x y rx ry p q en n3 n6 hx hy hp1 hq1 e9x e9y e11x e11y e12x e12y hrx hry
  · exact m_word1 g m o n x y rx ry p q en n3 n6 hx hy hp1 hq1 e9x e9y e11x e11y e12x e12y hrx hry
  · exact m_word2 g m o n x y rx ry p q en n3 n6 hx hy hp1 hq1 e9x e9y e11x e11y e12x e12y hrx hry
  · exact m_word3 g m o n x y rx ry p q en n3 n6 hx hy hp1 hq1 e9x e9y e11x e11y e12x e12y hrx hry
  · exact m_word4 g m o n x y rx ry p q en n3 n6 hx hy hp1 hq1 e9x e9y e11x e11y e12x e12y hrx hry
  · exact m_word5 g m o n x y rx ry p q en n3 n6 hx hy hp1 hq1 e9x e9y e11x e11y e12x e12y hrx hry
  · exact m_word6 g m o n x y rx ry p q en n3 n6 hx hy hp1 hq1 e9x e9y e11x e11y e12x e12y hrx hry
  · exact m_word7 g m o n x y rx ry p q en n3 n6 hx hy hp1 hq1 e9x e9y e11x e11y e12x e12y hrx hry
theorem m_byW (g : GG) (m o x y w : Nat) (P : Nat → Bool) (h33 : g 188 33 = nI w) (hw : okW w) (hP : ∀ a, a < 8 → f_X11_isWord [.ref 188, .int (nI a), .int (nI x), .int (nI y)] (hp g m o) = some (some (.int (bW (P a))), hp g m o)) : f_X11_waitsByWording [.ref 188, .int (nI x), .int (nI y)] (hp g m o) = some (some (.int (bW (wgB P w))), hp g m o) := by
  obtain ⟨w1, w2, w3⟩ := hw
  have l8 : ∀ a, a % 8 < 8 := fun a => Nat.mod_lt _ (by decide)
  have hd : ∀ a b : Nat, a < 1000 → b < 1000 → nI a / nI b = nI (a / b) := fun a b ha hb => nI_div a b (by omega) (by omega)
  have m17 : w % 17 < 17 := Nat.mod_lt _ (by decide)
  have e17 : w / 17 < 20 := by omega
  have m1 : 1 ≤ w % 17 := by omega
  have p2 := hP ((w % 17 - 1) % 8) (l8 _)
  have z0 : (bW false = 0) = True := eq_true rfl
  have z1 : (bW true = 0) = False := eq_false (by decide)
  have tail : (¬ (0 < w / 17 ∧ P ((w / 17 - 1) % 8) = true)) → kb_X11_waitsByWording_48 [.ref 188, .int (nI x), .int (nI y), .int (nI (w / 17)), .int (nI (w % 17))] [] (hp g m o) = some (some (.int (bW (wgB P w))), hp g m o) := by
    intro hn
    unfold wgB
    rw [if_neg hn]
    cases hq0 : P ((w % 17 - 1) % 8) with
    | false =>
      rw [hq0] at p2
      simp (disch := first | assumption | omega) only [kb_X11_waitsByWording_48, kb_X11_waitsByWording_75, kb_X11_waitsByWording_76, KL, KB, KC, KI, KJ, KZ, bI_0, bI_n, nI00, nI10, ne_eq, Classical.not_not, not_true_eq_false, not_false_eq_true, if_true, if_false, ite_not, ite_self, Bool.false_eq_true, nIne1, O_mo, nI_sub, hd, nI_rem2, p2, z0]
      rfl
    | true =>
      rw [hq0] at p2
      by_cases t : w % 17 < 9
      · have t' : (9 ≤ w % 17) = False := eq_false (by omega)
        rw [decide_eq_true t]
        simp (disch := first | assumption | omega) only [kb_X11_waitsByWording_48, kb_X11_waitsByWording_75, kb_X11_waitsByWording_76, KL, KB, KC, KI, KJ, KZ, bI_0, bI_n, nI00, nI10, ne_eq, Classical.not_not, not_true_eq_false, not_false_eq_true, if_true, if_false, ite_not, ite_self, Bool.false_eq_true, nIne1, O_mo, nI_sub, hd, nI_rem2, p2, z1, nIle, t']
        rfl
      · have t' : (9 ≤ w % 17) = True := eq_true (by omega)
        rw [decide_eq_false t]
        simp (disch := first | assumption | omega) only [kb_X11_waitsByWording_48, kb_X11_waitsByWording_75, kb_X11_waitsByWording_76, KL, KB, KC, KI, KJ, KZ, bI_0, bI_n, nI00, nI10, ne_eq, Classical.not_not, not_true_eq_false, not_false_eq_true, if_true, if_false, ite_not, ite_self, Bool.false_eq_true, nIne1, O_mo, nI_sub, hd, nI_rem2, p2, z1, nIle, t']
        rfl
  by_cases q : w / 17 = 0
  · have q' : (nI (w / 17) ≤ 0) = True := by rw [nIle0 (by omega)]; exact eq_true q
    have := tail (by omega)
    simp (disch := first | assumption | omega) only [f_X11_waitsByWording, kb_X11_waitsByWording_0, KL, KB, KC, KI, KJ, KZ, bI_0, bI_n, nI00, nI10, ne_eq, Classical.not_not, not_true_eq_false, not_false_eq_true, if_true, if_false, ite_not, ite_self, Bool.false_eq_true, nIne1, O_mo, h33, hd, nI_rem2, q']
    exact this
  · have q' : (nI (w / 17) ≤ 0) = False := by rw [nIle0 (by omega)]; exact eq_false q
    have e1 : 1 ≤ w / 17 := by omega
    have p1 := hP ((w / 17 - 1) % 8) (l8 _)
    cases hp0 : P ((w / 17 - 1) % 8) with
    | false =>
      rw [hp0] at p1
      have := tail (fun x => by rw [hp0] at x; cases x.2)
      simp (disch := first | assumption | omega) only [f_X11_waitsByWording, kb_X11_waitsByWording_0, KL, KB, KC, KI, KJ, KZ, bI_0, bI_n, nI00, nI10, ne_eq, Classical.not_not, not_true_eq_false, not_false_eq_true, if_true, if_false, ite_not, ite_self, Bool.false_eq_true, nIne1, O_mo, h33, hd, nI_rem2, q', nI_sub, p1, z0]
      exact this
    | true =>
      rw [hp0] at p1
      unfold wgB
      rw [if_pos ⟨by omega, hp0⟩]
      by_cases t : w / 17 < 9
      · have t' : (9 ≤ w / 17) = False := eq_false (by omega)
        rw [decide_eq_true t]
        simp (disch := first | assumption | omega) only [f_X11_waitsByWording, kb_X11_waitsByWording_0, kb_X11_waitsByWording_47, KL, KB, KC, KI, KJ, KZ, bI_0, bI_n, nI00, nI10, ne_eq, Classical.not_not, not_true_eq_false, not_false_eq_true, if_true, if_false, ite_not, ite_self, Bool.false_eq_true, nIne1, O_mo, h33, hd, nI_rem2, q', nI_sub, p1, z1, nIle, t']
        rfl
      · have t' : (9 ≤ w / 17) = True := eq_true (by omega)
        rw [decide_eq_false t]
        simp (disch := first | assumption | omega) only [f_X11_waitsByWording, kb_X11_waitsByWording_0, kb_X11_waitsByWording_47, KL, KB, KC, KI, KJ, KZ, bI_0, bI_n, nI00, nI10, ne_eq, Classical.not_not, not_true_eq_false, not_false_eq_true, if_true, if_false, ite_not, ite_self, Bool.false_eq_true, nIne1, O_mo, h33, hd, nI_rem2, q', nI_sub, p1, z1, nIle, t']
        rfl
theorem mwv_words {n : Nat} {co : Nat → List Goods} {fa : FA} {w : Nat} {g0 : GG} {m o : Nat} (n3 : 3 ≤ n) (n6 : n ≤ 6) (hlen : ∀ r, (co r).length ≤ 2) (hok : ∀ r, r < n → ∀ z ∈ co r, okGo n r z) (en : g0 188 20 = nI n) (h5 : ∀ r, r < n → g0 196 r = nI (fa 0 r) ∧ g0 197 r = nI (fa 1 r) ∧ g0 198 r = nI (fa 2 r)) (h33 : g0 188 33 = nI w) (hw : okW w) : MWV n co (VW n co fa w) g0 m o := by
  intro g d k hd hk hB hL g' hg x y hx hy hxy sx sy
  have z : ∀ a, a = 196 ∨ a = 197 ∨ a = 198 → g' a = g0 a := fun a ha => by rw [hg a (by omega) (by omega)]; exact hB.1 a (by omega) (by omega) (by omega) (by omega) (by omega) (by omega) (by omega) (by omega) (by omega)
  have z7 : ∀ i, (i < 37 ∨ 45 < i) → g' 188 i = g0 188 i := fun i hi => by rw [hg 188 (by omega) (by omega)]; exact hB.2 i hi
  have x6 : x < 6 := by omega
  have y6 : y < 6 := by omega
  rw [sD_bit d hx] at sx
  rw [sD_bit d hy] at sy
  have hx0 := of_decide_eq_true sx
  have hy0 := of_decide_eq_true sy
  have hx1 := hd.1 x
  have hy1 := hd.1 y
  have hx2 := hlen x
  have hy2 := hlen y
  have ex : xD d x / 2 = x := by unfold xD; omega
  have ey : xD d y / 2 = y := by unfold xD; omega
  obtain ⟨a1, a2, a3⟩ := hL.1 x (by omega) hx
  obtain ⟨a4, a5, a6⟩ := a3 hx0
  obtain ⟨b1, b2, b3⟩ := hL.1 y (by omega) hy
  obtain ⟨b4, b5, b6⟩ := b3 hy0
  have okx := hok x hx _ (List.mem_of_getElem? (cG_x (hd.1 x) (hlen x) hx0))
  have oky := hok y hy _ (List.mem_of_getElem? (cG_x (hd.1 y) (hlen y) hy0))
  have rkx := (ord_p n3 n6 hk hx).2.2.1
  have rky := (ord_p n3 n6 hk hy).2.2.1
  have s9x : g' 200 x = nI (cG co (xD d x)).1 := by rw [hg 200 (by omega) (by omega)]; exact a4
  have s9y : g' 200 y = nI (cG co (xD d y)).1 := by rw [hg 200 (by omega) (by omega)]; exact b4
  have s13 : g' 204 x = nI 0 := by rw [hg 204 (by omega) (by omega)]; exact a2
  have e33 : g' 188 33 = nI w := by rw [z7 33 (by omega)]; exact h33
  have hfi := fun h => m_fights x (cG co (xD d x)).1 y (cG co (xD d y)).1 (by omega) (by have := okx.1; omega) (by omega) (by have := oky.1; omega) h
  have hV : WD n k co (VW n co fa w) d x y = (wayB x (cG co (xD d x)).1 y (cG co (xD d y)).1 && wgB (wdB (fvec n x y (g' 196) (g' 197) (g' 198) (cG co (xD d x)) (cG co (xD d y)) (bW (decide (ordRank n k y < ordRank n k x))))) w) := by
    unfold WD VW
    rw [ex, ey, z 196 (by omega), z 197 (by omega), z 198 (by omega), fvec_congr (sz := g0 196) (sl := g0 197) (sg := g0 198) (sz' := fun r => nI (fa 0 r)) (sl' := fun r => nI (fa 1 r)) (sg' := fun r => nI (fa 2 r)) (h5 x hx).1 (h5 y hy).1 (h5 x hx).2.1 (h5 y hy).2.1 (h5 x hx).2.2 (h5 y hy).2.2]
  have hby := m_byW g' m o x y w _ e33 hw (fun a ha => m_isWord g' m o n x y a (ordRank n k x) (ordRank n k y) (cG co (xD d x)) (cG co (xD d y)) (by rw [z7 20 (by omega)]; exact en) n3 n6 hx hy okx.1 oky.1 s9x s9y (by rw [hg 202 (by omega) (by omega)]; exact a6) (by rw [hg 202 (by omega) (by omega)]; exact b6) (by rw [hg 203 (by omega) (by omega)]; exact hL.2 x hx) (by rw [hg 203 (by omega) (by omega)]; exact hL.2 y hy) (by omega) (by omega) ha)
  rw [hV]
  refine ⟨g', ?_, SM.rfl'⟩
  obtain ⟨w1, w2, w3⟩ := hw
  have z00 : (nI 0 = 0) = True := eq_true rfl
  have z10 : (nI 1 = 0) = False := eq_false (by decide)
  by_cases hf : wayB x (cG co (xD d x)).1 y (cG co (xD d y)).1 = true
  · simp only [if_pos hf] at hfi
    rw [hf, Bool.true_and]
    cases hb : wgB (wdB (fvec n x y (g' 196) (g' 197) (g' 198) (cG co (xD d x)) (cG co (xD d y)) (bW (decide (ordRank n k y < ordRank n k x))))) w with
    | true =>
      rw [hb, bW_t] at hby
      simp (disch := first | assumption | omega) only [f_X11_waitsFor, kb_X11_waitsFor_0, KL, KB, KC, KI, KJ, KZ, bI_0, bI_n, nI00, nI10, ne_eq, Classical.not_not, not_true_eq_false, not_false_eq_true, if_true, if_false, ite_not, ite_self, Bool.false_eq_true, nIne1, O_mo, AR, s9x, s9y, hfi, z10, s13, z00, e33, hby, bW_t]
    | false =>
      rw [hb, bW_f] at hby
      simp (disch := first | assumption | omega) only [f_X11_waitsFor, kb_X11_waitsFor_0, KL, KB, KC, KI, KJ, KZ, bI_0, bI_n, nI00, nI10, ne_eq, Classical.not_not, not_true_eq_false, not_false_eq_true, if_true, if_false, ite_not, ite_self, Bool.false_eq_true, nIne1, O_mo, AR, s9x, s9y, hfi, z10, s13, z00, e33, hby, bW_f]
  · have hf' : wayB x (cG co (xD d x)).1 y (cG co (xD d y)).1 = false := Bool.eq_false_iff.mpr hf
    simp only [if_neg hf] at hfi
    rw [hf', Bool.false_and, bW_f]
    simp (disch := first | assumption | omega) only [f_X11_waitsFor, kb_X11_waitsFor_0, KL, KB, KC, KI, KJ, KZ, bI_0, bI_n, nI00, nI10, ne_eq, Classical.not_not, not_true_eq_false, not_false_eq_true, if_true, if_false, ite_not, ite_self, Bool.false_eq_true, nIne1, O_mo, AR, s9x, s9y, hfi, z00]
