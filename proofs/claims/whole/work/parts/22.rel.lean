-- ===== THE RELATION between the class's cells and the model's =====
abbrev GG : Type := Nat → Nat → Int32
/-- an operation's kind: how many it takes off and of which sort (true: a condition), what it puts -/
def opTy (s : Nat) (ts : List Bool) : Option (List Bool) :=
  if s ≤ 16 then some (false :: ts)
  else if s = 20 then match ts with
    | false :: t => some (false :: t)
    | _ => none
  else if s ≤ 19 then match ts with
    | false :: false :: t => some (false :: t)
    | _ => none
  else if s ≤ 23 then match ts with
    | false :: false :: t => some (true :: t)
    | _ => none
  else if s = 24 then match ts with
    | true :: t => some (true :: t)
    | _ => none
  else if s ≤ 26 then match ts with
    | true :: true :: t => some (true :: t)
    | _ => none
  else none
/-- a line's steps, kind and number, from a stack of sorts to one condition, never more than 60 high -/
def opRun : List (Nat × Nat) → List Bool → Bool
  | [], ts => decide (ts = [true])
  | q :: l, ts => decide (q.1 = 20 → 0 < q.2) && decide (q.2 < 10000) && match opTy q.1 ts with
    | some t => decide (t.length ≤ 60) && opRun l t
    | none => false
/-- the class's operation for a step -/
def opC (q : Nat × Nat) : Int32 :=
  if q.1 = 0 then nI (100 + q.2) else if q.1 ≤ 16 then nI (q.1 - 1) else if q.1 = 20 then - nI q.2
  else nI (match q.1 with
    | 17 => 23
    | 18 => 24
    | 19 => 25
    | 21 => 29
    | 22 => 30
    | 23 => 31
    | 24 => 21
    | 25 => 20
    | _ => 19)
abbrev ARule : Type := List (Bool × List (Nat × Nat))
/-- where line i begins -/
def lnB (rl : ARule) (i : Nat) : Nat := ((rl.take i).map (fun q => q.2.length)).sum
def allS (rl : ARule) : List (Nat × Nat) := rl.flatMap (fun q => q.2)
def wfR (rl : ARule) : Prop := rl.length ≤ 16 ∧ (allS rl).length ≤ 400 ∧ ∀ q ∈ rl, q.2 = [] ∨ opRun q.2 [] = true
/-- the lines that tell to wait, as a number -/
def wtN : ARule → Nat
  | [] => 0
  | q :: l => (if q.1 = true then 1 else 0) + 2 * wtN l
def ruleC (g : GG) (q : Nat) (rl : ARule) : Prop :=
  g q 0 = nI rl.length ∧ g q 1 = nI (allS rl).length ∧ g q 2 = nI (wtN rl) ∧ (∀ i, i ≤ rl.length → g (q + 1) i = nI (lnB rl i)) ∧ ∀ (t : Nat) (z : Nat × Nat), (allS rl)[t]? = some z → g (q + 2) t = opC z
def ruleM (g : GG) (w k : Nat) (rl : ARule) : Prop :=
  g w (3380 + k) = nI rl.length ∧ (∀ (i : Nat) (z : Bool × List (Nat × Nat)), rl[i]? = some z → g w (3390 + 16 * k + i) = (if z.1 = true then nI 0 else nI 1) ∧ g w (3454 + 16 * k + i) = nI (lnB rl i) ∧ g w (3518 + 16 * k + i) = nI (lnB rl (i + 1))) ∧ ∀ (t : Nat) (z : Nat × Nat), (allS rl)[t]? = some z → g w (3590 + 820 * k + 2 * t) = nI z.1 ∧ (z.1 = 0 ∨ z.1 = 20 → g w (3590 + 820 * k + 2 * t + 1) = nI z.2)
/-- goods: to, sort, load -/
def okGo (n r : Nat) (q : Nat × Nat × Nat) : Prop := q.1 < n ∧ q.1 ≠ r ∧ q.2.1 ≤ 3 ∧ q.2.2 ≤ 9
def goodsN (q : Nat × Nat × Nat) : Nat := (q.1 * 4 + q.2.1) * 10 + q.2.2
def mostN (what : Nat) : Nat := match what with
  | 0 => 3
  | 1 => 1
  | 2 => 2
  | 3 => 1
  | _ => 100
/-- a cart: goods, rank, habit, stay -/
abbrev ACart : Type := (Nat × Nat × Nat) × Nat × Nat × Nat
def cartR (g : GG) (X w B n r q : Nat) (c : Option ACart) : Prop := match c with
  | none => g (X + 2) r = -1 ∧ g w (B + 92 * r + 18) = nI 0
  | some c => r < n ∧ okGo n r c.1 ∧ c.2.1 ≤ 99 ∧ c.2.2.1 ≤ 2 ∧ c.2.2.2 ≤ 60 * q ∧ g (X + 2) r = nI c.1.1 ∧ g (X + 2) (6 + r) = nI c.1.2.1 ∧ g (X + 2) (12 + r) = nI c.1.2.2 ∧ g (X + 2) (18 + r) = nI c.2.1 ∧ g (X + 2) (24 + r) = nI c.2.2.1 ∧ g (X + 2) (30 + r) = nI c.2.2.2 ∧
    g w (B + 92 * r + 18) = nI 1 ∧ g w (B + 92 * r + 19) = nI c.1.1 ∧ g w (B + 92 * r + 20) = nI c.1.2.1 ∧ g w (B + 92 * r + 21) = nI c.1.2.2 ∧ g w (B + 92 * r + 22) = nI c.2.1 ∧ g w (B + 92 * r + 23) = nI c.2.2.1 ∧ g w (B + 92 * r + 24) = nI c.2.2.2
/-- a row of goods: the class's cells from a at i0 on, the model's from w at j0 on, three each -/
def goodsR (g : GG) (a i0 w j0 n r : Nat) (l : List (Nat × Nat × Nat)) : Prop := ∀ (i : Nat) (z : Nat × Nat × Nat), l[i]? = some z → okGo n r z ∧ g a (i0 + i) = nI (goodsN z) ∧ g w (j0 + 3 * i) = nI z.1 ∧ g w (j0 + 3 * i + 1) = nI z.2.1 ∧ g w (j0 + 3 * i + 2) = nI z.2.2
def linkR (g : GG) (X w B n r : Nat) : Prop := (g (X + 9) r = -1 ∧ g w (B + 92 * r + 89) = -1) ∨ ∃ to ro room : Nat, r < n ∧ to < 6 ∧ ro < 6 ∧ room ≤ 9 ∧ g (X + 9) r = nI to ∧ g (X + 9) (6 + r) = nI ro ∧ g (X + 9) (12 + r) = nI room ∧ g w (B + 92 * r + 89) = nI to ∧ g w (B + 92 * r + 90) = nI ro ∧ g w (B + 92 * r + 91) = nI room
def XFa (g : GG) (X w B : Nat) : Prop := ∀ what, what < 5 → ∀ r, r < 6 → ∃ v, v ≤ mostN what ∧ g (X + 1) (6 * what + r) = nI v ∧ g w (B + 92 * r + what) = nI v
def XCa (g : GG) (X w B n q : Nat) : Prop := ∀ r, r < 6 → ∃ c : Option ACart, cartR g X w B n r q c
def XCo (g : GG) (X w B n : Nat) : Prop := ∀ r, r < 6 → ∃ l : List (Nat × Nat × Nat), l.length ≤ 2 ∧ (n ≤ r → l = []) ∧ g (X + 4) r = nI l.length ∧ g w (B + 92 * r + 5) = nI l.length ∧ goodsR g (X + 3) (2 * r) w (B + 92 * r + 6) n r l
def XRo (g : GG) (X w B n : Nat) : Prop := ∀ r, r < 6 → ∃ l : List (Nat × Nat × Nat), l.length ≤ 20 ∧ (n ≤ r → l = []) ∧ g (X + 6) r = nI l.length ∧ g w (B + 92 * r + 25) = nI l.length ∧ goodsR g (X + 5) (20 * r) w (B + 92 * r + 26) n r l
def XCt (g : GG) (X w B n q : Nat) : Prop := ∀ t, t < 3 → ∀ r, r < 6 → ∃ v, v ≤ 60 * q ∧ (n ≤ r → v = 0) ∧ g (X + 7) (6 * t + r) = nI v ∧ g w (B + 92 * r + 86 + t) = nI v
def XTo (g : GG) (X w B q : Nat) : Prop := ∀ t, t < 3 → ∃ v, v ≤ 60 * q ∧ g (X + 8) t = nI v ∧ g w (B + 553 + t) = nI v
def XLi (g : GG) (X w B n : Nat) : Prop := ∀ r, r < 6 → linkR g X w B n r
/-- one crossing: the class's cells from X on, the model's from w at B on -/
def XRn (g : GG) (X w B n q : Nat) : Prop := 3 ≤ n ∧ n ≤ 6 ∧ g X 0 = nI n ∧ g w (B + 552) = nI n ∧ XFa g X w B ∧ XCa g X w B n q ∧ XCo g X w B n ∧ XRo g X w B n ∧ XCt g X w B n q ∧ XTo g X w B q ∧ XLi g X w B n
def XR (g : GG) (X w B q : Nat) : Prop := ∃ n : Nat, XRn g X w B n q
/-- a world: the class's from b + 1 on, the model's in w -/
def WR (g : GG) (b w q : Nat) : Prop :=
  g (b + 1) 0 = g w 0 ∧ (∀ k, k < 2 → ∃ v, v < 4 ∧ g (b + 2) k = nI v ∧ g w (1 + k) = nI v) ∧ (∀ k, k < 4 → ∃ rl, wfR rl ∧ ruleC g (b + 5 + 3 * k) rl ∧ ruleM g w k rl) ∧ ∀ c, c < 6 → XR g (b + 17 + 10 * c) w (10 + 560 * c) q
def tapeR (g : GG) : Prop := ∃ L : Nat, L ≤ 400 ∧ g 158 1 = nI L ∧ g 188 10 = nI L ∧ (∀ i, i < L → ∃ v, v < 256 ∧ g 159 i = nI v ∧ g 193 i = nI v) ∧ (g 158 8 = nI 0 ∨ g 158 8 = nI 1) ∧ (g 158 9 = nI 0 ∨ g 158 9 = nI 1)
def imgR (g : GG) (q : Nat) : Prop := (g 0 7 = nI 0 ∧ g 188 2 = nI 0) ∨ (g 0 7 = nI 1 ∧ g 188 2 = nI 1 ∧ WR g 81 190 q)
/-- the orders: how many, the ranks, who is ahead (as slots), for 3 .. 6 roads -/
def ordMany (n : Nat) : Nat := if n = 3 then 6 else if n = 4 then 24 else n
/-- all orders of n things, by their numbers: the k-th -/
def perms (l : List Nat) : Nat → List (List Nat)
  | 0 => [[]]
  | f + 1 => if l = [] then [[]] else l.flatMap (fun x => (perms (l.filter (· ≠ x)) f).map (x :: ·))
def ordRow (n k : Nat) : List Nat := if n ≤ 4 then ((perms (List.range n) n).getD k []) else (List.range n).map (fun i => (k + i) % n)
/-- the rank of road r in the k-th order -/
def ordRank (n k r : Nat) : Nat := (ordRow n k).findIdx (· = r)
def ordAhead (n k r : Nat) : Nat := ((List.range n).map (fun z => if ordRank n k z < ordRank n k r then 3 * 4 ^ z else 0)).sum
def ORD (g : GG) : Prop := ∀ n, 3 ≤ n → n ≤ 6 → g (172 + 3 * (n - 3)) 0 = nI (ordMany n) ∧ ∀ k, k < ordMany n → ∀ r, r < 6 → g (173 + 3 * (n - 3)) (6 * k + r) = (if r < n then nI (ordRank n k r) else nI 0) ∧ g (174 + 3 * (n - 3)) (6 * k + r) = (if r < n then nI (ordAhead n k r) else nI 0)
/-- ALL: after q calls -/
def RT (q : Nat) (g : GG) (_ _ : Nat) : Prop :=
  WR g 0 189 q ∧ tapeR g ∧ g 158 2 = g 188 17 ∧ g 158 3 = g 188 19 ∧ imgR g q ∧ ORD g ∧ g 188 33 = -1 ∧ g 188 34 = -1 ∧ g 188 35 = nI 0
