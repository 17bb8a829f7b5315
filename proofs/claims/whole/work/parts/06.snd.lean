-- ===== a method's contract out of its walk =====
section SND
variable {l : Launch} {E : EN} {cc : ByteArray} {nL : Nat} {ret : Option FieldType} {ini : Bool} {g : Nat} {k : KK}
theorem lg_sl1 : ∀ (vs : List Value), (∀ v ∈ vs, v.category = 1) → (lg_sl vs).length = vs.length
  | [], _ => rfl
  | v :: t, h => by
    have h1 : v.category = 1 := h v List.mem_cons_self
    have h2 := lg_sl1 t (fun w hw => h w (List.mem_cons_of_mem _ hw))
    unfold lg_sl at h2 ⊢
    rw [List.flatMap_cons, List.length_append, h2, if_neg (by omega)]
    show 1 + t.length = t.length + 1
    omega
theorem lv_args1 : ∀ (vs : List Value) (i j : Nat) (v : Value), (∀ w ∈ vs, w.category = 1) → vs[j]? = some v → (i + j, v) ∈ lv_args i vs
  | [], i, j, v, _, hv => by simp at hv
  | a :: t, i, 0, v, _, hv => by
    have h2 : a = v := by simpa using hv
    subst h2
    exact List.mem_cons_self
  | a :: t, i, j + 1, v, h, hv => by
    have h2 : t[j]? = some v := by simpa using hv
    have h1 : a.category = 1 := h a List.mem_cons_self
    have h3 := lv_args1 t (i + 1) j v (fun w hw => h w (List.mem_cons_of_mem _ hw)) h2
    rw [Nat.add_assoc, Nat.add_comm 1 j] at h3
    show _ ∈ (i, a) :: lv_args (if a.category = 2 then i + 2 else i + 1) t
    rw [if_neg (by omega)]
    exact List.mem_cons_of_mem _ h3
theorem LH.entry {ad : Nat → Nat} {args : List Value} (hc : ∀ v ∈ args, v.category = 1) (hn : args.length ≤ nL) : LH ((lg_sl (args.map (vmap ad)) ++ List.replicate (nL - (lg_sl (args.map (vmap ad))).length) Slot.unset).toArray) nL ad args := by
  have hc2 : ∀ v ∈ args.map (vmap ad), v.category = 1 := by
    intro v hv
    obtain ⟨w, hw, rfl⟩ := List.mem_map.mp hv
    rw [vmap_cat]; exact hc w hw
  have h := lv_entry (args.map (vmap ad)) (n := nL) (by rw [lg_sl1 _ hc2, List.length_map]; exact hn)
  refine ⟨h.1, h.2.1, fun i v hv _ => ?_⟩
  have h2 := lv_args1 (args.map (vmap ad)) 0 i (vmap ad v) hc2 (by rw [List.getElem?_map, hv]; rfl)
  rw [Nat.zero_add] at h2
  exact h.2.2 _ h2
theorem rm_cells (g mc ms : Nat) (ws : List Cond) : (headSpec ws (rmA g mc ms)).room = rmA g mc ms := rfl
theorem snd_of_ok {y : MethodName} (hy : plainName y.cls = true) (hn : ini = true → y.name = "<init>") (hk : OKm l E cc nL y.cls ret ini g 0 k) : ∀ (args : List Value) (h : HP) (r : Option Value) (h' : HP), k args [] h = some (r, h') → args.length ≤ nL → wfs h args → wfh h → MON h h' r ∧ ∀ ad, adO E ad → Met l y (Cond.code y cc nL ret :: TT) (rmA g (hN h' - hN h) (hZ h' - hZ h)) (PcA E ad h args) (QcA E ad h r h') (hN h' - hN h) (hZ h' - hZ h) (AA E) := by
  intro args h r h' ee hlen wa wh
  obtain ⟨hm, hw⟩ := hk args [] h r h' ee wa.2 wfs.nil wh
  refine ⟨hm, fun ad hO => Met.ofW (cc := cc) (maxL := nL) (ret := ret) hy rfl ?_⟩
  intro p e s m args' below meth c s₁ B hml hv
  obtain ⟨rfl, hP, hD, hG⟩ := hv
  have hx := B.exec
  have hb := B.bytes
  have hr := B.returns
  have hts := atoms_spec (ws := Cond.code y cc nL ret :: TT) B.pre
  have hown : s.vm.findClass y.cls = some m.cls := findClass_of_methodNamed B.named
  have hlocks := B.notSynchronized
  have hcx : CX E cc nL y.cls ini g p (rmA g (hN h' - hN h) (hZ h' - hZ h)) s m (args.map (vmap ad)).toArray meth c := ⟨hx, hb, hml, hown, fun w hw => hts w (List.mem_cons_of_mem _ hw), hG, Nat.le_refl _, Nat.le_refl _, fun hi => (name_of_methodNamed B.named B.method).1.trans (hn hi)⟩
  rw [lg_entry_eq]
  have m1 := hm.1
  have m2 := hm.2.1
  have hret : RetH E cc ret ad (hN h) (hN h' - hN h) (hZ h' - hZ h) r h' p l e (rmA g (hN h' - hN h) (hZ h' - hZ h)) s m (args.map (vmap ad)).toArray below meth c (MQ below (QcA E ad h r h') (args.map (vmap ad)).toArray s (hN h' - hN h) (hZ h' - hZ h) (AA E)) := by
    refine ⟨Nat.le_refl _, Nat.le_refl _, fun ad2 H locs cells slots pc lsA ins hd hri ha1 ha2 hP hD hS hc1 hc2 => ?_⟩
    have hq : ∀ (t : State), t.heap = H → s.WarmedH t.vm → QcA E ad h r h' (args.map (vmap ad)).toArray s (.returned (r.map (vmap ad2))) t := fun t ht _ => ⟨⟨ad2, ha1, ha2, rfl, by rw [ht]; exact hP, hD⟩, hS.F ht⟩
    refine W.widen hc1 hc2 ?_
    rcases hri with ⟨rfl, rfl, hrt⟩ | ⟨rfl, x, ty, rfl, hrt, hnw⟩ | ⟨rfl, v, ty, rfl, hrt, hty, hv⟩
    · exact W.vret hx hb (hr.trans hrt) hq hS.2.2 hd
    · exact W.zret (v := x) hx hb (hr.trans hrt) hnw hq hS.2.2 hd
    · exact W.aret (v := vmap ad2 v) hx hb (hr.trans hrt) hty (by rcases hv with rfl | ⟨q, rfl⟩; exact Or.inl rfl; exact Or.inr ⟨_, rfl⟩) hq hS.2.2 hd
  exact hw p e _ s m _ below meth c hcx _ ad (hN h) _ _ hret ad s.heap [] 0 0 _ ⟨fun _ _ => rfl, hO, Nat.le_refl _, hP, hD, va_S.rf, by omega, by omega, LH.entry wa.1 hlen⟩
end SND
-- ===== calls =====
/-- what is said of a callee once and for all: its n parameters, its words -/
def VOK (y : MethodName) (cc : ByteArray) (nL : Nat) (ret : Option FieldType) (n : Nat) : Prop :=
  Cond.code y cc nL ret ∈ TT ∧ Cond.initialized y.cls ∈ TT ∧ (y.cls ≠ "java/lang/invoke/MethodHandle" ∧ y.cls ≠ "java/lang/invoke/VarHandle" ∧ (parseMethodDescriptor y.desc).map (fun d => d.parameters.length) = some n) ∧ nL ≤ 21 ∧ n + 1 ≤ nL
def VOKs (y : MethodName) (cc : ByteArray) (nL : Nat) (ret : Option FieldType) (n : Nat) : Prop :=
  Cond.code y cc nL ret ∈ TT ∧ Cond.initialized y.cls ∈ TT ∧ (y.cls ≠ "java/lang/invoke/MethodHandle" ∧ y.cls ≠ "java/lang/invoke/VarHandle" ∧ (parseMethodDescriptor y.desc).map (fun d => d.parameters.length) = some n) ∧ nL ≤ 21 ∧ n ≤ nL
/-- a call with n operands; what is left below them is small -/
def kCall (n : Nat) (f : FF) (k : KK) : KK := fun ls st h => if st.length < n ∨ n + 8 < st.length then none else match f (st.take n).reverse h with
  | none => none
  | some (none, h1) => k ls (st.drop n) h1
  | some (some v, h1) => k ls (v :: st.drop n) h1
/-- the receiver is of class ci -/
def kRecv (ci N n : Nat) (k : KK) : KK := fun ls st h => match st[n]? with
  | some (.ref a) => if hSh h a = (40 + ci, N) then k ls st h else none
  | _ => none
def kRef (n : Nat) (k : KK) : KK := fun ls st h => match st[n]? with
  | some (.ref _) => k ls st h
  | _ => none
theorem kCall_inv {n : Nat} {f : FF} {k : KK} {ls st : List Value} {h h' : HP} {r : Option Value} (ee : kCall n f k ls st h = some (r, h')) : ∃ (r1 : Option Value) (h1 : HP), n ≤ st.length ∧ st.length ≤ n + 8 ∧ f (st.take n).reverse h = some (r1, h1) ∧ k ls (r1.toList ++ st.drop n) h1 = some (r, h') := by
  unfold kCall at ee
  split at ee
  · cases ee
  rename_i hn
  split at ee
  · cases ee
  · rename_i h1 he
    exact ⟨none, h1, by omega, by omega, he, ee⟩
  · rename_i v h1 he
    exact ⟨some v, h1, by omega, by omega, he, ee⟩
def SndL (l : Launch) (E : EN) (y : MethodName) (cc : ByteArray) (nL : Nat) (ret : Option FieldType) (g : Nat) (f : FF) : Prop :=
  ∀ (args : List Value) (h : HP) (r : Option Value) (h' : HP), f args h = some (r, h') → args.length ≤ nL → wfs h args → wfh h → MON h h' r ∧ ∀ ad, adO E ad → Met l y (Cond.code y cc nL ret :: TT) (rmA g (hN h' - hN h) (hZ h' - hZ h)) (PcA E ad h args) (QcA E ad h r h') (hN h' - hN h) (hZ h' - hZ h) (AA E)
section CALLS
variable {l : Launch} {E : EN} {cc : ByteArray} {nL : Nat} {own : String} {ret : Option FieldType} {ini : Bool} {g pc tgt : Nat} {k : KK}
variable {p : Program} {e : Env} {R : Room} {s : State} {m : MethodId} {args : Array Value} {below : List Frame} {meth : Method} {c : Code} {Q : State → Prop}
theorem cat_sum : ∀ (st : List Value), (∀ v ∈ st, v.category = 1) → (st.map (fun v => v.category)).sum = st.length
  | [], _ => rfl
  | v :: t, h => by
    rw [List.map_cons, List.sum_cons, cat_sum t (fun w hw => h w (List.mem_cons_of_mem _ hw)), h v List.mem_cons_self, List.length_cons]
    omega
theorem goodTT {ws : List Cond} (h : ∀ w ∈ ws, w ∈ TT) : GoodIn TT ws := fun w hw => TT_good w (h w hw)
theorem callA {ad : Nat → Nat} {h h1 : HP} {r1 : Option Value} {H : Heap} {locs : List Loc} {cells slots mc ms : Nat} {lsA : Array Slot} {st0 rest : List Value}
    (hr : va_Run p l e R s m args below meth c H locs cells slots mc ms (F0 m pc lsA st0) rest (QcA E ad h r1 h1 #[]) (AA E)) (hS : va_S (AA E) s.heap H locs)
    (kk : ∀ (ad' : Nat → Nat) (H1 : Heap) (locs1 : List Loc), (∀ i, i < hN h → ad' i = ad i) → adO E ad' → va_P E.1 CLS (rep E ad' h1) H1 → va_D (AA E) (rep E ad' h1) → va_S (AA E) s.heap H1 locs1 → W p l e R s m args below meth c H1 locs1 (cells + mc) (slots + ms) Q (F0 m (pc + 3) lsA ((r1.map (vmap ad')).toList ++ rest))) : W p l e R s m args below meth c H locs cells slots Q (F0 m pc lsA st0) := by
  intro T hT X
  obtain ⟨v, st₀, t, T', L, h0, X', hL, e1, e2, ⟨⟨ad', g1, g2, hv, hP, hD⟩, hz, hk⟩, st⟩ := hr T hT X
  cases hv
  rw [h0] at hz hk
  obtain ⟨t2, a1, b1⟩ := kk ad' T'.heap (locs ++ L) g1 g2 (by rw [e1]; exact hP) hD
    ⟨Nat.le_trans hS.1 (by rw [e1]; exact hz), fun q h1 h2 => by rw [e1, hk q (Nat.lt_of_lt_of_le h1 hS.1) h2]; exact hS.2.1 q h1 h2, fun q hq => by
      rcases List.mem_append.mp hq with h | h
      · exact hS.2.2 q h
      · exact hL q h⟩ T' rfl X'
  exact ⟨t2, st t2 a1, b1⟩
theorem PcA.blind {ad : Nat → Nat} {h : HP} {as : List Value} : FrameBlind (PcA E ad h as) := fun a U g mk q => ⟨q.1, q.2.1, q.2.2.1, q.2.2.2.calling⟩
theorem PcA.at {ad : Nat → Nat} {h : HP} {as : List Value} {H : Heap} {locs : List Loc} (hG : GO E s s.heap) (hP : va_P E.1 CLS (rep E ad h) H) (hD : va_D (AA E) (rep E ad h)) (hS : va_S (AA E) s.heap H locs) (U : State) (hU : U.heap = H) (hW : s.WarmedH U.vm) : PcA E ad h as (as.map (vmap ad)).toArray U :=
  ⟨rfl, by rw [hU]; exact hP, hD, by rw [hU]; exact hG.warm hW hS.2.1 hS.1⟩
/-- what is the same in every call -/
theorem call_go {f : FF} {n : Nat} {y : MethodName} {cy : ByteArray} {ny g1 : Nat} {ry : Option FieldType} (hsn : SndL l E y cy ny ry g1 f) (hny : n ≤ ny) (hk : OKm l E cc nL own ret ini g (pc + 3) k)
    {ls st : List Value} {h h' : HP} {r : Option Value} (ee : kCall n f k ls st h = some (r, h')) (wl : wfl h ls) (ws : wfs h st) (wh : wfh h)
    (hrun : ∀ (r1 : Option Value) (h1 : HP), MON h h1 r1 → hN h1 ≤ hN h' → hZ h1 ≤ hZ h' → n ≤ st.length → (∀ ad, adO E ad → Met l y (Cond.code y cy ny ry :: TT) (rmA g1 (hN h1 - hN h) (hZ h1 - hZ h)) (PcA E ad h (st.take n).reverse) (QcA E ad h r1 h1) (hN h1 - hN h) (hZ h1 - hZ h) (AA E)) →
      ∀ (p : Program) (e : Env) (R : Room) (s : State) (m : MethodId) (args : Array Value) (below : List Frame) (meth : Method) (c : Code), CX E cc nL own ini g p R s m args meth c → ∀ (ad0 : Nat → Nat) (N0 mc ms : Nat), mc ≤ R.cells ∧ ms ≤ R.slots →
      ∀ (ad : Nat → Nat) (H : Heap) (locs : List Loc) (cells slots : Nat) (lsA : Array Slot), ST E ad0 N0 mc ms h' s nL ls h ad H locs cells slots lsA →
      (((st.drop n).map (vmap ad)).map (fun v => v.category)).sum ≤ 8 → va_Run p l e R s m args below meth c H locs cells slots (hN h1 - hN h) (hZ h1 - hZ h) (F0 m pc lsA (st.map (vmap ad))) ((st.drop n).map (vmap ad)) (QcA E ad h r1 h1 #[]) (AA E)) :
    MON h h' r ∧ WG l E cc nL own ret ini g pc r h' ls st h := by
  obtain ⟨r1, h1, hn1, hn2, hf, ee⟩ := kCall_inv ee
  have wst : wfs h (st.take n ++ st.drop n) := by rw [List.take_append_drop]; exact ws
  obtain ⟨wt, wd⟩ := wst.app
  have wr : wfs h (st.take n).reverse := ⟨fun v hv => wt.1 v (List.mem_reverse.mp hv), fun v hv => wt.2 v (List.mem_reverse.mp hv)⟩
  obtain ⟨hm1, hmet⟩ := hsn _ _ _ _ hf (by rw [List.length_reverse, List.length_take]; omega) wr wh
  have wst2 : wfs h1 (r1.toList ++ st.drop n) := by
    cases r1 with
    | none => exact wd.mono hm1.1
    | some v => exact (wd.mono hm1.1).cons (hm1.2.2.2 v rfl).1 (hm1.2.2.2 v rfl).2
  obtain ⟨hm, hw⟩ := hk _ _ _ _ _ ee (wl.mono hm1.1) wst2 hm1.2.2.1
  refine ⟨⟨Nat.le_trans hm1.1 hm.1, Nat.le_trans hm1.2.1 hm.2.1, hm.2.2⟩, fun p e R s m args below meth c cx Q ad0 N0 mc ms hr ad H locs cells slots lsA hs => ?_⟩
  have hsum : (((st.drop n).map (vmap ad)).map (fun v => v.category)).sum ≤ 8 := by
    rw [cat_sum _ (by intro v hv; obtain ⟨w, hw, rfl⟩ := List.mem_map.mp hv; rw [vmap_cat]; exact wd.1 w hw), List.length_map, List.length_drop]
    omega
  refine callA (h := h) (h1 := h1) (r1 := r1) (hrun r1 h1 hm1 hm.1 hm.2.1 hn1 hmet p e R s m args below meth c cx ad0 N0 mc ms ⟨hr.1, hr.2.1⟩ ad H locs cells slots lsA hs hsum) hs.2.2.2.2.2.1 (fun ad' H1 locs1 g1 g2 hP hD hS => ?_)
  have agree : ∀ q, okR h q → ad' q = ad q := by
    intro q hq
    rcases hq with hq | hq
    · exact g1 q hq
    · rw [g2 q hq, hs.2.1 q hq]
  have emap : (st.drop n).map (vmap ad') = (st.drop n).map (vmap ad) := vmap_moved (P := okR h) wd.2 (fun q hq => Or.inr hq) agree
  have a1 := hs.2.2.1
  have a2 := hs.2.2.2.2.2.2.1
  have a3 := hs.2.2.2.2.2.2.2.1
  have b1 := hm1.1
  have b2 := hm1.2.1
  have b3 := hm.1
  have b4 := hm.2.1
  have key := hw p e R s m args below meth c cx Q ad0 N0 mc ms hr ad' H1 locs1 (cells + (hN h1 - hN h)) (slots + (hZ h1 - hZ h)) lsA ⟨fun i hi => (g1 i (by omega)).trans (hs.1 i hi), g2, by omega, hP, hD, hS, by omega, by omega, hs.2.2.2.2.2.2.2.2.moved (P := okR h) wl (fun q hq => Or.inr hq) agree⟩
  have e5 : (r1.toList ++ st.drop n).map (vmap ad') = (r1.map (vmap ad')).toList ++ (st.drop n).map (vmap ad) := by
    rw [List.map_append, emap]
    cases r1 <;> rfl
  rw [e5] at key
  exact key
theorem st_split {ad : Nat → Nat} {st : List Value} (n : Nat) : st.map (vmap ad) = ((st.take n).reverse.map (vmap ad)).reverse ++ (st.drop n).map (vmap ad) := by
  rw [List.map_reverse, List.reverse_reverse, ← List.map_append, List.take_append_drop]
theorem args_recv {ad : Nat → Nat} {st : List Value} {n : Nat} {v : Value} (hv : st[n]? = some v) : ((st.take (n + 1)).reverse.map (vmap ad)) = vmap ad v :: (st.take n).reverse.map (vmap ad) := by
  have hl := (List.getElem?_eq_some_iff.mp hv).1
  have : st.take (n + 1) = st.take n ++ [v] := by
    rw [List.take_succ, hv]; rfl
  rw [this, List.reverse_append]
  rfl
theorem ok_callV {f : FF} {n ci N idx ny g1 : Nat} {y : MethodName} {cy : ByteArray} {ry : Option FieldType} {T : u_T} (hsn : SndL l E y cy ny ry g1 f) (hv : VOK y cy ny ry n) (hins : Cond.instanceMethod y ∈ TT) (hsel : Cond.selects y.cls y y ∈ TT) (hc : CLS[ci]? = some (y.cls, T, N)) (hl : Cond.methodLink own idx y ∈ TT) (hg : g1 + 1 ≤ g) (hd : decode cc pc = .ok (.invokevirtual idx, 3)) (hk : OKm l E cc nL own ret ini g (pc + 3) k) : OKm l E cc nL own ret ini g pc (kRecv ci N n (kCall (n + 1) f k)) := by
  intro ls st h r h' ee wl ws wh
  unfold kRecv at ee
  split at ee
  case h_2 => cases ee
  rename_i a hra
  split at ee
  case isFalse => cases ee
  rename_i hsh
  have hl2 := (List.getElem?_eq_some_iff.mp hra).1
  refine call_go hsn hv.2.2.2.2 hk ee wl ws wh (fun r1 h1 hm1 hb1 hb2 hn1 hmet p e R s m args below meth c cx ad0 N0 mc ms hr ad H locs cells slots lsA hs hsum => ?_)
  have a2 := hs.2.2.2.2.2.2.1
  have a3 := hs.2.2.2.2.2.2.2.1
  have b1 := hm1.1
  have b2 := hm1.2.1
  have c1 := cx.2.2.2.2.2.2.1
  have c2 := cx.2.2.2.2.2.2.2.1
  have c3 := hv.2.2.2.1
  have hP := hs.2.2.2.1
  have hK := cx.2.2.2.2.2.1.1
  have hcw : CallW R s args own y.cls idx y cy ny ry (Cond.code y cy ny ry :: TT) (rmA g1 (hN h1 - hN h) (hZ h1 - hZ h)) (hN h1 - hN h) (hZ h1 - hZ h) n :=
    cwV n cx.2.2.2.2.1 (goodTT (fun w hw => by
      simp only [wsV, List.mem_append, List.mem_cons, List.not_mem_nil, or_false] at hw
      rcases hw with (rfl | rfl | rfl | rfl) | rfl | hw
      · exact hl
      · exact hins
      · exact hsel
      · exact hv.2.1
      · exact hv.1
      · exact hw)) rfl rfl rfl ⟨rfl, hv.2.2.1⟩ ⟨by show g1 + 1 ≤ R.frames; omega, by show 8 + (ny + 11) + 40 * g1 ≤ R.locals; omega⟩
  have hb : va_Run p l e R s m args below meth c H locs cells slots (hN h1 - hN h) (hZ h1 - hZ h) (F0 m pc lsA (st.map (vmap ad))) ((st.drop (n + 1)).map (vmap ad)) (QcA E ad h r1 h1 (Value.ref (ad a) :: (st.take n).reverse.map (vmap ad)).toArray) (AA E) := by
    refine va_runV (As := (st.take n).reverse.map (vmap ad)) (b := ad a) ⟨cx.1, cx.2.1, cx.2.2.1, cx.2.2.2.1, cx.2.2.2.2.1⟩ (hmet ad hs.2.1) hcw ⟨PcA.blind, va_recv hK hP hc (rep_at wh hsh), fun U hU hW => ?_⟩ rfl (by rw [List.length_map, List.length_reverse, List.length_take]; omega) hs.2.2.2.2.2.2.2.2.1 ?_ (lv_room hsum) hd ⟨by have := hr.1; omega, by have := hr.2; omega⟩
    · have := PcA.at (as := (st.take (n + 1)).reverse) cx.2.2.2.2.2.1 hP hs.2.2.2.2.1 hs.2.2.2.2.2.1 U hU hW
      rw [args_recv hra] at this
      exact this
    · show st.map (vmap ad) = _
      rw [st_split (n + 1), args_recv hra, List.reverse_cons, List.append_assoc]
      rfl
  exact hb
theorem ok_callI {f : FF} {n idx ny g1 : Nat} {y : MethodName} {cy : ByteArray} (hsn : SndL l E y cy ny none g1 f) (hv : VOK y cy ny none n) (hy1 : y.name = "<init>") (hins : Cond.instanceMethod y ∈ TT) (hl : Cond.methodLink own idx y ∈ TT) (hg : g1 + 1 ≤ g) (hd : decode cc pc = .ok (.invokespecial idx, 3)) (hk : OKm l E cc nL own ret ini g (pc + 3) k) : OKm l E cc nL own ret ini g pc (kRef n (kCall (n + 1) f k)) := by
  intro ls st h r h' ee wl ws wh
  unfold kRef at ee
  split at ee
  case h_2 => cases ee
  rename_i a hra
  have hl2 := (List.getElem?_eq_some_iff.mp hra).1
  refine call_go hsn hv.2.2.2.2 hk ee wl ws wh (fun r1 h1 hm1 hb1 hb2 hn1 hmet p e R s m args below meth c cx ad0 N0 mc ms hr ad H locs cells slots lsA hs hsum => ?_)
  have a2 := hs.2.2.2.2.2.2.1
  have a3 := hs.2.2.2.2.2.2.2.1
  have b1 := hm1.1
  have b2 := hm1.2.1
  have c1 := cx.2.2.2.2.2.2.1
  have c2 := cx.2.2.2.2.2.2.2.1
  have c3 := hv.2.2.2.1
  have hP := hs.2.2.2.1
  have hb : va_Run p l e R s m args below meth c H locs cells slots (hN h1 - hN h) (hZ h1 - hZ h) (F0 m pc lsA (st.map (vmap ad))) ((st.drop (n + 1)).map (vmap ad)) (QcA E ad h r1 h1 (Value.ref (ad a) :: (st.take n).reverse.map (vmap ad)).toArray) (AA E) := by
    refine va_runI (As := (st.take n).reverse.map (vmap ad)) (b := ad a) ⟨cx.1, cx.2.1, cx.2.2.1, cx.2.2.2.1, cx.2.2.2.2.1⟩ (hmet ad hs.2.1) (cwI n cx.2.2.2.2.1 (goodTT (fun w hw => by
      rcases List.mem_cons.mp hw with rfl | hw
      · exact hv.1
      · exact hw)) rfl rfl rfl (cx.2.2.2.2.1 _ hv.2.1) (cx.2.2.2.2.1 _ hl) (cx.2.2.2.2.1 _ hins) hy1 hv.2.2.1 ⟨by show g1 + 1 ≤ R.frames; omega, by show 8 + (ny + 11) + 40 * g1 ≤ R.locals; omega⟩) ⟨PcA.blind, fun U hU hW => ?_⟩ rfl (by rw [List.length_map, List.length_reverse, List.length_take]; omega) hs.2.2.2.2.2.2.2.2.1 ?_ (lv_room hsum) hd ⟨by have := hr.1; omega, by have := hr.2; omega⟩
    · have := PcA.at (as := (st.take (n + 1)).reverse) cx.2.2.2.2.2.1 hP hs.2.2.2.2.1 hs.2.2.2.2.2.1 U hU hW
      rw [args_recv hra] at this
      exact this
    · show st.map (vmap ad) = _
      rw [st_split (n + 1), args_recv hra, List.reverse_cons, List.append_assoc]
      rfl
  exact hb
theorem ok_callIN {f : FF} {n idx ny g1 : Nat} {y : MethodName} {host : String} {cy : ByteArray} (hsn : SndL l E y cy ny none g1 f) (hv : VOK y cy ny none n) (hy1 : y.name = "<init>") (hins : Cond.instanceMethod y ∈ TT) (hl : (own, idx, y, host) ∈ NWL) (hg : g1 + 1 ≤ g) (hd : decode cc pc = .ok (.invokespecial idx, 3)) (hk : OKm l E cc nL own ret ini g (pc + 3) k) : OKm l E cc nL own ret ini g pc (kRef n (kCall (n + 1) f k)) := by
  intro ls st h r h' ee wl ws wh
  unfold kRef at ee
  split at ee
  case h_2 => cases ee
  rename_i a hra
  have hl2 := (List.getElem?_eq_some_iff.mp hra).1
  refine call_go hsn hv.2.2.2.2 hk ee wl ws wh (fun r1 h1 hm1 hb1 hb2 hn1 hmet p e R s m args below meth c cx ad0 N0 mc ms hr ad H locs cells slots lsA hs hsum => ?_)
  have a2 := hs.2.2.2.2.2.2.1
  have a3 := hs.2.2.2.2.2.2.2.1
  have b1 := hm1.1
  have b2 := hm1.2.1
  have c1 := cx.2.2.2.2.2.2.1
  have c2 := cx.2.2.2.2.2.2.2.1
  have c3 := hv.2.2.2.1
  have hP := hs.2.2.2.1
  have hb : va_Run p l e R s m args below meth c H locs cells slots (hN h1 - hN h) (hZ h1 - hZ h) (F0 m pc lsA (st.map (vmap ad))) ((st.drop (n + 1)).map (vmap ad)) (QcA E ad h r1 h1 (Value.ref (ad a) :: (st.take n).reverse.map (vmap ad)).toArray) (AA E) := by
    refine va_runIN (As := (st.take n).reverse.map (vmap ad)) (b := ad a) ⟨cx.1, cx.2.1, cx.2.2.1, cx.2.2.2.1, cx.2.2.2.2.1⟩ (hmet ad hs.2.1) ⟨va_cnB n cx.2.2.2.2.1 (goodTT (fun w hw => by
      rcases List.mem_cons.mp hw with rfl | hw
      · exact hv.1
      · exact hw)) rfl rfl rfl (cx.2.2.2.2.2.1.2.1 _ hl) (cx.2.2.2.2.1 _ hv.2.1) hv.2.2.1 ⟨by show g1 + 1 ≤ R.frames; omega, by show 8 + (ny + 11) + 40 * g1 ≤ R.locals; omega⟩, hy1, cx.2.2.2.2.1 _ hins⟩ ⟨PcA.blind, fun U hU hW => ?_⟩ rfl (by rw [List.length_map, List.length_reverse, List.length_take]; omega) hs.2.2.2.2.2.2.2.2.1 ?_ (lv_room hsum) hd ⟨by have := hr.1; omega, by have := hr.2; omega⟩
    · have := PcA.at (as := (st.take (n + 1)).reverse) cx.2.2.2.2.2.1 hP hs.2.2.2.2.1 hs.2.2.2.2.2.1 U hU hW
      rw [args_recv hra] at this
      exact this
    · show st.map (vmap ad) = _
      rw [st_split (n + 1), args_recv hra, List.reverse_cons, List.append_assoc]
      rfl
  exact hb
theorem ok_callS {f : FF} {n idx ny g1 : Nat} {y : MethodName} {cy : ByteArray} {ry : Option FieldType} (hsn : SndL l E y cy ny ry g1 f) (hv : VOKs y cy ny ry n) (hst : Cond.static y ∈ TT) (hl : Cond.methodLink own idx y ∈ TT) (hg : g1 + 1 ≤ g) (hd : decode cc pc = .ok (.invokestatic idx, 3)) (hk : OKm l E cc nL own ret ini g (pc + 3) k) : OKm l E cc nL own ret ini g pc (kCall n f k) := by
  intro ls st h r h' ee wl ws wh
  refine call_go hsn hv.2.2.2.2 hk ee wl ws wh (fun r1 h1 hm1 hb1 hb2 hn1 hmet p e R s m args below meth c cx ad0 N0 mc ms hr ad H locs cells slots lsA hs hsum => ?_)
  have a2 := hs.2.2.2.2.2.2.1
  have a3 := hs.2.2.2.2.2.2.2.1
  have b1 := hm1.1
  have b2 := hm1.2.1
  have c1 := cx.2.2.2.2.2.2.1
  have c2 := cx.2.2.2.2.2.2.2.1
  have c3 := hv.2.2.2.1
  have hP := hs.2.2.2.1
  have hb : va_Run p l e R s m args below meth c H locs cells slots (hN h1 - hN h) (hZ h1 - hZ h) (F0 m pc lsA (st.map (vmap ad))) ((st.drop n).map (vmap ad)) (QcA E ad h r1 h1 ((st.take n).reverse.map (vmap ad)).toArray) (AA E) := by
    refine va_runS (As := (st.take n).reverse.map (vmap ad)) ⟨cx.1, cx.2.1, cx.2.2.1, cx.2.2.2.1, cx.2.2.2.2.1⟩ (hmet ad hs.2.1) (n := n) ⟨callB_of n cx.2.2.2.2.1 (goodTT (fun w hw => by
      rcases List.mem_cons.mp hw with rfl | hw
      · exact hv.1
      · exact hw)) rfl rfl rfl (cx.2.2.2.2.1 _ hv.2.1) (cx.2.2.2.2.1 _ hl) hv.2.2.1 ⟨by show g1 + 1 ≤ R.frames; omega, by show 8 + (ny + 11) + 40 * g1 ≤ R.locals; omega⟩, cx.2.2.2.2.1 _ hst⟩ ⟨PcA.blind, fun U hU hW => PcA.at cx.2.2.2.2.2.1 hP hs.2.2.2.2.1 hs.2.2.2.2.2.1 U hU hW⟩ rfl (by rw [List.length_map, List.length_reverse, List.length_take]; omega) hs.2.2.2.2.2.2.2.2.1 (st_split n) (lv_room hsum) hd ⟨by have := hr.1; omega, by have := hr.2; omega⟩
  exact hb
theorem ok_callSN {f : FF} {n idx ny g1 : Nat} {y : MethodName} {host : String} {cy : ByteArray} {ry : Option FieldType} (hsn : SndL l E y cy ny ry g1 f) (hv : VOKs y cy ny ry n) (hst : Cond.static y ∈ TT) (hl : (own, idx, y, host) ∈ NWL) (hg : g1 + 1 ≤ g) (hd : decode cc pc = .ok (.invokestatic idx, 3)) (hk : OKm l E cc nL own ret ini g (pc + 3) k) : OKm l E cc nL own ret ini g pc (kCall n f k) := by
  intro ls st h r h' ee wl ws wh
  refine call_go hsn hv.2.2.2.2 hk ee wl ws wh (fun r1 h1 hm1 hb1 hb2 hn1 hmet p e R s m args below meth c cx ad0 N0 mc ms hr ad H locs cells slots lsA hs hsum => ?_)
  have a2 := hs.2.2.2.2.2.2.1
  have a3 := hs.2.2.2.2.2.2.2.1
  have b1 := hm1.1
  have b2 := hm1.2.1
  have c1 := cx.2.2.2.2.2.2.1
  have c2 := cx.2.2.2.2.2.2.2.1
  have c3 := hv.2.2.2.1
  have hP := hs.2.2.2.1
  have hb : va_Run p l e R s m args below meth c H locs cells slots (hN h1 - hN h) (hZ h1 - hZ h) (F0 m pc lsA (st.map (vmap ad))) ((st.drop n).map (vmap ad)) (QcA E ad h r1 h1 ((st.take n).reverse.map (vmap ad)).toArray) (AA E) := by
    refine va_runSN (As := (st.take n).reverse.map (vmap ad)) ⟨cx.1, cx.2.1, cx.2.2.1, cx.2.2.2.1, cx.2.2.2.2.1⟩ (hmet ad hs.2.1) ⟨va_cnB n cx.2.2.2.2.1 (goodTT (fun w hw => by
      rcases List.mem_cons.mp hw with rfl | hw
      · exact hv.1
      · exact hw)) rfl rfl rfl (cx.2.2.2.2.2.1.2.1 _ hl) (cx.2.2.2.2.1 _ hv.2.1) hv.2.2.1 ⟨by show g1 + 1 ≤ R.frames; omega, by show 8 + (ny + 11) + 40 * g1 ≤ R.locals; omega⟩, cx.2.2.2.2.1 _ hst, trivial⟩ ⟨PcA.blind, fun U hU hW => PcA.at cx.2.2.2.2.2.1 hP hs.2.2.2.2.1 hs.2.2.2.2.2.1 U hU hW⟩ rfl (by rw [List.length_map, List.length_reverse, List.length_take]; omega) hs.2.2.2.2.2.2.2.2.1 (st_split n) (lv_room hsum) hd ⟨by have := hr.1; omega, by have := hr.2; omega⟩
  exact hb
end CALLS
