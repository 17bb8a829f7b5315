def adN (ad : Nat → Nat) (n q : Nat) : Nat → Nat := fun i => if i = n then q else ad i
theorem adN_ne {ad : Nat → Nat} {n q i : Nat} (h : i ≠ n) : adN ad n q i = ad i := by simp [adN, h]
theorem adN_at {ad : Nat → Nat} {n q : Nat} : adN ad n q n = q := by simp [adN]
theorem wfh.newO {h : HP} (w : wfh h) {kd n : Nat} (hn : hN h < OUT) : wfh (newO h kd n) := by
  refine ⟨hn, fun a ha => ?_, fun a j k hk => ?_⟩
  · show a < hN h + 1
    by_cases hq : a = hN h
    · omega
    · have h2 : (hSh h a).1 ≠ 0 := by
        have h3 : (if a = hN h then (kd, n) else hSh h a).1 ≠ 0 := ha
        rwa [if_neg hq] at h3
      exact Nat.lt_succ_of_lt (w.2.1 a h2)
  · show k < hN h + 1
    have h3 : (if a = hN h then none else hR h a j) = some k := hk
    by_cases hq : a = hN h
    · rw [if_pos hq] at h3; cases h3
    · rw [if_neg hq] at h3
      exact Nat.lt_succ_of_lt (w.2.2 a j k h3)
theorem omap_adN {ad : Nat → Nat} {n q : Nat} {o : Option Nat} (ho : ∀ k, o = some k → k < n) : o.map (adN ad n q) = o.map ad := by
  cases o with
  | none => rfl
  | some k => show some _ = some _; rw [adN_ne (Nat.ne_of_lt (ho k rfl))]
theorem cellE_new {E : EN} {ad : Nat → Nat} {h : HP} (w : wfh h) {kd n q j : Nat} (hj : j < hN h) : cellE E (adN ad (hN h) q) (newO h kd n) j = cellE E ad h j := by
  have hne : j ≠ hN h := Nat.ne_of_lt hj
  have e1 : hSh (newO h kd n) j = hSh h j := if_neg hne
  have e2 : hI (newO h kd n) j = hI h j := by funext i; exact if_neg hne
  have e3 : hR (newO h kd n) j = hR h j := by funext i; exact if_neg hne
  unfold cellE
  rw [e1, e2, e3]
  have e4 : ∀ i, (hR h j i).map (adN ad (hN h) q) = (hR h j i).map ad := fun i => omap_adN (fun k hk => w.2.2 j i k hk)
  simp only [e4]
theorem rep_new {E : EN} {ad : Nat → Nat} {h : HP} (w : wfh h) {kd n q : Nat} {e : va_E} (he : e = cellE E (adN ad (hN h) q) (newO h kd n) (hN h)) : rep E ad h ++ [(q, e)] = rep E (adN ad (hN h) q) (newO h kd n) := by
  subst he
  apply List.ext_getElem?
  intro j
  have hn : hN (newO h kd n) = hN h + 1 := rfl
  by_cases hj : j < hN h
  · rw [List.getElem?_append_left (by rw [rep_len]; exact hj), rep_get hj, rep_get (by rw [hn]; omega), cellE_new w hj, adN_ne (Nat.ne_of_lt hj)]
  · by_cases hj2 : j = hN h
    · subst hj2
      rw [List.getElem?_append_right (by rw [rep_len]; exact Nat.le_refl _), rep_len, Nat.sub_self, rep_get (by rw [hn]; omega), adN_at]
      rfl
    · rw [List.getElem?_eq_none (by rw [List.length_append, rep_len]; show hN h + 1 ≤ j; omega), List.getElem?_eq_none (by rw [rep_len, hn]; omega)]
def newF (ci N : Nat) : List Value := (List.range N).map (fun j => if frf ci j = true then .null else .int 0)
theorem cellE_newObj {E : EN} {ad : Nat → Nat} {h : HP} {ci N : Nat} : Sum.inr (ci, newF ci N) = cellE E ad (newO h (40 + ci) N) (hN h) := by
  rw [cellE_obj (h := newO h (40 + ci) N) (a := hN h) (if_pos rfl)]
  congr 2
  apply List.map_congr_left
  intro j _
  have e2 : hI (newO h (40 + ci) N) (hN h) j = 0 := if_pos rfl
  have e3 : hR (newO h (40 + ci) N) (hN h) j = none := if_pos rfl
  unfold fldE
  rw [e2, e3]
  rfl
theorem newF_V {ci N j : Nat} (hj : j < N) : vp_V (newF ci N) j = if frf ci j = true then .null else .int 0 := by
  simp [vp_V, newF, hj]
section OKN
variable {l : Launch} {E : EN} {cc : ByteArray} {nL : Nat} {own : String} {ret : Option FieldType} {ini : Bool} {g pc tgt : Nat} {k k1 k2 kd : KK}
variable {C : String} {T : u_T} {N ci kx idx : Nat}
theorem ST.newS {ad0 : Nat → Nat} {N0 mc ms kd n : Nat} {h' h : HP} {s : State} {ls : List Value} {ad : Nat → Nat} {H H1 : Heap} {locs : List Loc} {cells slots : Nat} {lsA : Array Slot} {q : Nat} (hs : ST E ad0 N0 mc ms h' s nL ls h ad H locs cells slots lsA) (wl : wfl h ls) (hn : hN h < OUT) (hP : va_P E.1 CLS (rep E (adN ad (hN h) q) (newO h kd n)) H1) (hD : va_D (AA E) (rep E (adN ad (hN h) q) (newO h kd n))) (hS : va_S (AA E) s.heap H1 locs) (m1 : hN (newO h kd n) ≤ hN h') (m2 : hZ (newO h kd n) ≤ hZ h') : ST E ad0 N0 mc ms h' s nL ls (newO h kd n) (adN ad (hN h) q) H1 locs (cells + 1) (slots + n) lsA := by
  have e1 : hN (newO h kd n) = hN h + 1 := rfl
  have e2 : hZ (newO h kd n) = hZ h + n := rfl
  have g1 := hs.2.2.1
  have g2 := hs.2.2.2.2.2.2.1
  have g3 := hs.2.2.2.2.2.2.2.1
  refine ⟨fun i hi => ?_, fun i hi => ?_, by omega, hP, hD, hS, by omega, by omega, hs.2.2.2.2.2.2.2.2.moved (P := okR h) wl (fun k hk => Or.inr hk) (fun k hk => ?_)⟩
  · rw [adN_ne (by omega)]; exact hs.1 i hi
  · rw [adN_ne (by omega)]; exact hs.2.1 i hi
  · refine adN_ne ?_
    rcases hk with hk | hk <;> omega
theorem st_new {ad : Nat → Nat} {h : HP} {st : List Value} {q : Nat} (w : wfs h st) (hn : hN h < OUT) : st.map (vmap (adN ad (hN h) q)) = st.map (vmap ad) :=
  vmap_moved (P := okR h) w.2 (fun k hk => Or.inr hk) (fun k hk => adN_ne (by rcases hk with hk | hk <;> omega))
theorem ok_new (hin : ∀ w ∈ u_ws C T N, w ∈ TT) {ty0 : Nat → FieldType} (hty : ∀ k, k < N → parseFieldDescriptor (T k).2.2.1 = some (ty0 k)) (hc : CLS[ci]? = some (C, T, N)) (hdf : ∀ j, j < N → defaultValue (ty0 j) = if frf ci j = true then .null else .int 0) (hl : Cond.classLink own idx C ∈ TT) (hi : Cond.instantiable C N ∈ TT) (hini : Cond.initialized C ∈ TT) (hd : decode cc pc = .ok (.new idx, 3)) (hk : OKm l E cc nL own ret ini g (pc + 3) k) : OKm l E cc nL own ret ini g pc (kNew ci N k) := by
  intro ls st h r h' ee wl ws wh
  unfold kNew at ee
  split at ee
  case isFalse => cases ee
  rename_i hn
  have hle : hN h ≤ hN (newO h (40 + ci) N) := Nat.le_succ _
  obtain ⟨hm, hw⟩ := hk _ _ _ _ _ ee (wl.mono hle) ((ws.mono hle).cons rfl (fun q e => by cases e; exact Or.inl (Nat.lt_succ_self _))) (wh.newO hn)
  have e2 : hZ (newO h (40 + ci) N) = hZ h + N := rfl
  have e1 : hN (newO h (40 + ci) N) = hN h + 1 := rfl
  refine ⟨⟨by have := hm.1; omega, by have := hm.2.1; omega, hm.2.2⟩, fun p e R s m args below meth c cx Q ad0 N0 mc ms hr ad H locs cells slots lsA hs => ?_⟩
  have m1 := hm.1
  have m2 := hm.2.1
  have g2 := hs.2.2.2.2.2.2.1
  have g3 := hs.2.2.2.2.2.2.2.1
  have g4 := hr.1
  have g5 := hr.2.1
  refine va_new cx.1 cx.2.1 cx.2.2.2.2.1 (fun w hw => hin w hw) ty0 hty cx.2.2.2.1 (cx.2.2.2.2.1 _ hl) (cx.2.2.2.2.1 _ hi) (cx.2.2.2.2.1 _ hini) cx.2.2.2.2.2.1.1 hs.2.2.2.1 hs.2.2.2.2.1 hs.2.2.2.2.2.1 (fun q hq => Nat.le_trans cx.2.2.2.2.2.1.2.2.2.2.2.2.2.2.2 hq) hc (fs := newF ci N) (fun j hj => (hdf j hj).trans (newF_V hj).symm) (by omega) (by omega) hd (fun q H1 hP hD hS => ?_)
  rw [rep_new (kd := 40 + ci) (n := N) wh cellE_newObj] at hP hD
  have key := hw p e R s m args below meth c cx Q ad0 N0 mc ms hr (adN ad (hN h) q) H1 locs (cells + 1) (slots + N) lsA (hs.newS wl hn hP hD hS m1 m2)
  rw [List.map_cons, st_new ws hn] at key
  have e9 : vmap (adN ad (hN h) q) (.ref (hN h)) = .ref q := congrArg Value.ref adN_at
  rw [e9] at key
  exact key
theorem cellE_newArr {E : EN} {ad : Nat → Nat} {h : HP} {t n : Nat} (ht : t < 2) : Sum.inl (E.2.1 t, n, Sum.inl (fun _ => 0)) = cellE E ad (newO h (1 + t) n) (hN h) := by
  rw [cellE_arr (h := newO h (1 + t) n) (a := hN h) (if_pos rfl) ht]
  have e2 : hI (newO h (1 + t) n) (hN h) = fun _ => 0 := by funext j; exact if_pos rfl
  rw [e2]
theorem cellE_newRef {E : EN} {ad : Nat → Nat} {h : HP} {t n : Nat} (ht : 2 ≤ t) (ht2 : t < 39) : Sum.inl (E.2.1 t, n, Sum.inr (.inr (.inr (.inr (fun _ => none))))) = cellE E ad (newO h (1 + t) n) (hN h) := by
  rw [cellE_ref (h := newO h (1 + t) n) (a := hN h) (if_pos rfl) ht ht2]
  have e3 : hR (newO h (1 + t) n) (hN h) = fun _ => none := by funext j; exact if_pos rfl
  rw [e3]
  rfl
/-- a fresh array's class is the one that tysA has -/
theorem aC_eq {s : State} {cA : ClassId} {t : Nat} {ty : FieldType} (hK : va_K E.1 CLS (tysA E.2.1 ++ [(cA, ty)]) s) (hty : (tysA E.2.1)[t]? = some (E.2.1 t, ty)) (h5 : (tysA E.2.1).length = 5) : cA = E.2.1 t := by
  have h1 := (hK.2 5 (cA, ty) (by rw [List.getElem?_append_right (by omega), h5]; rfl)).2
  have ht : t < (tysA E.2.1).length := (List.getElem?_eq_some_iff.mp hty).1
  have h2 := (hK.2 t (E.2.1 t, ty) (by rw [List.getElem?_append_left ht]; exact hty)).2
  cases ty <;> first
    | exact Option.some.inj (Eq.trans (Eq.symm h1) h2)
    | (obtain ⟨_, _, _, _, _, h1⟩ := h1; obtain ⟨_, _, _, _, _, h2⟩ := h2; exact Option.some.inj (h1.symm.trans h2))
theorem ok_newarray {t : Nat} {at' : ArrayType} {ty : FieldType} (ht : t < 2) (hat : newarray.typeOf at' = ty) (hty : (tysA E.2.1)[t]? = some (E.2.1 t, ty)) (hcl : ∀ (cA : ClassId) (n : Nat), vp_cell cA (n, .inl (fun _ => 0)) = arrV cA n (fun _ => defaultValue ty)) (hcb : componentBytes ty ≤ 4) (hl : Cond.arrayClass ty ∈ TT) (hd : decode cc pc = .ok (.newarray at', 2)) (hk : OKm l E cc nL own ret ini g (pc + 2) k) : OKm l E cc nL own ret ini g pc (kNewA t k) := by
  intro ls st h r h' ee wl ws wh
  unfold kNewA at ee
  split at ee
  case h_2 => cases ee
  rename_i n st2
  split at ee
  case isFalse => cases ee
  rename_i hq
  obtain ⟨hn, h0, hb⟩ := hq
  have hle : hN h ≤ hN (newO h (1 + t) n.toNatClampNeg) := Nat.le_succ _
  obtain ⟨hm, hw⟩ := hk _ _ _ _ _ ee (wl.mono hle) ((ws.tail.mono hle).cons rfl (fun q e => by cases e; exact Or.inl (Nat.lt_succ_self _))) (wh.newO hn)
  have e2 : hZ (newO h (1 + t) n.toNatClampNeg) = hZ h + n.toNatClampNeg := rfl
  have e1 : hN (newO h (1 + t) n.toNatClampNeg) = hN h + 1 := rfl
  refine ⟨⟨by have := hm.1; omega, by have := hm.2.1; omega, hm.2.2⟩, fun p e R s m args below meth c cx Q ad0 N0 mc ms hr ad H locs cells slots lsA hs => ?_⟩
  have m1 := hm.1
  have m2 := hm.2.1
  have g2 := hs.2.2.2.2.2.2.1
  have g3 := hs.2.2.2.2.2.2.2.1
  have g4 := hr.1
  have g5 := hr.2.1
  refine va_newa (atype := at') (a0 := (n.toNatClampNeg, .inl (fun _ => 0))) cx.1 cx.2.1 (by rw [hat]; exact cx.2.2.2.2.1 _ hl) hat cx.2.2.2.2.2.1.1 hs.2.2.2.1 hs.2.2.2.2.1 hs.2.2.2.2.2.1 (fun q hq => Nat.le_trans cx.2.2.2.2.2.1.2.2.2.2.2.2.2.2.2 hq) (fun cA => hcl cA _) (Int32.not_lt.mpr h0) rfl (Nat.le_trans (Nat.mul_le_mul hb hcb) (by omega)) (by omega) (by omega) hd (fun q cA H1 hK hP hD hS => ?_)
  have hcA := aC_eq hK hty rfl
  subst hcA
  rw [rep_new (kd := 1 + t) (n := n.toNatClampNeg) wh (cellE_newArr ht)] at hP hD
  have key := hw p e R s m args below meth c cx Q ad0 N0 mc ms hr (adN ad (hN h) q) H1 locs (cells + 1) (slots + n.toNatClampNeg) lsA (hs.newS wl hn hP hD hS m1 m2)
  rw [List.map_cons, st_new ws.tail hn] at key
  have e9 : vmap (adN ad (hN h) q) (.ref (hN h)) = .ref q := congrArg Value.ref adN_at
  rw [e9] at key
  exact key
theorem ok_anewarray {t : Nat} (ht : 2 ≤ t ∧ t < 39) (hty : (tysA E.2.1)[t]? = some (E.2.1 t, .object C)) (hao : ∀ U H, GO E U H → va_AO C U) (hl : Cond.classLink own idx C ∈ TT) (hd : decode cc pc = .ok (.anewarray idx, 3)) (hk : OKm l E cc nL own ret ini g (pc + 3) k) : OKm l E cc nL own ret ini g pc (kNewA t k) := by
  intro ls st h r h' ee wl ws wh
  unfold kNewA at ee
  split at ee
  case h_2 => cases ee
  rename_i n st2
  split at ee
  case isFalse => cases ee
  rename_i hq
  obtain ⟨hn, h0, hb⟩ := hq
  have hle : hN h ≤ hN (newO h (1 + t) n.toNatClampNeg) := Nat.le_succ _
  obtain ⟨hm, hw⟩ := hk _ _ _ _ _ ee (wl.mono hle) ((ws.tail.mono hle).cons rfl (fun q e => by cases e; exact Or.inl (Nat.lt_succ_self _))) (wh.newO hn)
  have e2 : hZ (newO h (1 + t) n.toNatClampNeg) = hZ h + n.toNatClampNeg := rfl
  have e1 : hN (newO h (1 + t) n.toNatClampNeg) = hN h + 1 := rfl
  refine ⟨⟨by have := hm.1; omega, by have := hm.2.1; omega, hm.2.2⟩, fun p e R s m args below meth c cx Q ad0 N0 mc ms hr ad H locs cells slots lsA hs => ?_⟩
  have m1 := hm.1
  have m2 := hm.2.1
  have g2 := hs.2.2.2.2.2.2.1
  have g3 := hs.2.2.2.2.2.2.2.1
  have g4 := hr.1
  have g5 := hr.2.1
  refine va_newq cx.1 cx.2.1 cx.2.2.2.1 (cx.2.2.2.2.1 _ hl) (hao _ _ cx.2.2.2.2.2.1) cx.2.2.2.2.2.1.1 hs.2.2.2.1 hs.2.2.2.2.1 hs.2.2.2.2.2.1 (fun q hq => Nat.le_trans cx.2.2.2.2.2.1.2.2.2.2.2.2.2.2.2 hq) (Int32.not_lt.mpr h0) rfl (by omega) (by omega) (by omega) hd (fun q cA H1 hK hP hD hS => ?_)
  have hcA := aC_eq hK hty rfl
  subst hcA
  rw [rep_new (kd := 1 + t) (n := n.toNatClampNeg) wh (cellE_newRef ht.1 ht.2)] at hP hD
  have key := hw p e R s m args below meth c cx Q ad0 N0 mc ms hr (adN ad (hN h) q) H1 locs (cells + 1) (slots + n.toNatClampNeg) lsA (hs.newS wl hn hP hD hS m1 m2)
  rw [List.map_cons, st_new ws.tail hn] at key
  have e9 : vmap (adN ad (hN h) q) (.ref (hN h)) = .ref q := congrArg Value.ref adN_at
  rw [e9] at key
  exact key
end OKN
