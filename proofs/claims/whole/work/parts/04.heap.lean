abbrev inb (i : Int32) (n : Nat) : Prop := 0 ≤ i ∧ i.toNatClampNeg < n
theorem inb.vp {i : Int32} {n : Nat} (h : inb i n) : vp_in i n := fun q => q.elim (fun q => absurd h.1 (Int32.not_le.mpr q)) (fun q => Nat.not_le.mpr h.2 q)
def newO (h : HP) (kd n : Nat) : HP := ((fun a => if a = hN h then (kd, n) else hSh h a), (fun a j => if a = hN h then 0 else hI h a j), (fun a j => if a = hN h then none else hR h a j), hN h + 1, hZ h + n)
def kGetI (ci N kx : Nat) (k : KK) : KK := fun ls st h => match st with
  | .ref a :: st' => if hSh h a = (40 + ci, N) then k ls (.int (hI h a kx) :: st') h else none
  | _ => none
def kGetR (ci N kx : Nat) (k : KK) : KK := fun ls st h => match st with
  | .ref a :: st' => if hSh h a = (40 + ci, N) then k ls (va_rf (hR h a kx) :: st') h else none
  | _ => none
def kPutI (ci N kx : Nat) (k : KK) : KK := fun ls st h => match st with
  | .int x :: .ref a :: st' => if hSh h a = (40 + ci, N) then k ls st' (setI h a kx x) else none
  | _ => none
def kPutZ (ci N kx : Nat) (k : KK) : KK := fun ls st h => match st with
  | .int x :: .ref a :: st' => if hSh h a = (40 + ci, N) ∧ (x = 0 ∨ x = 1) then k ls st' (setI h a kx x) else none
  | _ => none
def kPutR (ci N kx : Nat) (k : KK) : KK := fun ls st h => match st with
  | .ref b :: .ref a :: st' => if hSh h a = (40 + ci, N) ∧ b < hN h then k ls st' (setR h a kx (some b)) else none
  | .null :: .ref a :: st' => if hSh h a = (40 + ci, N) then k ls st' (setR h a kx none) else none
  | _ => none
def kIal (k : KK) : KK := fun ls st h => match st with
  | .int i :: .ref a :: st' => if (hSh h a).1 = 1 ∧ inb i (hSh h a).2 then k ls (.int (hI h a i.toNatClampNeg) :: st') h else none
  | _ => none
def kZal (k : KK) : KK := fun ls st h => match st with
  | .int i :: .ref a :: st' => if (hSh h a).1 = 2 ∧ inb i (hSh h a).2 then k ls (.int (hI h a i.toNatClampNeg) :: st') h else none
  | _ => none
def kAal (t : Nat) (k : KK) : KK := fun ls st h => match st with
  | .int i :: .ref a :: st' => if (hSh h a).1 = 1 + t ∧ inb i (hSh h a).2 then k ls (va_rf (hR h a i.toNatClampNeg) :: st') h else none
  | _ => none
def kIas (k : KK) : KK := fun ls st h => match st with
  | .int x :: .int i :: .ref a :: st' => if (hSh h a).1 = 1 ∧ inb i (hSh h a).2 then k ls st' (setI h a i.toNatClampNeg x) else none
  | _ => none
def kZas (k : KK) : KK := fun ls st h => match st with
  | .int x :: .int i :: .ref a :: st' => if (hSh h a).1 = 2 ∧ inb i (hSh h a).2 ∧ (x = 0 ∨ x = 1) then k ls st' (setI h a i.toNatClampNeg x) else none
  | _ => none
def kAas (t ci nc : Nat) (k : KK) : KK := fun ls st h => match st with
  | .ref b :: .int i :: .ref a :: st' => if (hSh h a).1 = 1 + t ∧ inb i (hSh h a).2 ∧ hSh h b = (40 + ci, nc) then k ls st' (setR h a i.toNatClampNeg (some b)) else none
  | _ => none
def kLen (k : KK) : KK := fun ls st h => match st with
  | .ref a :: st' => if (hSh h a).1 ≠ 0 ∧ (hSh h a).1 < 6 then k ls (.int (Int32.ofNat (hSh h a).2) :: st') h else none
  | _ => none
def kNew (ci N : Nat) (k : KK) : KK := fun ls st h => if hN h < OUT then k ls (.ref (hN h) :: st) (newO h (40 + ci) N) else none
def kNewA (t : Nat) (k : KK) : KK := fun ls st h => match st with
  | .int n :: st' => if hN h < OUT ∧ 0 ≤ n ∧ n.toNatClampNeg ≤ 100000 then k ls (.ref (hN h) :: st') (newO h (1 + t) n.toNatClampNeg) else none
  | _ => none
def kMost (k : KK) : KK := fun ls st h => k ls (.ref (OUT + 1000) :: st) h
def kMostL (k : KK) : KK := fun ls st h => match st with
  | .int i :: .ref a :: st' => if a = OUT + 1000 ∧ inb i 5 then k ls (.int (mostv i.toNatClampNeg) :: st') h else none
  | _ => none
section OKH
variable {l : Launch} {E : EN} {cc : ByteArray} {nL : Nat} {own : String} {ret : Option FieldType} {ini : Bool} {g pc tgt : Nat} {k k1 k2 kd : KK}
variable {C : String} {T : u_T} {N ci kx idx : Nat}
theorem wfh.lt {h : HP} (w : wfh h) {a kd n : Nat} (hs : hSh h a = (kd, n)) (hk : kd ≠ 0) : a < hN h := w.2.1 a (by rw [hs]; exact hk)
theorem rep_at {ad : Nat → Nat} {h : HP} (w : wfh h) {a n : Nat} (hs : hSh h a = (40 + ci, n)) : (rep E ad h)[a]? = some (ad a, .inr (ci, (List.range n).map (fldE ad h ci a))) := by
  rw [rep_get (w.lt hs (by omega)), cellE_obj hs]
theorem rep_ar {ad : Nat → Nat} {h : HP} (w : wfh h) {a t n : Nat} (hs : hSh h a = (1 + t, n)) (ht : t < 2) : (rep E ad h)[a]? = some (ad a, .inl (E.2.1 t, n, .inl (hI h a))) := by
  rw [rep_get (w.lt hs (by omega)), cellE_arr hs ht]
theorem rep_rf {ad : Nat → Nat} {h : HP} (w : wfh h) {a t n : Nat} (hs : hSh h a = (1 + t, n)) (ht : 2 ≤ t) (ht2 : t < 39) : (rep E ad h)[a]? = some (ad a, .inl (E.2.1 t, n, .inr (.inr (.inr (.inr (fun j => (hR h a j).map ad)))))) := by
  rw [rep_get (w.lt hs (by omega)), cellE_ref hs ht ht2]
theorem fldE_i {ad : Nat → Nat} {h : HP} {a : Nat} (hf : frf ci kx = false) : fldE ad h ci a kx = .int (hI h a kx) := by simp [fldE, hf]
theorem fldE_r {ad : Nat → Nat} {h : HP} {a : Nat} (hf : frf ci kx = true) : fldE ad h ci a kx = va_rf ((hR h a kx).map ad) := by simp [fldE, hf]
theorem sh_pair {h : HP} {a kd : Nat} (hs : (hSh h a).1 = kd) : hSh h a = (kd, (hSh h a).2) := by rw [← hs]
theorem ok_getI (hin : ∀ w ∈ u_ws C T N, w ∈ TT) (hc : CLS[ci]? = some (C, T, N)) (hk0 : kx < N) (hf : frf ci kx = false) (hl : Cond.fieldLink own idx (T kx).1 (T kx).2.1 (T kx).2.2.1 ∈ TT) (hd : decode cc pc = .ok (.getfield idx, 3)) (hk : OKm l E cc nL own ret ini g (pc + 3) k) : OKm l E cc nL own ret ini g pc (kGetI ci N kx k) := by
  intro ls st h r h' ee wl ws wh
  unfold kGetI at ee
  split at ee
  case h_2 => cases ee
  rename_i a st2
  split at ee
  case isFalse => cases ee
  rename_i hsh
  obtain ⟨hm, hw⟩ := hk _ _ _ _ _ ee wl ws.tail.int wh
  exact ⟨hm, fun p e R s m args below meth c cx Q ad0 N0 mc ms hr ad H locs cells slots lsA hs => va_get cx.1 cx.2.1 cx.2.2.2.2.1 (fun w hw => hin w hw) cx.2.2.2.1 cx.2.2.2.2.2.1.1 hs.2.2.2.1 a (rep_at wh hsh) hc kx hk0 (cx.2.2.2.2.1 _ hl) (fun _ h9 => h9) ((fld_get hk0).trans (by rw [fldE_i hf]; rfl)) hd (hw p e R s m args below meth c cx Q ad0 N0 mc ms hr ad H locs cells slots lsA hs)⟩
theorem ok_getR (hin : ∀ w ∈ u_ws C T N, w ∈ TT) (hc : CLS[ci]? = some (C, T, N)) (hk0 : kx < N) (hf : frf ci kx = true) (hl : Cond.fieldLink own idx (T kx).1 (T kx).2.1 (T kx).2.2.1 ∈ TT) (hd : decode cc pc = .ok (.getfield idx, 3)) (hk : OKm l E cc nL own ret ini g (pc + 3) k) : OKm l E cc nL own ret ini g pc (kGetR ci N kx k) := by
  intro ls st h r h' ee wl ws wh
  unfold kGetR at ee
  split at ee
  case h_2 => cases ee
  rename_i a st2
  split at ee
  case isFalse => cases ee
  rename_i hsh
  obtain ⟨hm, hw⟩ := hk _ _ _ _ _ ee wl (ws.tail.cons (va_rf_cat _) (fun q e => Or.inl (wh.2.2 a kx q (by cases hx : hR h a kx with | none => (rw [hx] at e; cases e) | some z => (rw [hx] at e; cases e; rfl))))) wh
  refine ⟨hm, fun p e R s m args below meth c cx Q ad0 N0 mc ms hr ad H locs cells slots lsA hs => va_get cx.1 cx.2.1 cx.2.2.2.2.1 (fun w hw => hin w hw) cx.2.2.2.1 cx.2.2.2.2.2.1.1 hs.2.2.2.1 a (rep_at wh hsh) hc kx hk0 (cx.2.2.2.2.1 _ hl) (fun _ h9 => h9) ((fld_get hk0).trans (by rw [fldE_r hf, ← vmap_rf])) hd (hw p e R s m args below meth c cx Q ad0 N0 mc ms hr ad H locs cells slots lsA hs)⟩
theorem rep_putI {ad : Nat → Nat} {h : HP} {a n : Nat} {x : Int32} (hs : hSh h a = (40 + ci, n)) (hf : frf ci kx = false) : (rep E ad h).set a (ad a, .inr (ci, ((List.range n).map (fldE ad h ci a)).set kx (.int x))) = rep E ad (setI h a kx x) := by
  refine rep_ext rfl ?_ (fun j hj => cellE_setI_ne hj)
  rw [cellE_obj (h := setI h a kx x) hs]
  rw [fld_set (h2 := setI h a kx x)]
  · rw [fldE_i hf]; simp [setI, hI, upd2]
  · intro j hj
    simp only [fldE, setI, hI, hR, upd2_row, if_neg hj]
theorem rep_putR {ad : Nat → Nat} {h : HP} {a n : Nat} {x : Option Nat} (hs : hSh h a = (40 + ci, n)) (hf : frf ci kx = true) : (rep E ad h).set a (ad a, .inr (ci, ((List.range n).map (fldE ad h ci a)).set kx (va_rf (x.map ad)))) = rep E ad (setR h a kx x) := by
  refine rep_ext rfl ?_ (fun j hj => cellE_setR_ne hj)
  rw [cellE_obj (h := setR h a kx x) hs]
  rw [fld_set (h2 := setR h a kx x)]
  · rw [fldE_r hf]; simp [setR, hR, upd2]
  · intro j hj
    simp only [fldE, setR, hI, hR, upd2_row, if_neg hj]
theorem upd_eq (f : Nat → Int32) (i : Nat) (x : Int32) : upd f i x = fun j => if j = i then x else f j := rfl
theorem rep_ias {ad : Nat → Nat} {h : HP} {a t n i : Nat} {x : Int32} (hs : hSh h a = (1 + t, n)) (ht : t < 2) : (rep E ad h).set a (ad a, .inl (E.2.1 t, n, .inl (upd (hI h a) i x))) = rep E ad (setI h a i x) := by
  refine rep_ext rfl ?_ (fun j hj => cellE_setI_ne hj)
  rw [cellE_arr (h := setI h a i x) hs ht]
  simp only [setI, hI, upd2_row, upd_eq]
theorem rep_aas {ad : Nat → Nat} {h : HP} {a t n i b : Nat} (hs : hSh h a = (1 + t, n)) (ht : 2 ≤ t) (ht2 : t < 39) : (rep E ad h).set a (ad a, .inl (E.2.1 t, n, .inr (.inr (.inr (.inr (va_up (fun j => (hR h a j).map ad) i (some (ad b)))))))) = rep E ad (setR h a i (some b)) := by
  refine rep_ext rfl ?_ (fun j hj => cellE_setR_ne hj)
  rw [cellE_ref (h := setR h a i (some b)) hs ht ht2]
  have : (fun j => Option.map ad (hR (setR h a i (some b)) a j)) = va_up (fun j => (hR h a j).map ad) i (some (ad b)) := by
    funext j
    simp only [setR, hR, upd2_row, va_up]
    split <;> rfl
  rw [this]
theorem wfh.setR {h : HP} (w : wfh h) {a i : Nat} {x : Option Nat} (hx : ∀ b, x = some b → b < hN h) : wfh (setR h a i x) := by
  refine ⟨w.1, w.2.1, fun a2 j2 k2 h2 => ?_⟩
  by_cases hq : a2 = a ∧ j2 = i
  · obtain ⟨rfl, rfl⟩ := hq
    refine hx k2 ?_
    have h3 : upd2 h.2.2.1 a2 j2 x a2 j2 = some k2 := h2
    rw [upd2_row] at h3
    simpa using h3
  · have h3 : upd2 h.2.2.1 a i x a2 j2 = some k2 := h2
    unfold upd2 at h3
    rw [if_neg hq] at h3
    exact w.2.2 a2 j2 k2 h3
theorem ok_putI (hin : ∀ w ∈ u_ws C T N, w ∈ TT) {ty0 : Nat → FieldType} (hty : ∀ k, k < N → parseFieldDescriptor (T k).2.2.1 = some (ty0 k)) (hnm : ∀ a, a < N → ∀ b, b < N → a ≠ b → (T a).2.1 ≠ (T b).2.1) (hc : CLS[ci]? = some (C, T, N)) (hk0 : kx < N) (hf : frf ci kx = false) (hyk : ty0 kx = .int) (hfin : (T kx).2.2.2 = false) (hl : Cond.fieldLink own idx (T kx).1 (T kx).2.1 (T kx).2.2.1 ∈ TT) (hd : decode cc pc = .ok (.putfield idx, 3)) (hk : OKm l E cc nL own ret ini g (pc + 3) k) : OKm l E cc nL own ret ini g pc (kPutI ci N kx k) := by
  intro ls st h r h' ee wl ws wh
  unfold kPutI at ee
  split at ee
  case h_2 => cases ee
  rename_i x a st2
  split at ee
  case isFalse => cases ee
  rename_i hsh
  obtain ⟨hm, hw⟩ := hk _ _ _ _ _ ee wl ws.tail.tail wh
  refine ⟨hm, fun p e R s m args below meth c cx Q ad0 N0 mc ms hr ad H locs cells slots lsA hs => va_put (v := .int x) (ty := .int) cx.1 cx.2.1 cx.2.2.2.2.1 (fun w hw => hin w hw) ty0 hty hnm cx.2.2.2.1 cx.2.2.2.2.2.1.1 hs.2.2.2.1 hs.2.2.2.2.1 hs.2.2.2.2.2.1 a (rep_at wh hsh) hc kx hk0 (cx.2.2.2.2.1 _ hl) (fun _ h9 => h9) hfin ((hty kx hk0).trans (by rw [hyk])) rfl rfl (by simpa using hk0) hd (fun H1 locs1 hP hD hS => ?_)⟩
  rw [rep_putI hsh hf] at hP hD
  exact hw p e R s m args below meth c cx Q ad0 N0 mc ms hr ad H1 locs1 cells slots lsA ⟨hs.1, hs.2.1, hs.2.2.1, hP, hD, hS, hs.2.2.2.2.2.2.1, hs.2.2.2.2.2.2.2.1, hs.2.2.2.2.2.2.2.2⟩
theorem ok_putZ (hin : ∀ w ∈ u_ws C T N, w ∈ TT) {ty0 : Nat → FieldType} (hty : ∀ k, k < N → parseFieldDescriptor (T k).2.2.1 = some (ty0 k)) (hnm : ∀ a, a < N → ∀ b, b < N → a ≠ b → (T a).2.1 ≠ (T b).2.1) (hc : CLS[ci]? = some (C, T, N)) (hk0 : kx < N) (hf : frf ci kx = false) (hyk : ty0 kx = .boolean) (hfin : (T kx).2.2.2 = false) (hl : Cond.fieldLink own idx (T kx).1 (T kx).2.1 (T kx).2.2.1 ∈ TT) (hd : decode cc pc = .ok (.putfield idx, 3)) (hk : OKm l E cc nL own ret ini g (pc + 3) k) : OKm l E cc nL own ret ini g pc (kPutZ ci N kx k) := by
  intro ls st h r h' ee wl ws wh
  unfold kPutZ at ee
  split at ee
  case h_2 => cases ee
  rename_i x a st2
  split at ee
  case isFalse => cases ee
  rename_i hsh0
  obtain ⟨hsh, hx⟩ := hsh0
  obtain ⟨hm, hw⟩ := hk _ _ _ _ _ ee wl ws.tail.tail wh
  refine ⟨hm, fun p e R s m args below meth c cx Q ad0 N0 mc ms hr ad H locs cells slots lsA hs => va_put (v := .int x) (ty := .boolean) cx.1 cx.2.1 cx.2.2.2.2.1 (fun w hw => hin w hw) ty0 hty hnm cx.2.2.2.1 cx.2.2.2.2.2.1.1 hs.2.2.2.1 hs.2.2.2.2.1 hs.2.2.2.2.2.1 a (rep_at wh hsh) hc kx hk0 (cx.2.2.2.2.1 _ hl) (fun _ h9 => h9) hfin ((hty kx hk0).trans (by rw [hyk])) (by rcases hx with rfl | rfl <;> rfl) (by rcases hx with rfl | rfl <;> rfl) (by simpa using hk0) hd (fun H1 locs1 hP hD hS => ?_)⟩
  rw [rep_putI hsh hf] at hP hD
  exact hw p e R s m args below meth c cx Q ad0 N0 mc ms hr ad H1 locs1 cells slots lsA ⟨hs.1, hs.2.1, hs.2.2.1, hP, hD, hS, hs.2.2.2.2.2.2.1, hs.2.2.2.2.2.2.2.1, hs.2.2.2.2.2.2.2.2⟩
def isRefTy (t : FieldType) : Prop := (∃ c, t = .object c) ∨ ∃ c, t = .array c
theorem isRefTy.n {t : FieldType} (h : isRefTy t) (v : Value) : narrow t v = v := by rcases h with ⟨c, rfl⟩ | ⟨c, rfl⟩ <;> rfl
theorem isRefTy.f {t : FieldType} (h : isRefTy t) (o : Option Nat) : fits t (va_rf o) = true := by rcases h with ⟨c, rfl⟩ | ⟨c, rfl⟩ <;> cases o <;> rfl
theorem kPutR_inv {ls st : List Value} {h : HP} {r : RS} (ee : kPutR ci N kx k ls st h = r) (hr : r ≠ none) : ∃ (x : Option Nat) (a : Nat) (st2 : List Value), st = va_rf x :: .ref a :: st2 ∧ hSh h a = (40 + ci, N) ∧ (∀ b, x = some b → b < hN h) ∧ k ls st2 (setR h a kx x) = r := by
  unfold kPutR at ee
  split at ee
  · rename_i b a st2
    split at ee
    · rename_i hq
      exact ⟨some b, a, st2, rfl, hq.1, fun b2 e => by cases e; exact hq.2, ee⟩
    · exact absurd ee.symm hr
  · rename_i a st2
    split at ee
    · rename_i hq
      exact ⟨none, a, st2, rfl, hq, (fun b2 e => nomatch e), ee⟩
    · exact absurd ee.symm hr
  · exact absurd ee.symm hr
theorem ok_putR (hin : ∀ w ∈ u_ws C T N, w ∈ TT) {ty0 : Nat → FieldType} (hty : ∀ k, k < N → parseFieldDescriptor (T k).2.2.1 = some (ty0 k)) (hnm : ∀ a, a < N → ∀ b, b < N → a ≠ b → (T a).2.1 ≠ (T b).2.1) (hc : CLS[ci]? = some (C, T, N)) (hk0 : kx < N) (hf : frf ci kx = true) (hyk : isRefTy (ty0 kx)) (hfin : (T kx).2.2.2 = false) (hl : Cond.fieldLink own idx (T kx).1 (T kx).2.1 (T kx).2.2.1 ∈ TT) (hd : decode cc pc = .ok (.putfield idx, 3)) (hk : OKm l E cc nL own ret ini g (pc + 3) k) : OKm l E cc nL own ret ini g pc (kPutR ci N kx k) := by
  intro ls st h r h' ee wl ws wh
  obtain ⟨x, a, st2, rfl, hsh, hx, ee⟩ := kPutR_inv ee (by simp)
  obtain ⟨hm, hw⟩ := hk _ _ _ _ _ ee wl ws.tail.tail (wh.setR hx)
  refine ⟨hm, fun p e R s m args below meth c cx Q ad0 N0 mc ms hr ad H locs cells slots lsA hs => ?_⟩
  show W _ _ _ _ _ _ _ _ _ _ _ _ _ _ _ (F0 m pc lsA (vmap ad (va_rf x) :: .ref (ad a) :: st2.map (vmap ad)))
  rw [vmap_rf]
  refine va_put (v := va_rf (x.map ad)) (ty := ty0 kx) cx.1 cx.2.1 cx.2.2.2.2.1 (fun w hw => hin w hw) ty0 hty hnm cx.2.2.2.1 cx.2.2.2.2.2.1.1 hs.2.2.2.1 hs.2.2.2.2.1 hs.2.2.2.2.2.1 a (rep_at wh hsh) hc kx hk0 (cx.2.2.2.2.1 _ hl) (fun _ h9 => h9) hfin (hty kx hk0) (hyk.n _) (hyk.f _) (by simpa using hk0) hd (fun H1 locs1 hP hD hS => ?_)
  rw [rep_putR hsh hf] at hP hD
  exact hw p e R s m args below meth c cx Q ad0 N0 mc ms hr ad H1 locs1 cells slots lsA ⟨hs.1, hs.2.1, hs.2.2.1, hP, hD, hS, hs.2.2.2.2.2.2.1, hs.2.2.2.2.2.2.2.1, hs.2.2.2.2.2.2.2.2⟩
theorem ok_putRF (hin : ∀ w ∈ u_ws C T N, w ∈ TT) {ty0 : Nat → FieldType} (hty : ∀ k, k < N → parseFieldDescriptor (T k).2.2.1 = some (ty0 k)) (hnm : ∀ a, a < N → ∀ b, b < N → a ≠ b → (T a).2.1 ≠ (T b).2.1) (hc : CLS[ci]? = some (C, T, N)) (hk0 : kx < N) (hf : frf ci kx = true) (hyk : isRefTy (ty0 kx)) (hfin : (T kx).2.2.2 = true) (hini : ini = true) (hdecl : (T kx).1 = own) (hl : Cond.fieldLink own idx (T kx).1 (T kx).2.1 (T kx).2.2.1 ∈ TT) (hd : decode cc pc = .ok (.putfield idx, 3)) (hk : OKm l E cc nL own ret ini g (pc + 3) k) : OKm l E cc nL own ret ini g pc (kPutR ci N kx k) := by
  intro ls st h r h' ee wl ws wh
  obtain ⟨x, a, st2, rfl, hsh, hx, ee⟩ := kPutR_inv ee (by simp)
  obtain ⟨hm, hw⟩ := hk _ _ _ _ _ ee wl ws.tail.tail (wh.setR hx)
  refine ⟨hm, fun p e R s m args below meth c cx Q ad0 N0 mc ms hr ad H locs cells slots lsA hs => ?_⟩
  show W _ _ _ _ _ _ _ _ _ _ _ _ _ _ _ (F0 m pc lsA (vmap ad (va_rf x) :: .ref (ad a) :: st2.map (vmap ad)))
  rw [vmap_rf]
  refine va_putF (v := va_rf (x.map ad)) (ty := ty0 kx) cx.1 cx.2.1 cx.2.2.2.2.1 (fun w hw => hin w hw) ty0 hty hnm cx.2.2.2.1 cx.2.2.2.2.2.1.1 hs.2.2.2.1 hs.2.2.2.2.1 hs.2.2.2.2.2.1 a (rep_at wh hsh) hc kx hk0 (cx.2.2.2.2.1 _ hl) (fun _ h9 => h9) hfin (cx.2.2.2.2.2.2.2.2 hini) hdecl (hty kx hk0) (hyk.n _) (hyk.f _) (by simpa using hk0) hd (fun H1 locs1 hP hD hS => ?_)
  rw [rep_putR hsh hf] at hP hD
  exact hw p e R s m args below meth c cx Q ad0 N0 mc ms hr ad H1 locs1 cells slots lsA ⟨hs.1, hs.2.1, hs.2.2.1, hP, hD, hS, hs.2.2.2.2.2.2.1, hs.2.2.2.2.2.2.2.1, hs.2.2.2.2.2.2.2.2⟩
theorem ok_iaload (hd : decode cc pc = .ok (.iaload, 1)) (hk : OKm l E cc nL own ret ini g (pc + 1) k) : OKm l E cc nL own ret ini g pc (kIal k) := by
  intro ls st h r h' ee wl ws wh
  unfold kIal at ee
  split at ee
  case h_2 => cases ee
  rename_i i a st2
  split at ee
  case isFalse => cases ee
  rename_i hsh
  obtain ⟨hm, hw⟩ := hk _ _ _ _ _ ee wl ws.tail.tail.int wh
  exact ⟨hm, fun p e R s m args below meth c cx Q ad0 N0 mc ms hr ad H locs cells slots lsA hs => va_iald cx.1 cx.2.1 cx.2.2.2.2.2.1.1 hs.2.2.2.1 a 0 (rep_ar (t := 0) wh (sh_pair hsh.1) (by omega)) rfl hsh.2.vp hd (hw p e R s m args below meth c cx Q ad0 N0 mc ms hr ad H locs cells slots lsA hs)⟩
theorem ok_zaload (hd : decode cc pc = .ok (.baload, 1)) (hk : OKm l E cc nL own ret ini g (pc + 1) k) : OKm l E cc nL own ret ini g pc (kZal k) := by
  intro ls st h r h' ee wl ws wh
  unfold kZal at ee
  split at ee
  case h_2 => cases ee
  rename_i i a st2
  split at ee
  case isFalse => cases ee
  rename_i hsh
  obtain ⟨hm, hw⟩ := hk _ _ _ _ _ ee wl ws.tail.tail.int wh
  exact ⟨hm, fun p e R s m args below meth c cx Q ad0 N0 mc ms hr ad H locs cells slots lsA hs => va_zald cx.1 cx.2.1 cx.2.2.2.2.2.1.1 hs.2.2.2.1 a 1 (rep_ar (t := 1) wh (sh_pair hsh.1) (by omega)) rfl hsh.2.vp hd (hw p e R s m args below meth c cx Q ad0 N0 mc ms hr ad H locs cells slots lsA hs)⟩
theorem ok_aaload {t : Nat} (ht : 2 ≤ t ∧ t < 39) (hty : (tysA E.2.1)[t]? = some (E.2.1 t, .object C)) (hd : decode cc pc = .ok (.aaload, 1)) (hk : OKm l E cc nL own ret ini g (pc + 1) k) : OKm l E cc nL own ret ini g pc (kAal t k) := by
  intro ls st h r h' ee wl ws wh
  unfold kAal at ee
  split at ee
  case h_2 => cases ee
  rename_i i a st2
  split at ee
  case isFalse => cases ee
  rename_i hsh
  obtain ⟨hm, hw⟩ := hk _ _ _ _ _ ee wl (ws.tail.tail.cons (va_rf_cat _) (fun q e => Or.inl (wh.2.2 a i.toNatClampNeg q (by cases hx : hR h a i.toNatClampNeg with | none => (rw [hx] at e; cases e) | some z => (rw [hx] at e; cases e; rfl))))) wh
  refine ⟨hm, fun p e R s m args below meth c cx Q ad0 N0 mc ms hr ad H locs cells slots lsA hs => ?_⟩
  refine va_aldq (f := fun j => (hR h a j).map ad) cx.1 cx.2.1 cx.2.2.2.2.2.1.1 hs.2.2.2.1 a t (rep_rf wh (sh_pair hsh.1) ht.1 ht.2) hty hsh.2.vp hd ?_
  show W _ _ _ _ _ _ _ _ _ _ _ _ _ _ _ (F0 m (pc + 1) lsA (va_rf ((hR h a i.toNatClampNeg).map ad) :: st2.map (vmap ad)))
  rw [← vmap_rf]
  exact hw p e R s m args below meth c cx Q ad0 N0 mc ms hr ad H locs cells slots lsA hs
theorem ok_iastore (hd : decode cc pc = .ok (.iastore, 1)) (hk : OKm l E cc nL own ret ini g (pc + 1) k) : OKm l E cc nL own ret ini g pc (kIas k) := by
  intro ls st h r h' ee wl ws wh
  unfold kIas at ee
  split at ee
  case h_2 => cases ee
  rename_i x i a st2
  split at ee
  case isFalse => cases ee
  rename_i hsh
  obtain ⟨hm, hw⟩ := hk _ _ _ _ _ ee wl ws.tail.tail.tail wh
  refine ⟨hm, fun p e R s m args below meth c cx Q ad0 N0 mc ms hr ad H locs cells slots lsA hs => va_iast cx.1 cx.2.1 cx.2.2.2.2.2.1.1 hs.2.2.2.1 hs.2.2.2.2.1 hs.2.2.2.2.2.1 a 0 (rep_ar (t := 0) wh (sh_pair hsh.1) (by omega)) rfl hsh.2.vp hd (fun H1 locs1 hP hD hS => ?_)⟩
  rw [rep_ias (t := 0) (sh_pair hsh.1) (by omega)] at hP hD
  exact hw p e R s m args below meth c cx Q ad0 N0 mc ms hr ad H1 locs1 cells slots lsA ⟨hs.1, hs.2.1, hs.2.2.1, hP, hD, hS, hs.2.2.2.2.2.2.1, hs.2.2.2.2.2.2.2.1, hs.2.2.2.2.2.2.2.2⟩
theorem vp_nar_z {x : Int32} (h : x = 0 ∨ x = 1) : vp_nar .boolean x = x := by rcases h with rfl | rfl <;> rfl
theorem ok_zastore (hd : decode cc pc = .ok (.bastore, 1)) (hk : OKm l E cc nL own ret ini g (pc + 1) k) : OKm l E cc nL own ret ini g pc (kZas k) := by
  intro ls st h r h' ee wl ws wh
  unfold kZas at ee
  split at ee
  case h_2 => cases ee
  rename_i x i a st2
  split at ee
  case isFalse => cases ee
  rename_i hsh
  obtain ⟨hm, hw⟩ := hk _ _ _ _ _ ee wl ws.tail.tail.tail wh
  refine ⟨hm, fun p e R s m args below meth c cx Q ad0 N0 mc ms hr ad H locs cells slots lsA hs => va_zast cx.1 cx.2.1 cx.2.2.2.2.2.1.1 hs.2.2.2.1 hs.2.2.2.2.1 hs.2.2.2.2.2.1 a 1 (rep_ar (t := 1) wh (sh_pair hsh.1) (by omega)) rfl hsh.2.1.vp hd (fun H1 locs1 hP hD hS => ?_)⟩
  rw [vp_nar_z hsh.2.2, rep_ias (t := 1) (sh_pair hsh.1) (by omega)] at hP hD
  exact hw p e R s m args below meth c cx Q ad0 N0 mc ms hr ad H1 locs1 cells slots lsA ⟨hs.1, hs.2.1, hs.2.2.1, hP, hD, hS, hs.2.2.2.2.2.2.1, hs.2.2.2.2.2.2.2.1, hs.2.2.2.2.2.2.2.2⟩
theorem ok_aastore {t nc : Nat} {q : vw_C} (ht : 2 ≤ t ∧ t < 39) (hc : CLS[ci]? = some q) (hty : (tysA E.2.1)[t]? = some (E.2.1 t, .object q.1)) (hd : decode cc pc = .ok (.aastore, 1)) (hk : OKm l E cc nL own ret ini g (pc + 1) k) : OKm l E cc nL own ret ini g pc (kAas t ci nc k) := by
  intro ls st h r h' ee wl ws wh
  unfold kAas at ee
  split at ee
  case h_2 => cases ee
  rename_i b i a st2
  split at ee
  case isFalse => cases ee
  rename_i hsh
  obtain ⟨hm, hw⟩ := hk _ _ _ _ _ ee wl ws.tail.tail.tail (wh.setR (fun b2 e => by cases e; exact wh.lt hsh.2.2 (by omega)))
  refine ⟨hm, fun p e R s m args below meth c cx Q ad0 N0 mc ms hr ad H locs cells slots lsA hs => va_astq cx.1 cx.2.1 cx.2.2.2.2.2.1.1 hs.2.2.2.1 hs.2.2.2.2.1 hs.2.2.2.2.2.1 a t b ci (rep_rf wh (sh_pair hsh.1) ht.1 ht.2) hty (rep_at wh hsh.2.2) hc hsh.2.1.vp hd (fun H1 locs1 hP hD hS => ?_)⟩
  rw [rep_aas (sh_pair hsh.1) ht.1 ht.2] at hP hD
  exact hw p e R s m args below meth c cx Q ad0 N0 mc ms hr ad H1 locs1 cells slots lsA ⟨hs.1, hs.2.1, hs.2.2.1, hP, hD, hS, hs.2.2.2.2.2.2.1, hs.2.2.2.2.2.2.2.1, hs.2.2.2.2.2.2.2.2⟩
theorem tysA_at (aC : Nat → ClassId) {t : Nat} (ht : t < 5) : ∃ ty, (tysA aC)[t]? = some (aC t, ty) := by
  match t, ht with
  | 0, _ => exact ⟨_, rfl⟩
  | 1, _ => exact ⟨_, rfl⟩
  | 2, _ => exact ⟨_, rfl⟩
  | 3, _ => exact ⟨_, rfl⟩
  | 4, _ => exact ⟨_, rfl⟩
theorem ok_arraylength (hd : decode cc pc = .ok (.arraylength, 1)) (hk : OKm l E cc nL own ret ini g (pc + 1) k) : OKm l E cc nL own ret ini g pc (kLen k) := by
  intro ls st h r h' ee wl ws wh
  unfold kLen at ee
  split at ee
  case h_2 => cases ee
  rename_i a st2
  split at ee
  case isFalse => cases ee
  rename_i hsh
  obtain ⟨hm, hw⟩ := hk _ _ _ _ _ ee wl ws.tail.int wh
  refine ⟨hm, fun p e R s m args below meth c cx Q ad0 N0 mc ms hr ad H locs cells slots lsA hs => ?_⟩
  obtain ⟨t, ht⟩ : ∃ t, (hSh h a).1 = 1 + t := ⟨(hSh h a).1 - 1, by omega⟩
  have h5 : t < 5 := by omega
  obtain ⟨ty, hty⟩ := tysA_at E.2.1 h5
  by_cases h2 : t < 2
  · exact va_alen cx.1 cx.2.1 cx.2.2.2.2.2.1.1 hs.2.2.2.1 a t (rep_ar wh (sh_pair ht) h2) hty rfl hd (hw p e R s m args below meth c cx Q ad0 N0 mc ms hr ad H locs cells slots lsA hs)
  · exact va_alen cx.1 cx.2.1 cx.2.2.2.2.2.1.1 hs.2.2.2.1 a t (rep_rf wh (sh_pair ht) (by omega) (by omega)) hty rfl hd (hw p e R s m args below meth c cx Q ad0 N0 mc ms hr ad H locs cells slots lsA hs)
theorem ok_most (hl : Cond.fieldLink own idx "FourPalms" "MOST_OF_FACT" "[I" ∈ TT) (hd : decode cc pc = .ok (.getstatic idx, 3)) (hk : OKm l E cc nL own ret ini g (pc + 3) k) : OKm l E cc nL own ret ini g pc (kMost k) := by
  intro ls st h r h' ee wl ws wh
  obtain ⟨hm, hw⟩ := hk _ _ _ _ _ ee wl (ws.cons rfl (fun q e => by cases e; exact Or.inr (by unfold OUT; omega))) wh
  refine ⟨hm, fun p e R s m args below meth c cx Q ad0 N0 mc ms hr ad H locs cells slots lsA hs => ?_⟩
  refine va_gets cx.1 cx.2.1 cx.2.2.2.2.2.1.2.2.2.2.2.1 hs.2.2.2.2.2.1 cx.2.2.2.1 (cx.2.2.2.2.1 _ hl) (fun _ h9 => h9) hd ?_
  rw [← hs.2.1 (OUT + 1000) (by omega)]
  exact hw p e R s m args below meth c cx Q ad0 N0 mc ms hr ad H locs cells slots lsA hs
theorem ok_mostL (hd : decode cc pc = .ok (.iaload, 1)) (hk : OKm l E cc nL own ret ini g (pc + 1) k) : OKm l E cc nL own ret ini g pc (kMostL k) := by
  intro ls st h r h' ee wl ws wh
  unfold kMostL at ee
  split at ee
  case h_2 => cases ee
  rename_i i a st2
  split at ee
  case isFalse => cases ee
  rename_i hsh
  obtain ⟨rfl, hin⟩ := hsh
  obtain ⟨hm, hw⟩ := hk _ _ _ _ _ ee wl ws.tail.tail.int wh
  refine ⟨hm, fun p e R s m args below meth c cx Q ad0 N0 mc ms hr ad H locs cells slots lsA hs => ?_⟩
  show W _ _ _ _ _ _ _ _ _ _ _ _ _ _ _ (F0 m pc lsA (.int i :: .ref (ad (OUT + 1000)) :: st2.map (vmap ad)))
  rw [hs.2.1 (OUT + 1000) (by omega)]
  exact va_ti cx.1 cx.2.1 cx.2.2.2.2.2.1.2.2.2.2.2.2.1 hs.2.2.2.2.2.1 hin.vp rfl hd (hw p e R s m args below meth c cx Q ad0 N0 mc ms hr ad H locs cells slots lsA hs)
end OKH
