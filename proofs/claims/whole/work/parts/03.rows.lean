theorem wfs.nil {h : HP} : wfs h [] := ⟨(fun _ hv => absurd hv List.not_mem_nil), (fun _ hv => absurd hv List.not_mem_nil)⟩
theorem wfs.tail {h : HP} {v : Value} {st : List Value} (w : wfs h (v :: st)) : wfs h st := ⟨fun x hx => w.1 x (List.mem_cons_of_mem _ hx), fun x hx => w.2 x (List.mem_cons_of_mem _ hx)⟩
theorem wfs.cons {h : HP} {v : Value} {st : List Value} (hc : v.category = 1) (hr : ∀ k, v = .ref k → okR h k) (w : wfs h st) : wfs h (v :: st) := ⟨fun x hx => by rcases List.mem_cons.mp hx with rfl | hx; exact hc; exact w.1 x hx, fun x hx => by rcases List.mem_cons.mp hx with rfl | hx; exact hr; exact w.2 x hx⟩
theorem wfs.int {h : HP} {x : Int32} {st : List Value} (w : wfs h st) : wfs h (.int x :: st) := w.cons rfl (fun k e => by cases e)
theorem wfs.head {h : HP} {v : Value} {st : List Value} (w : wfs h (v :: st)) : v.category = 1 ∧ ∀ k, v = .ref k → okR h k := ⟨w.1 v List.mem_cons_self, w.2 v List.mem_cons_self⟩
theorem wfs.app {h : HP} : ∀ {a b : List Value}, wfs h (a ++ b) → wfs h a ∧ wfs h b
  | [], _, w => ⟨wfs.nil, w⟩
  | _ :: _, _, w => ⟨wfs.cons (wfs.head w).1 (wfs.head w).2 (wfs.app (wfs.tail w)).1, (wfs.app (wfs.tail w)).2⟩
theorem wfl.get {h : HP} {ls : List Value} {i : Nat} {v : Value} (w : wfl h ls) (hv : ls[i]? = some v) : ∀ k, v = .ref k → okR h k := w v (List.mem_of_getElem? hv)
theorem wfl.set {h : HP} {ls : List Value} {i : Nat} {v : Value} (w : wfl h ls) (hv : ∀ k, v = .ref k → okR h k) : wfl h (lset ls i v) := by
  intro x hx
  obtain ⟨j, hj⟩ := List.getElem?_of_mem hx
  rcases lset_get ls i j v x hj with ⟨-, rfl⟩ | ⟨-, hj | rfl⟩
  · exact hv
  · exact w x (List.mem_of_getElem? hj)
  · intro k e; cases e
theorem okR.mono {h h2 : HP} {k : Nat} (hn : hN h ≤ hN h2) (w : okR h k) : okR h2 k := w.elim (fun q => Or.inl (Nat.lt_of_lt_of_le q hn)) Or.inr
theorem wfl.mono {h h2 : HP} {ls : List Value} (hn : hN h ≤ hN h2) (w : wfl h ls) : wfl h2 ls := fun v hv k e => (w v hv k e).mono hn
theorem wfs.mono {h h2 : HP} {ls : List Value} (hn : hN h ≤ hN h2) (w : wfs h ls) : wfs h2 ls := ⟨w.1, w.2.mono hn⟩
-- ===== the steps as functions =====
def kConst (x : Int32) (k : KK) : KK := fun ls st h => k ls (.int x :: st) h
def kNull (k : KK) : KK := fun ls st h => k ls (.null :: st) h
def kIld (i : Nat) (k : KK) : KK := fun ls st h => match ls[i]? with
  | some (.int x) => k ls (.int x :: st) h
  | _ => none
def kAld (i : Nat) (k : KK) : KK := fun ls st h => match ls[i]? with
  | some (.ref a) => k ls (.ref a :: st) h
  | some .null => k ls (.null :: st) h
  | _ => none
def kIst (i : Nat) (k : KK) : KK := fun ls st h => match st with
  | .int x :: st' => k (lset ls i (.int x)) st' h
  | _ => none
def kAst (i : Nat) (k : KK) : KK := fun ls st h => match st with
  | .ref x :: st' => k (lset ls i (.ref x)) st' h
  | .null :: st' => k (lset ls i .null) st' h
  | _ => none
def kInc (i : Nat) (d : Int32) (k : KK) : KK := fun ls st h => match ls[i]? with
  | some (.int x) => k (lset ls i (.int (x + d))) st h
  | _ => none
def kBin (f : Int32 → Int32 → Int32) (k : KK) : KK := fun ls st h => match st with
  | .int y :: .int x :: st' => k ls (.int (f x y) :: st') h
  | _ => none
def kDiv (f : Int32 → Int32 → Int32) (k : KK) : KK := fun ls st h => match st with
  | .int y :: .int x :: st' => if y = 0 then none else k ls (.int (f x y) :: st') h
  | _ => none
def kUn (f : Int32 → Int32) (k : KK) : KK := fun ls st h => match st with
  | .int x :: st' => k ls (.int (f x) :: st') h
  | _ => none
def kDup (k : KK) : KK := fun ls st h => match st with
  | v :: st' => k ls (v :: v :: st') h
  | _ => none
def kDup2 (k : KK) : KK := fun ls st h => match st with
  | v :: w :: st' => k ls (v :: w :: v :: w :: st') h
  | _ => none
def kPop (k : KK) : KK := fun ls st h => match st with
  | _ :: st' => k ls st' h
  | _ => none
def kIf (P : Int32 → Prop) [∀ x, Decidable (P x)] (k1 k2 : KK) : KK := fun ls st h => match st with
  | .int x :: st' => if P x then k1 ls st' h else k2 ls st' h
  | _ => none
def kIf2 (P : Int32 → Int32 → Prop) [∀ x y, Decidable (P x y)] (k1 k2 : KK) : KK := fun ls st h => match st with
  | .int y :: .int x :: st' => if P x y then k1 ls st' h else k2 ls st' h
  | _ => none
/-- k1 with null, k2 with a reference -/
def kIfN (k1 k2 : KK) : KK := fun ls st h => match st with
  | .null :: st' => k1 ls st' h
  | .ref _ :: st' => k2 ls st' h
  | _ => none
def kSw (lo : Int) (ks : List KK) (kd : KK) : KK := fun ls st h => match st with
  | .int x :: st' => if x.toInt < lo then kd ls st' h else match ks[(x.toInt - lo).toNat]? with
    | some k => k ls st' h
    | none => kd ls st' h
  | _ => none
def kRetV : KK := fun _ st h => match st with
  | [] => some (none, h)
  | _ => none
def kRetI : KK := fun _ st h => match st with
  | [.int x] => some (some (.int x), h)
  | _ => none
def kRetZ : KK := fun _ st h => match st with
  | [.int x] => if x = 0 ∨ x = 1 then some (some (.int x), h) else none
  | _ => none
def kRetA : KK := fun _ st h => match st with
  | [.ref a] => some (some (.ref a), h)
  | [.null] => some (some .null, h)
  | _ => none
/-- only the first n locals are known from here on -/
def kKeep (n : Nat) (k : KK) : KK := fun ls st h => k (ls.take n) st h
def kFix (b : KK → KK) : Nat → KK
  | 0 => fun _ _ _ => none
  | n + 1 => b (kFix b n)
section OKS
variable {l : Launch} {E : EN} {cc : ByteArray} {nL : Nat} {own : String} {ret : Option FieldType} {ini : Bool} {g pc tgt : Nat} {k k1 k2 kd : KK}
theorem ok_iconst {n : Int} {x : Int32} (hd : decode cc pc = .ok (.iconst n, 1)) (hv : Int32.ofInt n = x) (hk : OKm l E cc nL own ret ini g (pc + 1) k) : OKm l E cc nL own ret ini g pc (kConst x k) := by
  intro ls st h r h' ee wl ws wh
  unfold kConst at ee
  obtain ⟨hm, hw⟩ := hk _ _ _ _ _ ee wl ws.int wh
  exact ⟨hm, fun p e R s m args below meth c cx Q ad0 N0 mc ms hr ad H locs cells slots lsA hs => lv_iconst cx.1 cx.2.1 hd hv (hw p e R s m args below meth c cx Q ad0 N0 mc ms hr ad H locs cells slots lsA hs)⟩
theorem ok_bipush {n : Int} {x : Int32} (hd : decode cc pc = .ok (.bipush n, 2)) (hv : (Int8.ofInt n).toInt32 = x) (hk : OKm l E cc nL own ret ini g (pc + 2) k) : OKm l E cc nL own ret ini g pc (kConst x k) := by
  intro ls st h r h' ee wl ws wh
  unfold kConst at ee
  obtain ⟨hm, hw⟩ := hk _ _ _ _ _ ee wl ws.int wh
  exact ⟨hm, fun p e R s m args below meth c cx Q ad0 N0 mc ms hr ad H locs cells slots lsA hs => lv_bipush cx.1 cx.2.1 hd hv (hw p e R s m args below meth c cx Q ad0 N0 mc ms hr ad H locs cells slots lsA hs)⟩
theorem ok_sipush {n : Int} {x : Int32} (hd : decode cc pc = .ok (.sipush n, 3)) (hv : (Int16.ofInt n).toInt32 = x) (hk : OKm l E cc nL own ret ini g (pc + 3) k) : OKm l E cc nL own ret ini g pc (kConst x k) := by
  intro ls st h r h' ee wl ws wh
  unfold kConst at ee
  obtain ⟨hm, hw⟩ := hk _ _ _ _ _ ee wl ws.int wh
  exact ⟨hm, fun p e R s m args below meth c cx Q ad0 N0 mc ms hr ad H locs cells slots lsA hs => lv_sipush cx.1 cx.2.1 hd hv (hw p e R s m args below meth c cx Q ad0 N0 mc ms hr ad H locs cells slots lsA hs)⟩
theorem ok_ldc {i : Nat} {x : Int32} (hd : decode cc pc = .ok (.ldc i, 2)) (hc : Jvm.Cond.constant own i x ∈ TT) (hk : OKm l E cc nL own ret ini g (pc + 2) k) : OKm l E cc nL own ret ini g pc (kConst x k) := by
  intro ls st h r h' ee wl ws wh
  unfold kConst at ee
  obtain ⟨hm, hw⟩ := hk _ _ _ _ _ ee wl ws.int wh
  exact ⟨hm, fun p e R s m args below meth c cx Q ad0 N0 mc ms hr ad H locs cells slots lsA hs => lv_ldc cx.1 cx.2.1 cx.2.2.2.1 (cx.2.2.2.2.1 _ hc) hd (hw p e R s m args below meth c cx Q ad0 N0 mc ms hr ad H locs cells slots lsA hs)⟩
theorem ok_ldcw {i : Nat} {x : Int32} (hd : decode cc pc = .ok (.ldc_w i, 3)) (hc : Jvm.Cond.constant own i x ∈ TT) (hk : OKm l E cc nL own ret ini g (pc + 3) k) : OKm l E cc nL own ret ini g pc (kConst x k) := by
  intro ls st h r h' ee wl ws wh
  unfold kConst at ee
  obtain ⟨hm, hw⟩ := hk _ _ _ _ _ ee wl ws.int wh
  exact ⟨hm, fun p e R s m args below meth c cx Q ad0 N0 mc ms hr ad H locs cells slots lsA hs => lv_ldcw cx.1 cx.2.1 cx.2.2.2.1 (cx.2.2.2.2.1 _ hc) hd (hw p e R s m args below meth c cx Q ad0 N0 mc ms hr ad H locs cells slots lsA hs)⟩
theorem ok_null (hd : decode cc pc = .ok (.aconst_null, 1)) (hk : OKm l E cc nL own ret ini g (pc + 1) k) : OKm l E cc nL own ret ini g pc (kNull k) := by
  intro ls st h r h' ee wl ws wh
  unfold kNull at ee
  obtain ⟨hm, hw⟩ := hk _ _ _ _ _ ee wl (ws.cons rfl (fun _ e => by cases e)) wh
  exact ⟨hm, fun p e R s m args below meth c cx Q ad0 N0 mc ms hr ad H locs cells slots lsA hs => lv_null cx.1 cx.2.1 hd (hw p e R s m args below meth c cx Q ad0 N0 mc ms hr ad H locs cells slots lsA hs)⟩
theorem ok_iload {i : Nat} (hd : decode cc pc = .ok (.iload i, 2)) (hk : OKm l E cc nL own ret ini g (pc + 2) k) : OKm l E cc nL own ret ini g pc (kIld i k) := by
  intro ls st h r h' ee wl ws wh
  unfold kIld at ee
  split at ee
  case h_2 => cases ee
  rename_i x hx
  obtain ⟨hm, hw⟩ := hk _ _ _ _ _ ee wl ws.int wh
  exact ⟨hm, fun p e R s m args below meth c cx Q ad0 N0 mc ms hr ad H locs cells slots lsA hs => lv_iload cx.1 cx.2.1 hd (hs.2.2.2.2.2.2.2.2.2.2 _ _ hx rfl) (hw p e R s m args below meth c cx Q ad0 N0 mc ms hr ad H locs cells slots lsA hs)⟩
theorem ok_iload_n {q : Fin 4} (hd : decode cc pc = .ok (.iload_n q, 1)) (hk : OKm l E cc nL own ret ini g (pc + 1) k) : OKm l E cc nL own ret ini g pc (kIld q k) := by
  intro ls st h r h' ee wl ws wh
  unfold kIld at ee
  split at ee
  case h_2 => cases ee
  rename_i x hx
  obtain ⟨hm, hw⟩ := hk _ _ _ _ _ ee wl ws.int wh
  exact ⟨hm, fun p e R s m args below meth c cx Q ad0 N0 mc ms hr ad H locs cells slots lsA hs => lv_iload_n cx.1 cx.2.1 hd rfl (hs.2.2.2.2.2.2.2.2.2.2 _ _ hx rfl) (hw p e R s m args below meth c cx Q ad0 N0 mc ms hr ad H locs cells slots lsA hs)⟩
theorem ok_aload {i : Nat} (hd : decode cc pc = .ok (.aload i, 2)) (hk : OKm l E cc nL own ret ini g (pc + 2) k) : OKm l E cc nL own ret ini g pc (kAld i k) := by
  intro ls st h r h' ee wl ws wh
  unfold kAld at ee
  split at ee
  · rename_i x hx
    obtain ⟨hm, hw⟩ := hk _ _ _ _ _ ee wl (ws.cons rfl (wl.get hx)) wh
    exact ⟨hm, fun p e R s m args below meth c cx Q ad0 N0 mc ms hr ad H locs cells slots lsA hs => lv_aload cx.1 cx.2.1 hd (hs.2.2.2.2.2.2.2.2.2.2 _ _ hx rfl) (hw p e R s m args below meth c cx Q ad0 N0 mc ms hr ad H locs cells slots lsA hs)⟩
  · rename_i hx
    obtain ⟨hm, hw⟩ := hk _ _ _ _ _ ee wl (ws.cons rfl (fun _ e => by cases e)) wh
    exact ⟨hm, fun p e R s m args below meth c cx Q ad0 N0 mc ms hr ad H locs cells slots lsA hs => lv_aloadN cx.1 cx.2.1 hd (hs.2.2.2.2.2.2.2.2.2.2 _ _ hx rfl) (hw p e R s m args below meth c cx Q ad0 N0 mc ms hr ad H locs cells slots lsA hs)⟩
  · cases ee
theorem ok_aload_n {q : Fin 4} (hd : decode cc pc = .ok (.aload_n q, 1)) (hk : OKm l E cc nL own ret ini g (pc + 1) k) : OKm l E cc nL own ret ini g pc (kAld q k) := by
  intro ls st h r h' ee wl ws wh
  unfold kAld at ee
  split at ee
  · rename_i x hx
    obtain ⟨hm, hw⟩ := hk _ _ _ _ _ ee wl (ws.cons rfl (wl.get hx)) wh
    exact ⟨hm, fun p e R s m args below meth c cx Q ad0 N0 mc ms hr ad H locs cells slots lsA hs => lv_aload_n cx.1 cx.2.1 hd rfl (hs.2.2.2.2.2.2.2.2.2.2 _ _ hx rfl) (hw p e R s m args below meth c cx Q ad0 N0 mc ms hr ad H locs cells slots lsA hs)⟩
  · rename_i hx
    obtain ⟨hm, hw⟩ := hk _ _ _ _ _ ee wl (ws.cons rfl (fun _ e => by cases e)) wh
    exact ⟨hm, fun p e R s m args below meth c cx Q ad0 N0 mc ms hr ad H locs cells slots lsA hs => lv_aload_nN cx.1 cx.2.1 hd rfl (hs.2.2.2.2.2.2.2.2.2.2 _ _ hx rfl) (hw p e R s m args below meth c cx Q ad0 N0 mc ms hr ad H locs cells slots lsA hs)⟩
  · cases ee
theorem ok_istore {i : Nat} (hd : decode cc pc = .ok (.istore i, 2)) (hn : i < nL) (hk : OKm l E cc nL own ret ini g (pc + 2) k) : OKm l E cc nL own ret ini g pc (kIst i k) := by
  intro ls st h r h' ee wl ws wh
  unfold kIst at ee
  split at ee
  case h_2 => cases ee
  rename_i x st2
  obtain ⟨hm, hw⟩ := hk _ _ _ _ _ ee (wl.set (fun _ e => by cases e)) ws.tail wh
  exact ⟨hm, fun p e R s m args below meth c cx Q ad0 N0 mc ms hr ad H locs cells slots lsA hs => lv_istore cx.1 cx.2.1 hd hs.2.2.2.2.2.2.2.2.has hn rfl (fun ls' hl' => (hw p e R s m args below meth c cx Q ad0 N0 mc ms hr ad H locs cells slots ls' ⟨hs.1, hs.2.1, hs.2.2.1, hs.2.2.2.1, hs.2.2.2.2.1, hs.2.2.2.2.2.1, hs.2.2.2.2.2.2.1, hs.2.2.2.2.2.2.2.1, hs.2.2.2.2.2.2.2.2.store rfl hl'⟩))⟩
theorem ok_istore_n {q : Fin 4} (hd : decode cc pc = .ok (.istore_n q, 1)) (hn : (q : Nat) < nL) (hk : OKm l E cc nL own ret ini g (pc + 1) k) : OKm l E cc nL own ret ini g pc (kIst (q : Nat) k) := by
  intro ls st h r h' ee wl ws wh
  unfold kIst at ee
  split at ee
  case h_2 => cases ee
  rename_i x st2
  obtain ⟨hm, hw⟩ := hk _ _ _ _ _ ee (wl.set (fun _ e => by cases e)) ws.tail wh
  exact ⟨hm, fun p e R s m args below meth c cx Q ad0 N0 mc ms hr ad H locs cells slots lsA hs => lv_istore_n cx.1 cx.2.1 hd rfl hs.2.2.2.2.2.2.2.2.has hn rfl (fun ls' hl' => (hw p e R s m args below meth c cx Q ad0 N0 mc ms hr ad H locs cells slots ls' ⟨hs.1, hs.2.1, hs.2.2.1, hs.2.2.2.1, hs.2.2.2.2.1, hs.2.2.2.2.2.1, hs.2.2.2.2.2.2.1, hs.2.2.2.2.2.2.2.1, hs.2.2.2.2.2.2.2.2.store rfl hl'⟩))⟩
theorem ok_astore {i : Nat} (hd : decode cc pc = .ok (.astore i, 2)) (hn : i < nL) (hk : OKm l E cc nL own ret ini g (pc + 2) k) : OKm l E cc nL own ret ini g pc (kAst i k) := by
  intro ls st h r h' ee wl ws wh
  unfold kAst at ee
  split at ee
  · rename_i x st2
    obtain ⟨hm, hw⟩ := hk _ _ _ _ _ ee (wl.set ws.head.2) ws.tail wh
    exact ⟨hm, fun p e R s m args below meth c cx Q ad0 N0 mc ms hr ad H locs cells slots lsA hs => lv_astore cx.1 cx.2.1 hd hs.2.2.2.2.2.2.2.2.has hn rfl (fun ls' hl' => (hw p e R s m args below meth c cx Q ad0 N0 mc ms hr ad H locs cells slots ls' ⟨hs.1, hs.2.1, hs.2.2.1, hs.2.2.2.1, hs.2.2.2.2.1, hs.2.2.2.2.2.1, hs.2.2.2.2.2.2.1, hs.2.2.2.2.2.2.2.1, hs.2.2.2.2.2.2.2.2.store rfl hl'⟩))⟩
  · rename_i st2
    obtain ⟨hm, hw⟩ := hk _ _ _ _ _ ee (wl.set ws.head.2) ws.tail wh
    exact ⟨hm, fun p e R s m args below meth c cx Q ad0 N0 mc ms hr ad H locs cells slots lsA hs => lv_astoreN cx.1 cx.2.1 hd hs.2.2.2.2.2.2.2.2.has hn rfl (fun ls' hl' => (hw p e R s m args below meth c cx Q ad0 N0 mc ms hr ad H locs cells slots ls' ⟨hs.1, hs.2.1, hs.2.2.1, hs.2.2.2.1, hs.2.2.2.2.1, hs.2.2.2.2.2.1, hs.2.2.2.2.2.2.1, hs.2.2.2.2.2.2.2.1, hs.2.2.2.2.2.2.2.2.store rfl hl'⟩))⟩
  · cases ee
theorem ok_astore_n {q : Fin 4} (hd : decode cc pc = .ok (.astore_n q, 1)) (hn : (q : Nat) < nL) (hk : OKm l E cc nL own ret ini g (pc + 1) k) : OKm l E cc nL own ret ini g pc (kAst (q : Nat) k) := by
  intro ls st h r h' ee wl ws wh
  unfold kAst at ee
  split at ee
  · rename_i x st2
    obtain ⟨hm, hw⟩ := hk _ _ _ _ _ ee (wl.set ws.head.2) ws.tail wh
    exact ⟨hm, fun p e R s m args below meth c cx Q ad0 N0 mc ms hr ad H locs cells slots lsA hs => lv_astore_n cx.1 cx.2.1 hd rfl hs.2.2.2.2.2.2.2.2.has hn rfl (fun ls' hl' => (hw p e R s m args below meth c cx Q ad0 N0 mc ms hr ad H locs cells slots ls' ⟨hs.1, hs.2.1, hs.2.2.1, hs.2.2.2.1, hs.2.2.2.2.1, hs.2.2.2.2.2.1, hs.2.2.2.2.2.2.1, hs.2.2.2.2.2.2.2.1, hs.2.2.2.2.2.2.2.2.store rfl hl'⟩))⟩
  · rename_i st2
    obtain ⟨hm, hw⟩ := hk _ _ _ _ _ ee (wl.set ws.head.2) ws.tail wh
    exact ⟨hm, fun p e R s m args below meth c cx Q ad0 N0 mc ms hr ad H locs cells slots lsA hs => lv_astore_nN cx.1 cx.2.1 hd rfl hs.2.2.2.2.2.2.2.2.has hn rfl (fun ls' hl' => (hw p e R s m args below meth c cx Q ad0 N0 mc ms hr ad H locs cells slots ls' ⟨hs.1, hs.2.1, hs.2.2.1, hs.2.2.2.1, hs.2.2.2.2.1, hs.2.2.2.2.2.1, hs.2.2.2.2.2.2.1, hs.2.2.2.2.2.2.2.1, hs.2.2.2.2.2.2.2.2.store rfl hl'⟩))⟩
  · cases ee
theorem fullL_at {ad : Nat → Nat} {ls : List Value} {i : Nat} {v : Value} (h : ls[i]? = some v) (hc : v.category = 1) : ∃ k : Nat, (fullL ad 0 ls)[k]? = some (i, vmap ad v) := by
  have h2 := fullL_mem (ad := ad) ls 0 i v h hc
  rw [Nat.zero_add] at h2
  exact List.getElem?_of_mem h2
theorem ok_iinc {i : Nat} {n : Int} {d : Int32} (hd : decode cc pc = .ok (.iinc i n, 3)) (hn : i < nL) (hv : Int32.ofInt n = d) (hk : OKm l E cc nL own ret ini g (pc + 3) k) : OKm l E cc nL own ret ini g pc (kInc i d k) := by
  intro ls st h r h' ee wl ws wh
  unfold kInc at ee
  split at ee
  case h_2 => cases ee
  rename_i x hx
  subst hv
  obtain ⟨hm, hw⟩ := hk _ _ _ _ _ ee (wl.set (fun _ e => by cases e)) ws wh
  refine ⟨hm, fun p e R s m args below meth c cx Q ad0 N0 mc ms hr ad H locs cells slots lsA hs => ?_⟩
  obtain ⟨kk, hkk⟩ := fullL_at (ad := ad) hx rfl
  exact lv_iinc cx.1 cx.2.1 hd hs.2.2.2.2.2.2.2.2.has hkk rfl hn rfl (fun ls' hl' => (hw p e R s m args below meth c cx Q ad0 N0 mc ms hr ad H locs cells slots ls' ⟨hs.1, hs.2.1, hs.2.2.1, hs.2.2.2.1, hs.2.2.2.2.1, hs.2.2.2.2.2.1, hs.2.2.2.2.2.2.1, hs.2.2.2.2.2.2.2.1, hs.2.2.2.2.2.2.2.2.store rfl hl'⟩))
theorem ok_iadd (hd : decode cc pc = .ok (.iadd, 1)) (hk : OKm l E cc nL own ret ini g (pc + 1) k) : OKm l E cc nL own ret ini g pc (kBin (fun x y => x + y) k) := by
  intro ls st h r h' ee wl ws wh
  unfold kBin at ee
  split at ee
  case h_2 => cases ee
  rename_i y x st2
  obtain ⟨hm, hw⟩ := hk _ _ _ _ _ ee wl ws.tail.tail.int wh
  exact ⟨hm, fun p e R s m args below meth c cx Q ad0 N0 mc ms hr ad H locs cells slots lsA hs => lv_iadd cx.1 cx.2.1 hd (hw p e R s m args below meth c cx Q ad0 N0 mc ms hr ad H locs cells slots lsA hs)⟩
theorem ok_isub (hd : decode cc pc = .ok (.isub, 1)) (hk : OKm l E cc nL own ret ini g (pc + 1) k) : OKm l E cc nL own ret ini g pc (kBin (fun x y => x - y) k) := by
  intro ls st h r h' ee wl ws wh
  unfold kBin at ee
  split at ee
  case h_2 => cases ee
  rename_i y x st2
  obtain ⟨hm, hw⟩ := hk _ _ _ _ _ ee wl ws.tail.tail.int wh
  exact ⟨hm, fun p e R s m args below meth c cx Q ad0 N0 mc ms hr ad H locs cells slots lsA hs => lv_isub cx.1 cx.2.1 hd (hw p e R s m args below meth c cx Q ad0 N0 mc ms hr ad H locs cells slots lsA hs)⟩
theorem ok_imul (hd : decode cc pc = .ok (.imul, 1)) (hk : OKm l E cc nL own ret ini g (pc + 1) k) : OKm l E cc nL own ret ini g pc (kBin (fun x y => x * y) k) := by
  intro ls st h r h' ee wl ws wh
  unfold kBin at ee
  split at ee
  case h_2 => cases ee
  rename_i y x st2
  obtain ⟨hm, hw⟩ := hk _ _ _ _ _ ee wl ws.tail.tail.int wh
  exact ⟨hm, fun p e R s m args below meth c cx Q ad0 N0 mc ms hr ad H locs cells slots lsA hs => lv_imul cx.1 cx.2.1 hd (hw p e R s m args below meth c cx Q ad0 N0 mc ms hr ad H locs cells slots lsA hs)⟩
theorem ok_iand (hd : decode cc pc = .ok (.iand, 1)) (hk : OKm l E cc nL own ret ini g (pc + 1) k) : OKm l E cc nL own ret ini g pc (kBin (fun x y => x &&& y) k) := by
  intro ls st h r h' ee wl ws wh
  unfold kBin at ee
  split at ee
  case h_2 => cases ee
  rename_i y x st2
  obtain ⟨hm, hw⟩ := hk _ _ _ _ _ ee wl ws.tail.tail.int wh
  exact ⟨hm, fun p e R s m args below meth c cx Q ad0 N0 mc ms hr ad H locs cells slots lsA hs => lv_iand cx.1 cx.2.1 hd (hw p e R s m args below meth c cx Q ad0 N0 mc ms hr ad H locs cells slots lsA hs)⟩
theorem ok_ior (hd : decode cc pc = .ok (.ior, 1)) (hk : OKm l E cc nL own ret ini g (pc + 1) k) : OKm l E cc nL own ret ini g pc (kBin (fun x y => x ||| y) k) := by
  intro ls st h r h' ee wl ws wh
  unfold kBin at ee
  split at ee
  case h_2 => cases ee
  rename_i y x st2
  obtain ⟨hm, hw⟩ := hk _ _ _ _ _ ee wl ws.tail.tail.int wh
  exact ⟨hm, fun p e R s m args below meth c cx Q ad0 N0 mc ms hr ad H locs cells slots lsA hs => lv_ior cx.1 cx.2.1 hd (hw p e R s m args below meth c cx Q ad0 N0 mc ms hr ad H locs cells slots lsA hs)⟩
theorem ok_ixor (hd : decode cc pc = .ok (.ixor, 1)) (hk : OKm l E cc nL own ret ini g (pc + 1) k) : OKm l E cc nL own ret ini g pc (kBin (fun x y => x ^^^ y) k) := by
  intro ls st h r h' ee wl ws wh
  unfold kBin at ee
  split at ee
  case h_2 => cases ee
  rename_i y x st2
  obtain ⟨hm, hw⟩ := hk _ _ _ _ _ ee wl ws.tail.tail.int wh
  exact ⟨hm, fun p e R s m args below meth c cx Q ad0 N0 mc ms hr ad H locs cells slots lsA hs => lv_ixor cx.1 cx.2.1 hd (hw p e R s m args below meth c cx Q ad0 N0 mc ms hr ad H locs cells slots lsA hs)⟩
theorem ok_ishl (hd : decode cc pc = .ok (.ishl, 1)) (hk : OKm l E cc nL own ret ini g (pc + 1) k) : OKm l E cc nL own ret ini g pc (kBin (fun x y => x <<< (y &&& 31)) k) := by
  intro ls st h r h' ee wl ws wh
  unfold kBin at ee
  split at ee
  case h_2 => cases ee
  rename_i y x st2
  obtain ⟨hm, hw⟩ := hk _ _ _ _ _ ee wl ws.tail.tail.int wh
  exact ⟨hm, fun p e R s m args below meth c cx Q ad0 N0 mc ms hr ad H locs cells slots lsA hs => lv_ishl cx.1 cx.2.1 hd (hw p e R s m args below meth c cx Q ad0 N0 mc ms hr ad H locs cells slots lsA hs)⟩
theorem ok_ishr (hd : decode cc pc = .ok (.ishr, 1)) (hk : OKm l E cc nL own ret ini g (pc + 1) k) : OKm l E cc nL own ret ini g pc (kBin (fun x y => x >>> (y &&& 31)) k) := by
  intro ls st h r h' ee wl ws wh
  unfold kBin at ee
  split at ee
  case h_2 => cases ee
  rename_i y x st2
  obtain ⟨hm, hw⟩ := hk _ _ _ _ _ ee wl ws.tail.tail.int wh
  exact ⟨hm, fun p e R s m args below meth c cx Q ad0 N0 mc ms hr ad H locs cells slots lsA hs => lv_ishr cx.1 cx.2.1 hd (hw p e R s m args below meth c cx Q ad0 N0 mc ms hr ad H locs cells slots lsA hs)⟩
theorem ok_iushr (hd : decode cc pc = .ok (.iushr, 1)) (hk : OKm l E cc nL own ret ini g (pc + 1) k) : OKm l E cc nL own ret ini g pc (kBin (fun x y => (x.toUInt32 >>> (y.toUInt32 &&& Int32.toUInt32 31)).toInt32) k) := by
  intro ls st h r h' ee wl ws wh
  unfold kBin at ee
  split at ee
  case h_2 => cases ee
  rename_i y x st2
  obtain ⟨hm, hw⟩ := hk _ _ _ _ _ ee wl ws.tail.tail.int wh
  exact ⟨hm, fun p e R s m args below meth c cx Q ad0 N0 mc ms hr ad H locs cells slots lsA hs => lv_iushr cx.1 cx.2.1 hd rfl (hw p e R s m args below meth c cx Q ad0 N0 mc ms hr ad H locs cells slots lsA hs)⟩
theorem ok_idiv (hd : decode cc pc = .ok (.idiv, 1)) (hk : OKm l E cc nL own ret ini g (pc + 1) k) : OKm l E cc nL own ret ini g pc (kDiv (fun x y => x / y) k) := by
  intro ls st h r h' ee wl ws wh
  unfold kDiv at ee
  split at ee
  case h_2 => cases ee
  rename_i y x st2
  split at ee
  · cases ee
  rename_i hy
  obtain ⟨hm, hw⟩ := hk _ _ _ _ _ ee wl ws.tail.tail.int wh
  exact ⟨hm, fun p e R s m args below meth c cx Q ad0 N0 mc ms hr ad H locs cells slots lsA hs => lv_idiv cx.1 cx.2.1 hd hy (hw p e R s m args below meth c cx Q ad0 N0 mc ms hr ad H locs cells slots lsA hs)⟩
theorem ok_irem (hd : decode cc pc = .ok (.irem, 1)) (hk : OKm l E cc nL own ret ini g (pc + 1) k) : OKm l E cc nL own ret ini g pc (kDiv (fun x y => x - x / y * y) k) := by
  intro ls st h r h' ee wl ws wh
  unfold kDiv at ee
  split at ee
  case h_2 => cases ee
  rename_i y x st2
  split at ee
  · cases ee
  rename_i hy
  obtain ⟨hm, hw⟩ := hk _ _ _ _ _ ee wl ws.tail.tail.int wh
  exact ⟨hm, fun p e R s m args below meth c cx Q ad0 N0 mc ms hr ad H locs cells slots lsA hs => lv_irem cx.1 cx.2.1 hd hy (hw p e R s m args below meth c cx Q ad0 N0 mc ms hr ad H locs cells slots lsA hs)⟩
theorem ok_ineg (hd : decode cc pc = .ok (.ineg, 1)) (hk : OKm l E cc nL own ret ini g (pc + 1) k) : OKm l E cc nL own ret ini g pc (kUn (fun x => -x) k) := by
  intro ls st h r h' ee wl ws wh
  unfold kUn at ee
  split at ee
  case h_2 => cases ee
  rename_i x st2
  obtain ⟨hm, hw⟩ := hk _ _ _ _ _ ee wl ws.tail.int wh
  exact ⟨hm, fun p e R s m args below meth c cx Q ad0 N0 mc ms hr ad H locs cells slots lsA hs => lv_ineg cx.1 cx.2.1 hd (hw p e R s m args below meth c cx Q ad0 N0 mc ms hr ad H locs cells slots lsA hs)⟩
theorem ok_i2c (hd : decode cc pc = .ok (.i2c, 1)) (hk : OKm l E cc nL own ret ini g (pc + 1) k) : OKm l E cc nL own ret ini g pc (kUn (fun x => (x.toUInt32 % 65536).toInt32) k) := by
  intro ls st h r h' ee wl ws wh
  unfold kUn at ee
  split at ee
  case h_2 => cases ee
  rename_i x st2
  obtain ⟨hm, hw⟩ := hk _ _ _ _ _ ee wl ws.tail.int wh
  exact ⟨hm, fun p e R s m args below meth c cx Q ad0 N0 mc ms hr ad H locs cells slots lsA hs => lv_i2c cx.1 cx.2.1 hd rfl (hw p e R s m args below meth c cx Q ad0 N0 mc ms hr ad H locs cells slots lsA hs)⟩
theorem ok_i2b (hd : decode cc pc = .ok (.i2b, 1)) (hk : OKm l E cc nL own ret ini g (pc + 1) k) : OKm l E cc nL own ret ini g pc (kUn (fun x => x.toInt8.toInt32) k) := by
  intro ls st h r h' ee wl ws wh
  unfold kUn at ee
  split at ee
  case h_2 => cases ee
  rename_i x st2
  obtain ⟨hm, hw⟩ := hk _ _ _ _ _ ee wl ws.tail.int wh
  exact ⟨hm, fun p e R s m args below meth c cx Q ad0 N0 mc ms hr ad H locs cells slots lsA hs => lv_i2b cx.1 cx.2.1 hd rfl (hw p e R s m args below meth c cx Q ad0 N0 mc ms hr ad H locs cells slots lsA hs)⟩
theorem ok_dup (hd : decode cc pc = .ok (.dup, 1)) (hk : OKm l E cc nL own ret ini g (pc + 1) k) : OKm l E cc nL own ret ini g pc (kDup k) := by
  intro ls st h r h' ee wl ws wh
  unfold kDup at ee
  split at ee
  case h_2 => cases ee
  rename_i v st2
  obtain ⟨hm, hw⟩ := hk _ _ _ _ _ ee wl (ws.cons ws.head.1 ws.head.2) wh
  exact ⟨hm, fun p e R s m args below meth c cx Q ad0 N0 mc ms hr ad H locs cells slots lsA hs => lv_dup cx.1 cx.2.1 hd ((vmap_cat _ _).trans ws.head.1) (hw p e R s m args below meth c cx Q ad0 N0 mc ms hr ad H locs cells slots lsA hs)⟩
theorem ok_dup2 (hd : decode cc pc = .ok (.dup2, 1)) (hk : OKm l E cc nL own ret ini g (pc + 1) k) : OKm l E cc nL own ret ini g pc (kDup2 k) := by
  intro ls st h r h' ee wl ws wh
  unfold kDup2 at ee
  split at ee
  case h_2 => cases ee
  rename_i v w st2
  obtain ⟨hm, hw⟩ := hk _ _ _ _ _ ee wl ((ws.cons ws.tail.head.1 ws.tail.head.2).cons ws.head.1 ws.head.2) wh
  exact ⟨hm, fun p e R s m args below meth c cx Q ad0 N0 mc ms hr ad H locs cells slots lsA hs => lv_dup2_11 cx.1 cx.2.1 hd ((vmap_cat _ _).trans ws.head.1) ((vmap_cat _ _).trans ws.tail.head.1) (hw p e R s m args below meth c cx Q ad0 N0 mc ms hr ad H locs cells slots lsA hs)⟩
theorem ok_pop (hd : decode cc pc = .ok (.pop, 1)) (hk : OKm l E cc nL own ret ini g (pc + 1) k) : OKm l E cc nL own ret ini g pc (kPop k) := by
  intro ls st h r h' ee wl ws wh
  unfold kPop at ee
  split at ee
  case h_2 => cases ee
  rename_i v st2
  obtain ⟨hm, hw⟩ := hk _ _ _ _ _ ee wl ws.tail wh
  exact ⟨hm, fun p e R s m args below meth c cx Q ad0 N0 mc ms hr ad H locs cells slots lsA hs => lv_pop cx.1 cx.2.1 hd ((vmap_cat _ _).trans ws.head.1) (hw p e R s m args below meth c cx Q ad0 N0 mc ms hr ad H locs cells slots lsA hs)⟩
theorem ok_goto {off : Int} (hd : decode cc pc = .ok (.goto off, 3)) (ht : (pc : Int) + off = (tgt : Int)) (hk : OKm l E cc nL own ret ini g tgt k) : OKm l E cc nL own ret ini g pc (k) := by
  intro ls st h r h' ee wl ws wh
  obtain ⟨hm, hw⟩ := hk _ _ _ _ _ ee wl ws wh
  exact ⟨hm, fun p e R s m args below meth c cx Q ad0 N0 mc ms hr ad H locs cells slots lsA hs => lv_goto cx.1 cx.2.1 hd ht (hw p e R s m args below meth c cx Q ad0 N0 mc ms hr ad H locs cells slots lsA hs)⟩
theorem LH.take {lsA : Array Slot} {ad : Nat → Nat} {ls : List Value} (n : Nat) (h : LH lsA nL ad ls) : LH lsA nL ad (ls.take n) := ⟨h.1, h.2.1, fun i v hv hc => h.2.2 i v (by rw [List.getElem?_take] at hv; split at hv; exact hv; cases hv) hc⟩
theorem ok_keep {n : Nat} (hk : OKm l E cc nL own ret ini g pc k) : OKm l E cc nL own ret ini g pc (kKeep n k) := by
  intro ls st h r h' ee wl ws wh
  obtain ⟨hm, hw⟩ := hk _ _ _ _ _ ee (fun v hv => wl v (List.mem_of_mem_take hv)) ws wh
  exact ⟨hm, fun p e R s m args below meth c cx Q ad0 N0 mc ms hr ad H locs cells slots lsA hs => hw p e R s m args below meth c cx Q ad0 N0 mc ms hr ad H locs cells slots lsA ⟨hs.1, hs.2.1, hs.2.2.1, hs.2.2.2.1, hs.2.2.2.2.1, hs.2.2.2.2.2.1, hs.2.2.2.2.2.2.1, hs.2.2.2.2.2.2.2.1, hs.2.2.2.2.2.2.2.2.take n⟩⟩
theorem ok_none : OKm l E cc nL own ret ini g pc (fun _ _ _ => none) := by
  intro ls st h r h' ee
  cases ee
theorem ok_fix {b : KK → KK} (hb : ∀ k, OKm l E cc nL own ret ini g pc k → OKm l E cc nL own ret ini g pc (b k)) : ∀ n, OKm l E cc nL own ret ini g pc (kFix b n)
  | 0 => ok_none
  | n + 1 => hb _ (ok_fix hb n)
theorem ok_if_eq {off : Int} (hd : decode cc pc = .ok (.ifCond .eq off, 3)) (ht : (pc : Int) + off = (tgt : Int)) (hk1 : OKm l E cc nL own ret ini g tgt k1) (hk2 : OKm l E cc nL own ret ini g (pc + 3) k2) : OKm l E cc nL own ret ini g pc (kIf (fun x => x = 0) k1 k2) := by
  intro ls st h r h' ee wl ws wh
  unfold kIf at ee
  split at ee
  case h_2 => cases ee
  rename_i x st2
  split at ee
  · rename_i hc
    obtain ⟨hm, hw⟩ := hk1 _ _ _ _ _ ee wl ws.tail wh
    exact ⟨hm, fun p e R s m args below meth c cx Q ad0 N0 mc ms hr ad H locs cells slots lsA hs => lv_if_eq cx.1 cx.2.1 hd ht (fun _ => (hw p e R s m args below meth c cx Q ad0 N0 mc ms hr ad H locs cells slots lsA hs)) (fun hn => absurd hc hn)⟩
  · rename_i hc
    obtain ⟨hm, hw⟩ := hk2 _ _ _ _ _ ee wl ws.tail wh
    exact ⟨hm, fun p e R s m args below meth c cx Q ad0 N0 mc ms hr ad H locs cells slots lsA hs => lv_if_eq cx.1 cx.2.1 hd ht (fun hn => absurd hn hc) (fun _ => (hw p e R s m args below meth c cx Q ad0 N0 mc ms hr ad H locs cells slots lsA hs))⟩
theorem ok_if_ne {off : Int} (hd : decode cc pc = .ok (.ifCond .ne off, 3)) (ht : (pc : Int) + off = (tgt : Int)) (hk1 : OKm l E cc nL own ret ini g tgt k1) (hk2 : OKm l E cc nL own ret ini g (pc + 3) k2) : OKm l E cc nL own ret ini g pc (kIf (fun x => x ≠ 0) k1 k2) := by
  intro ls st h r h' ee wl ws wh
  unfold kIf at ee
  split at ee
  case h_2 => cases ee
  rename_i x st2
  split at ee
  · rename_i hc
    obtain ⟨hm, hw⟩ := hk1 _ _ _ _ _ ee wl ws.tail wh
    exact ⟨hm, fun p e R s m args below meth c cx Q ad0 N0 mc ms hr ad H locs cells slots lsA hs => lv_if_ne cx.1 cx.2.1 hd ht (fun _ => (hw p e R s m args below meth c cx Q ad0 N0 mc ms hr ad H locs cells slots lsA hs)) (fun hn => absurd hn hc)⟩
  · rename_i hc
    obtain ⟨hm, hw⟩ := hk2 _ _ _ _ _ ee wl ws.tail wh
    exact ⟨hm, fun p e R s m args below meth c cx Q ad0 N0 mc ms hr ad H locs cells slots lsA hs => lv_if_ne cx.1 cx.2.1 hd ht (fun hn => absurd hn hc) (fun _ => (hw p e R s m args below meth c cx Q ad0 N0 mc ms hr ad H locs cells slots lsA hs))⟩
theorem ok_if_lt {off : Int} (hd : decode cc pc = .ok (.ifCond .lt off, 3)) (ht : (pc : Int) + off = (tgt : Int)) (hk1 : OKm l E cc nL own ret ini g tgt k1) (hk2 : OKm l E cc nL own ret ini g (pc + 3) k2) : OKm l E cc nL own ret ini g pc (kIf (fun x => x < 0) k1 k2) := by
  intro ls st h r h' ee wl ws wh
  unfold kIf at ee
  split at ee
  case h_2 => cases ee
  rename_i x st2
  split at ee
  · rename_i hc
    obtain ⟨hm, hw⟩ := hk1 _ _ _ _ _ ee wl ws.tail wh
    exact ⟨hm, fun p e R s m args below meth c cx Q ad0 N0 mc ms hr ad H locs cells slots lsA hs => lv_if_lt cx.1 cx.2.1 hd ht (fun _ => (hw p e R s m args below meth c cx Q ad0 N0 mc ms hr ad H locs cells slots lsA hs)) (fun hn => absurd hc hn)⟩
  · rename_i hc
    obtain ⟨hm, hw⟩ := hk2 _ _ _ _ _ ee wl ws.tail wh
    exact ⟨hm, fun p e R s m args below meth c cx Q ad0 N0 mc ms hr ad H locs cells slots lsA hs => lv_if_lt cx.1 cx.2.1 hd ht (fun hn => absurd hn hc) (fun _ => (hw p e R s m args below meth c cx Q ad0 N0 mc ms hr ad H locs cells slots lsA hs))⟩
theorem ok_if_ge {off : Int} (hd : decode cc pc = .ok (.ifCond .ge off, 3)) (ht : (pc : Int) + off = (tgt : Int)) (hk1 : OKm l E cc nL own ret ini g tgt k1) (hk2 : OKm l E cc nL own ret ini g (pc + 3) k2) : OKm l E cc nL own ret ini g pc (kIf (fun x => 0 ≤ x) k1 k2) := by
  intro ls st h r h' ee wl ws wh
  unfold kIf at ee
  split at ee
  case h_2 => cases ee
  rename_i x st2
  split at ee
  · rename_i hc
    obtain ⟨hm, hw⟩ := hk1 _ _ _ _ _ ee wl ws.tail wh
    exact ⟨hm, fun p e R s m args below meth c cx Q ad0 N0 mc ms hr ad H locs cells slots lsA hs => lv_if_ge cx.1 cx.2.1 hd ht (fun _ => (hw p e R s m args below meth c cx Q ad0 N0 mc ms hr ad H locs cells slots lsA hs)) (fun hn => absurd hc hn)⟩
  · rename_i hc
    obtain ⟨hm, hw⟩ := hk2 _ _ _ _ _ ee wl ws.tail wh
    exact ⟨hm, fun p e R s m args below meth c cx Q ad0 N0 mc ms hr ad H locs cells slots lsA hs => lv_if_ge cx.1 cx.2.1 hd ht (fun hn => absurd hn hc) (fun _ => (hw p e R s m args below meth c cx Q ad0 N0 mc ms hr ad H locs cells slots lsA hs))⟩
theorem ok_if_gt {off : Int} (hd : decode cc pc = .ok (.ifCond .gt off, 3)) (ht : (pc : Int) + off = (tgt : Int)) (hk1 : OKm l E cc nL own ret ini g tgt k1) (hk2 : OKm l E cc nL own ret ini g (pc + 3) k2) : OKm l E cc nL own ret ini g pc (kIf (fun x => 0 < x) k1 k2) := by
  intro ls st h r h' ee wl ws wh
  unfold kIf at ee
  split at ee
  case h_2 => cases ee
  rename_i x st2
  split at ee
  · rename_i hc
    obtain ⟨hm, hw⟩ := hk1 _ _ _ _ _ ee wl ws.tail wh
    exact ⟨hm, fun p e R s m args below meth c cx Q ad0 N0 mc ms hr ad H locs cells slots lsA hs => lv_if_gt cx.1 cx.2.1 hd ht (fun _ => (hw p e R s m args below meth c cx Q ad0 N0 mc ms hr ad H locs cells slots lsA hs)) (fun hn => absurd hc hn)⟩
  · rename_i hc
    obtain ⟨hm, hw⟩ := hk2 _ _ _ _ _ ee wl ws.tail wh
    exact ⟨hm, fun p e R s m args below meth c cx Q ad0 N0 mc ms hr ad H locs cells slots lsA hs => lv_if_gt cx.1 cx.2.1 hd ht (fun hn => absurd hn hc) (fun _ => (hw p e R s m args below meth c cx Q ad0 N0 mc ms hr ad H locs cells slots lsA hs))⟩
theorem ok_if_le {off : Int} (hd : decode cc pc = .ok (.ifCond .le off, 3)) (ht : (pc : Int) + off = (tgt : Int)) (hk1 : OKm l E cc nL own ret ini g tgt k1) (hk2 : OKm l E cc nL own ret ini g (pc + 3) k2) : OKm l E cc nL own ret ini g pc (kIf (fun x => x ≤ 0) k1 k2) := by
  intro ls st h r h' ee wl ws wh
  unfold kIf at ee
  split at ee
  case h_2 => cases ee
  rename_i x st2
  split at ee
  · rename_i hc
    obtain ⟨hm, hw⟩ := hk1 _ _ _ _ _ ee wl ws.tail wh
    exact ⟨hm, fun p e R s m args below meth c cx Q ad0 N0 mc ms hr ad H locs cells slots lsA hs => lv_if_le cx.1 cx.2.1 hd ht (fun _ => (hw p e R s m args below meth c cx Q ad0 N0 mc ms hr ad H locs cells slots lsA hs)) (fun hn => absurd hc hn)⟩
  · rename_i hc
    obtain ⟨hm, hw⟩ := hk2 _ _ _ _ _ ee wl ws.tail wh
    exact ⟨hm, fun p e R s m args below meth c cx Q ad0 N0 mc ms hr ad H locs cells slots lsA hs => lv_if_le cx.1 cx.2.1 hd ht (fun hn => absurd hn hc) (fun _ => (hw p e R s m args below meth c cx Q ad0 N0 mc ms hr ad H locs cells slots lsA hs))⟩
theorem ok_icmp_eq {off : Int} (hd : decode cc pc = .ok (.if_icmp .eq off, 3)) (ht : (pc : Int) + off = (tgt : Int)) (hk1 : OKm l E cc nL own ret ini g tgt k1) (hk2 : OKm l E cc nL own ret ini g (pc + 3) k2) : OKm l E cc nL own ret ini g pc (kIf2 (fun x y => x = y) k1 k2) := by
  intro ls st h r h' ee wl ws wh
  unfold kIf2 at ee
  split at ee
  case h_2 => cases ee
  rename_i y x st2
  split at ee
  · rename_i hc
    obtain ⟨hm, hw⟩ := hk1 _ _ _ _ _ ee wl ws.tail.tail wh
    exact ⟨hm, fun p e R s m args below meth c cx Q ad0 N0 mc ms hr ad H locs cells slots lsA hs => lv_icmp_eq cx.1 cx.2.1 hd ht (fun _ => (hw p e R s m args below meth c cx Q ad0 N0 mc ms hr ad H locs cells slots lsA hs)) (fun hn => absurd hc hn)⟩
  · rename_i hc
    obtain ⟨hm, hw⟩ := hk2 _ _ _ _ _ ee wl ws.tail.tail wh
    exact ⟨hm, fun p e R s m args below meth c cx Q ad0 N0 mc ms hr ad H locs cells slots lsA hs => lv_icmp_eq cx.1 cx.2.1 hd ht (fun hn => absurd hn hc) (fun _ => (hw p e R s m args below meth c cx Q ad0 N0 mc ms hr ad H locs cells slots lsA hs))⟩
theorem ok_icmp_ne {off : Int} (hd : decode cc pc = .ok (.if_icmp .ne off, 3)) (ht : (pc : Int) + off = (tgt : Int)) (hk1 : OKm l E cc nL own ret ini g tgt k1) (hk2 : OKm l E cc nL own ret ini g (pc + 3) k2) : OKm l E cc nL own ret ini g pc (kIf2 (fun x y => x ≠ y) k1 k2) := by
  intro ls st h r h' ee wl ws wh
  unfold kIf2 at ee
  split at ee
  case h_2 => cases ee
  rename_i y x st2
  split at ee
  · rename_i hc
    obtain ⟨hm, hw⟩ := hk1 _ _ _ _ _ ee wl ws.tail.tail wh
    exact ⟨hm, fun p e R s m args below meth c cx Q ad0 N0 mc ms hr ad H locs cells slots lsA hs => lv_icmp_ne cx.1 cx.2.1 hd ht (fun _ => (hw p e R s m args below meth c cx Q ad0 N0 mc ms hr ad H locs cells slots lsA hs)) (fun hn => absurd hn hc)⟩
  · rename_i hc
    obtain ⟨hm, hw⟩ := hk2 _ _ _ _ _ ee wl ws.tail.tail wh
    exact ⟨hm, fun p e R s m args below meth c cx Q ad0 N0 mc ms hr ad H locs cells slots lsA hs => lv_icmp_ne cx.1 cx.2.1 hd ht (fun hn => absurd hn hc) (fun _ => (hw p e R s m args below meth c cx Q ad0 N0 mc ms hr ad H locs cells slots lsA hs))⟩
theorem ok_icmp_lt {off : Int} (hd : decode cc pc = .ok (.if_icmp .lt off, 3)) (ht : (pc : Int) + off = (tgt : Int)) (hk1 : OKm l E cc nL own ret ini g tgt k1) (hk2 : OKm l E cc nL own ret ini g (pc + 3) k2) : OKm l E cc nL own ret ini g pc (kIf2 (fun x y => x < y) k1 k2) := by
  intro ls st h r h' ee wl ws wh
  unfold kIf2 at ee
  split at ee
  case h_2 => cases ee
  rename_i y x st2
  split at ee
  · rename_i hc
    obtain ⟨hm, hw⟩ := hk1 _ _ _ _ _ ee wl ws.tail.tail wh
    exact ⟨hm, fun p e R s m args below meth c cx Q ad0 N0 mc ms hr ad H locs cells slots lsA hs => lv_icmp_lt cx.1 cx.2.1 hd ht (fun _ => (hw p e R s m args below meth c cx Q ad0 N0 mc ms hr ad H locs cells slots lsA hs)) (fun hn => absurd hc hn)⟩
  · rename_i hc
    obtain ⟨hm, hw⟩ := hk2 _ _ _ _ _ ee wl ws.tail.tail wh
    exact ⟨hm, fun p e R s m args below meth c cx Q ad0 N0 mc ms hr ad H locs cells slots lsA hs => lv_icmp_lt cx.1 cx.2.1 hd ht (fun hn => absurd hn hc) (fun _ => (hw p e R s m args below meth c cx Q ad0 N0 mc ms hr ad H locs cells slots lsA hs))⟩
theorem ok_icmp_ge {off : Int} (hd : decode cc pc = .ok (.if_icmp .ge off, 3)) (ht : (pc : Int) + off = (tgt : Int)) (hk1 : OKm l E cc nL own ret ini g tgt k1) (hk2 : OKm l E cc nL own ret ini g (pc + 3) k2) : OKm l E cc nL own ret ini g pc (kIf2 (fun x y => y ≤ x) k1 k2) := by
  intro ls st h r h' ee wl ws wh
  unfold kIf2 at ee
  split at ee
  case h_2 => cases ee
  rename_i y x st2
  split at ee
  · rename_i hc
    obtain ⟨hm, hw⟩ := hk1 _ _ _ _ _ ee wl ws.tail.tail wh
    exact ⟨hm, fun p e R s m args below meth c cx Q ad0 N0 mc ms hr ad H locs cells slots lsA hs => lv_icmp_ge cx.1 cx.2.1 hd ht (fun _ => (hw p e R s m args below meth c cx Q ad0 N0 mc ms hr ad H locs cells slots lsA hs)) (fun hn => absurd hc hn)⟩
  · rename_i hc
    obtain ⟨hm, hw⟩ := hk2 _ _ _ _ _ ee wl ws.tail.tail wh
    exact ⟨hm, fun p e R s m args below meth c cx Q ad0 N0 mc ms hr ad H locs cells slots lsA hs => lv_icmp_ge cx.1 cx.2.1 hd ht (fun hn => absurd hn hc) (fun _ => (hw p e R s m args below meth c cx Q ad0 N0 mc ms hr ad H locs cells slots lsA hs))⟩
theorem ok_icmp_gt {off : Int} (hd : decode cc pc = .ok (.if_icmp .gt off, 3)) (ht : (pc : Int) + off = (tgt : Int)) (hk1 : OKm l E cc nL own ret ini g tgt k1) (hk2 : OKm l E cc nL own ret ini g (pc + 3) k2) : OKm l E cc nL own ret ini g pc (kIf2 (fun x y => y < x) k1 k2) := by
  intro ls st h r h' ee wl ws wh
  unfold kIf2 at ee
  split at ee
  case h_2 => cases ee
  rename_i y x st2
  split at ee
  · rename_i hc
    obtain ⟨hm, hw⟩ := hk1 _ _ _ _ _ ee wl ws.tail.tail wh
    exact ⟨hm, fun p e R s m args below meth c cx Q ad0 N0 mc ms hr ad H locs cells slots lsA hs => lv_icmp_gt cx.1 cx.2.1 hd ht (fun _ => (hw p e R s m args below meth c cx Q ad0 N0 mc ms hr ad H locs cells slots lsA hs)) (fun hn => absurd hc hn)⟩
  · rename_i hc
    obtain ⟨hm, hw⟩ := hk2 _ _ _ _ _ ee wl ws.tail.tail wh
    exact ⟨hm, fun p e R s m args below meth c cx Q ad0 N0 mc ms hr ad H locs cells slots lsA hs => lv_icmp_gt cx.1 cx.2.1 hd ht (fun hn => absurd hn hc) (fun _ => (hw p e R s m args below meth c cx Q ad0 N0 mc ms hr ad H locs cells slots lsA hs))⟩
theorem ok_icmp_le {off : Int} (hd : decode cc pc = .ok (.if_icmp .le off, 3)) (ht : (pc : Int) + off = (tgt : Int)) (hk1 : OKm l E cc nL own ret ini g tgt k1) (hk2 : OKm l E cc nL own ret ini g (pc + 3) k2) : OKm l E cc nL own ret ini g pc (kIf2 (fun x y => x ≤ y) k1 k2) := by
  intro ls st h r h' ee wl ws wh
  unfold kIf2 at ee
  split at ee
  case h_2 => cases ee
  rename_i y x st2
  split at ee
  · rename_i hc
    obtain ⟨hm, hw⟩ := hk1 _ _ _ _ _ ee wl ws.tail.tail wh
    exact ⟨hm, fun p e R s m args below meth c cx Q ad0 N0 mc ms hr ad H locs cells slots lsA hs => lv_icmp_le cx.1 cx.2.1 hd ht (fun _ => (hw p e R s m args below meth c cx Q ad0 N0 mc ms hr ad H locs cells slots lsA hs)) (fun hn => absurd hc hn)⟩
  · rename_i hc
    obtain ⟨hm, hw⟩ := hk2 _ _ _ _ _ ee wl ws.tail.tail wh
    exact ⟨hm, fun p e R s m args below meth c cx Q ad0 N0 mc ms hr ad H locs cells slots lsA hs => lv_icmp_le cx.1 cx.2.1 hd ht (fun hn => absurd hn hc) (fun _ => (hw p e R s m args below meth c cx Q ad0 N0 mc ms hr ad H locs cells slots lsA hs))⟩
theorem ok_ifnull {off : Int} (hd : decode cc pc = .ok (.ifnull off, 3)) (ht : (pc : Int) + off = (tgt : Int)) (hk1 : OKm l E cc nL own ret ini g tgt k1) (hk2 : OKm l E cc nL own ret ini g (pc + 3) k2) : OKm l E cc nL own ret ini g pc (kIfN k1 k2) := by
  intro ls st h r h' ee wl ws wh
  unfold kIfN at ee
  split at ee
  · obtain ⟨hm, hw⟩ := hk1 _ _ _ _ _ ee wl ws.tail wh
    exact ⟨hm, fun p e R s m args below meth c cx Q ad0 N0 mc ms hr ad H locs cells slots lsA hs => lv_ifnullN cx.1 cx.2.1 hd ht (hw p e R s m args below meth c cx Q ad0 N0 mc ms hr ad H locs cells slots lsA hs)⟩
  · obtain ⟨hm, hw⟩ := hk2 _ _ _ _ _ ee wl ws.tail wh
    exact ⟨hm, fun p e R s m args below meth c cx Q ad0 N0 mc ms hr ad H locs cells slots lsA hs => lv_ifnull cx.1 cx.2.1 hd (hw p e R s m args below meth c cx Q ad0 N0 mc ms hr ad H locs cells slots lsA hs)⟩
  · cases ee
theorem ok_ifnonnull {off : Int} (hd : decode cc pc = .ok (.ifnonnull off, 3)) (ht : (pc : Int) + off = (tgt : Int)) (hk1 : OKm l E cc nL own ret ini g (pc + 3) k1) (hk2 : OKm l E cc nL own ret ini g tgt k2) : OKm l E cc nL own ret ini g pc (kIfN k1 k2) := by
  intro ls st h r h' ee wl ws wh
  unfold kIfN at ee
  split at ee
  · obtain ⟨hm, hw⟩ := hk1 _ _ _ _ _ ee wl ws.tail wh
    exact ⟨hm, fun p e R s m args below meth c cx Q ad0 N0 mc ms hr ad H locs cells slots lsA hs => lv_ifnonnullN cx.1 cx.2.1 hd (hw p e R s m args below meth c cx Q ad0 N0 mc ms hr ad H locs cells slots lsA hs)⟩
  · obtain ⟨hm, hw⟩ := hk2 _ _ _ _ _ ee wl ws.tail wh
    exact ⟨hm, fun p e R s m args below meth c cx Q ad0 N0 mc ms hr ad H locs cells slots lsA hs => lv_ifnonnull cx.1 cx.2.1 hd ht (hw p e R s m args below meth c cx Q ad0 N0 mc ms hr ad H locs cells slots lsA hs)⟩
  · cases ee
theorem ok_table {lo hi dflt : Int} {offs : Array Int} {len td : Nat} {ks : List KK} {ts : List Nat} (hd : decode cc pc = .ok (.tableswitch dflt lo hi offs, len)) (hlen : ks.length = (hi - lo + 1).toNat) (hts : offs.toList = ts.map (fun (t : Nat) => (t : Int) - (pc : Int))) (htd : (pc : Int) + dflt = (td : Int)) (hlk : ks.length = ts.length)
    (hks : ∀ (i : Nat) (k : KK) (t : Nat), ks[i]? = some k → ts[i]? = some t → OKm l E cc nL own ret ini g t k) (hkd : OKm l E cc nL own ret ini g td kd) : OKm l E cc nL own ret ini g pc (kSw lo ks kd) := by
  intro ls st h r h' ee wl ws wh
  unfold kSw at ee
  split at ee
  case h_2 => cases ee
  rename_i x st2
  split at ee
  · rename_i hc
    obtain ⟨hm, hw⟩ := hkd _ _ _ _ _ ee wl ws.tail wh
    exact ⟨hm, fun p e R s m args below meth c cx Q ad0 N0 mc ms hr ad H locs cells slots lsA hs => lv_tableOut cx.1 cx.2.1 hd (Or.inl hc) htd (hw p e R s m args below meth c cx Q ad0 N0 mc ms hr ad H locs cells slots lsA hs)⟩
  · rename_i hc
    split at ee
    · rename_i k hk
      have hl := (List.getElem?_eq_some_iff.mp hk).1
      have hl2 : (x.toInt - lo).toNat < ts.length := by omega
      have ht : ts[(x.toInt - lo).toNat]? = some ts[(x.toInt - lo).toNat] := List.getElem?_eq_getElem hl2
      obtain ⟨hm, hw⟩ := hks _ _ _ hk ht _ _ _ _ _ ee wl ws.tail wh
      refine ⟨hm, fun p e R s m args below meth c cx Q ad0 N0 mc ms hr ad H locs cells slots lsA hs => lv_tableIn (off := (ts[(x.toInt - lo).toNat] : Int) - (pc : Int)) cx.1 cx.2.1 hd hc (by omega) ?_ (by omega) (hw p e R s m args below meth c cx Q ad0 N0 mc ms hr ad H locs cells slots lsA hs)⟩
      rw [← Array.getElem?_toList, hts, List.getElem?_map, ht]
      rfl
    · rename_i hk
      have hl := List.getElem?_eq_none_iff.mp hk
      obtain ⟨hm, hw⟩ := hkd _ _ _ _ _ ee wl ws.tail wh
      exact ⟨hm, fun p e R s m args below meth c cx Q ad0 N0 mc ms hr ad H locs cells slots lsA hs => lv_tableOut cx.1 cx.2.1 hd (Or.inr (by omega)) htd (hw p e R s m args below meth c cx Q ad0 N0 mc ms hr ad H locs cells slots lsA hs)⟩
theorem ok_return (hd : decode cc pc = .ok (.return_, 1)) (hrt : ret = none) : OKm l E cc nL own ret ini g pc kRetV := by
  intro ls st h r h' ee wl ws wh
  unfold kRetV at ee
  split at ee
  · cases ee
    exact ⟨⟨Nat.le_refl _, Nat.le_refl _, wh, fun v hv => by cases hv⟩, fun p e R s m args below meth c cx Q ad0 N0 mc ms hr ad H locs cells slots lsA hs => hr.2.2 ad H locs cells slots pc lsA _ hd (Or.inl ⟨rfl, rfl, hrt⟩) hs.1 hs.2.1 hs.2.2.2.1 hs.2.2.2.2.1 hs.2.2.2.2.2.1 (by have := hs.2.2.2.2.2.2.1; omega) (by have := hs.2.2.2.2.2.2.2.1; omega)⟩
  · cases ee
theorem ok_ireturn (hd : decode cc pc = .ok (.ireturn, 1)) (hrt : ret = some .int) : OKm l E cc nL own ret ini g pc kRetI := by
  intro ls st h r h' ee wl ws wh
  unfold kRetI at ee
  split at ee
  · cases ee
    exact ⟨⟨Nat.le_refl _, Nat.le_refl _, wh, fun v hv => by cases hv; exact ⟨rfl, fun _ e => by cases e⟩⟩, fun p e R s m args below meth c cx Q ad0 N0 mc ms hr ad H locs cells slots lsA hs => hr.2.2 ad H locs cells slots pc lsA _ hd (Or.inr (Or.inl ⟨rfl, _, _, rfl, hrt, rfl⟩)) hs.1 hs.2.1 hs.2.2.2.1 hs.2.2.2.2.1 hs.2.2.2.2.2.1 (by have := hs.2.2.2.2.2.2.1; omega) (by have := hs.2.2.2.2.2.2.2.1; omega)⟩
  · cases ee
theorem ok_zreturn (hd : decode cc pc = .ok (.ireturn, 1)) (hrt : ret = some .boolean) : OKm l E cc nL own ret ini g pc kRetZ := by
  intro ls st h r h' ee wl ws wh
  unfold kRetZ at ee
  split at ee
  · split at ee
    · rename_i hx
      cases ee
      exact ⟨⟨Nat.le_refl _, Nat.le_refl _, wh, fun v hv => by cases hv; exact ⟨rfl, fun _ e => by cases e⟩⟩, fun p e R s m args below meth c cx Q ad0 N0 mc ms hr ad H locs cells slots lsA hs => hr.2.2 ad H locs cells slots pc lsA _ hd (Or.inr (Or.inl ⟨rfl, _, _, rfl, hrt, by rcases hx with rfl | rfl <;> rfl⟩)) hs.1 hs.2.1 hs.2.2.2.1 hs.2.2.2.2.1 hs.2.2.2.2.2.1 (by have := hs.2.2.2.2.2.2.1; omega) (by have := hs.2.2.2.2.2.2.2.1; omega)⟩
    · cases ee
  · cases ee
theorem ok_areturn {ty : FieldType} (hd : decode cc pc = .ok (.areturn, 1)) (hrt : ret = some ty) (hty : (∃ n, ty = .object n) ∨ ∃ t, ty = .array t) : OKm l E cc nL own ret ini g pc kRetA := by
  intro ls st h r h' ee wl ws wh
  unfold kRetA at ee
  split at ee
  · cases ee
    exact ⟨⟨Nat.le_refl _, Nat.le_refl _, wh, fun v hv => by cases hv; exact ws.head⟩, fun p e R s m args below meth c cx Q ad0 N0 mc ms hr ad H locs cells slots lsA hs => hr.2.2 ad H locs cells slots pc lsA _ hd (Or.inr (Or.inr ⟨rfl, _, _, rfl, hrt, hty, Or.inr ⟨_, rfl⟩⟩)) hs.1 hs.2.1 hs.2.2.2.1 hs.2.2.2.2.1 hs.2.2.2.2.2.1 (by have := hs.2.2.2.2.2.2.1; omega) (by have := hs.2.2.2.2.2.2.2.1; omega)⟩
  · cases ee
    exact ⟨⟨Nat.le_refl _, Nat.le_refl _, wh, fun v hv => by cases hv; exact ws.head⟩, fun p e R s m args below meth c cx Q ad0 N0 mc ms hr ad H locs cells slots lsA hs => hr.2.2 ad H locs cells slots pc lsA _ hd (Or.inr (Or.inr ⟨rfl, _, _, rfl, hrt, hty, Or.inl rfl⟩)) hs.1 hs.2.1 hs.2.2.2.1 hs.2.2.2.2.1 hs.2.2.2.2.2.1 (by have := hs.2.2.2.2.2.2.1; omega) (by have := hs.2.2.2.2.2.2.2.1; omega)⟩
  · cases ee
end OKS
