-- ===== Object's constructor, arraycopy, texts =====
def kObjI (k : KK) : KK := fun ls st h => match st with
  | [.ref _] => k ls [] h
  | _ => none
def setA (h : HP) (a : Nat) (f : Nat → Int32) : HP := (h.1, (fun b => if b = a then f else h.2.1 b), h.2.2)
def kCopy (t : Nat) (k : KK) : KK := fun ls st h => match st with
  | .int n :: .int dp :: .ref a1 :: .int sp :: .ref a0 :: st' =>
    if (hSh h a0).1 = 1 + t ∧ (hSh h a1).1 = 1 + t ∧ 0 ≤ sp ∧ 0 ≤ dp ∧ 0 ≤ n ∧ sp.toNatClampNeg + n.toNatClampNeg ≤ (hSh h a0).2 ∧ dp.toNatClampNeg + n.toNatClampNeg ≤ (hSh h a1).2 ∧ (t = 0 ∨ ∀ i, i < n.toNatClampNeg → hI h a0 (sp.toNatClampNeg + i) = 0 ∨ hI h a0 (sp.toNatClampNeg + i) = 1) ∧ st'.length ≤ 8 then
      k ls st' (setA h a1 (va_cpy (hI h a0) (hI h a1) sp.toNatClampNeg dp.toNatClampNeg n.toNatClampNeg))
    else none
  | _ => none
def sIdx (a : Nat) : Option Nat := if OUT ≤ a ∧ (a - OUT) % 2 = 0 ∧ (a - OUT) / 2 < 24 then some ((a - OUT) / 2) else none
def bIdx (a : Nat) : Option Nat := if OUT ≤ a ∧ (a - OUT) % 2 = 1 ∧ (a - OUT) / 2 < 24 then some ((a - OUT) / 2) else none
def kStr (i : Nat) (k : KK) : KK := fun ls st h => k ls (.ref (OUT + 2 * i) :: st) h
def kPush (v : Value) (k : KK) : KK := fun ls st h => k ls (v :: st) h
def kSVal (k : KK) : KK := fun ls st h => match st with
  | .ref a :: st' => match sIdx a with
    | some i => k ls (.ref (OUT + 2 * i + 1) :: st') h
    | none => none
  | _ => none
def kSCod (k : KK) : KK := fun ls st h => match st with
  | .ref a :: st' => match sIdx a with
    | some _ => k ls (.int 0 :: st') h
    | none => none
  | _ => none
def kSLen (k : KK) : KK := fun ls st h => match st with
  | .ref a :: st' => match bIdx a with
    | some i => k ls (.int (Int32.ofNat (SRn.getD i 0)) :: st') h
    | none => none
  | _ => none
def kSBal (k : KK) : KK := fun ls st h => match st with
  | .int j :: .ref a :: st' => match bIdx a with
    | some i => if inb j (SRn.getD i 0) then k ls (.int ((SRb.getD i []).getD j.toNatClampNeg 0) :: st') h else none
    | none => none
  | _ => none
def kRecvS (n : Nat) (k : KK) : KK := fun ls st h => match st[n]? with
  | some (.ref a) => match sIdx a with
    | some _ => k ls st h
    | none => none
  | _ => none
def kRetW (ty : FieldType) : KK := fun _ st h => match st with
  | [.int x] => if narrow ty (.int x) = .int x then some (some (.int x), h) else none
  | _ => none
/-- the law's own script -/
def kScl (L : Nat) (k : KK) : KK := fun ls st h => match st with
  | .ref a :: st' => if a = OUT + 2000 then k ls (.int (Int32.ofNat L) :: st') h else none
  | _ => none
def kScd (L : Nat) (xs : Nat → Int32) (k : KK) : KK := fun ls st h => match st with
  | .int i :: .ref a :: st' => if a = OUT + 2000 ∧ inb i L then k ls (.int (xs i.toNatClampNeg) :: st') h else none
  | _ => none
theorem sIdx_eq {a i : Nat} (h : sIdx a = some i) : a = OUT + 2 * i ∧ i < 24 := by
  unfold sIdx at h
  split at h
  · cases h; constructor <;> omega
  · cases h
theorem bIdx_eq {a i : Nat} (h : bIdx a = some i) : a = OUT + 2 * i + 1 ∧ i < 24 := by
  unfold bIdx at h
  split at h
  · cases h; constructor <;> omega
  · cases h
section OKJ
variable {l : Launch} {E : EN} {cc : ByteArray} {nL : Nat} {own : String} {ret : Option FieldType} {ini : Bool} {g pc tgt : Nat} {k k1 k2 kd : KK} {idx : Nat}
theorem ok_objI (hl : Cond.methodLink own idx objectInit ∈ TT) (hi : Cond.instanceMethod objectInit ∈ TT) (hc : Cond.code objectInit ⟨#[0xb1]⟩ 1 none ∈ TT) (hg : 1 ≤ g) (hd : decode cc pc = .ok (.invokespecial idx, 3)) (hk : OKm l E cc nL own ret ini g (pc + 3) k) : OKm l E cc nL own ret ini g pc (kObjI k) := by
  intro ls st h r h' ee wl ws wh
  unfold kObjI at ee
  split at ee
  case h_2 => cases ee
  rename_i a
  obtain ⟨hm, hw⟩ := hk _ _ _ _ _ ee wl wfs.nil wh
  refine ⟨hm, fun p e R s m args below meth c cx Q ad0 N0 mc ms hr ad H locs cells slots lsA hs => ?_⟩
  have c1 := cx.2.2.2.2.2.2.1
  have c2 := cx.2.2.2.2.2.2.2.1
  exact W.objInit (rest := []) cx.1 cx.2.1 cx.2.2.2.1 (cx.2.2.2.2.1 _ hl) (cx.2.2.2.2.1 _ hi) (cx.2.2.2.2.1 _ hc) (g := F0 m pc lsA [.ref (ad a)]) rfl (hs.2.2.2.2.2.2.2.2.1.trans cx.2.2.1.symm) rfl hd (by omega) (by show 2 * 0 + 0 + 12 ≤ R.locals; omega) (hw p e R s m args below meth c cx Q ad0 N0 mc ms hr ad H locs cells slots lsA hs)
theorem cellE_setA_ne {ad : Nat → Nat} {h : HP} {a j : Nat} {f : Nat → Int32} (hj : j ≠ a) : cellE E ad (setA h a f) j = cellE E ad h j := by
  simp only [cellE, setA, hSh, hI, hR, if_neg hj]
theorem rep_setA {ad : Nat → Nat} {h : HP} {a t n : Nat} {f : Nat → Int32} (hs : hSh h a = (1 + t, n)) (ht : t < 2) : (rep E ad h).set a (ad a, .inl (E.2.1 t, n, .inl f)) = rep E ad (setA h a f) := by
  refine rep_ext rfl ?_ (fun j hj => cellE_setA_ne hj)
  rw [cellE_arr (h := setA h a f) hs ht]
  simp only [setA, hI, if_pos]
theorem ok_copy {t : Nat} {ty : FieldType} (ht : t < 2) (hty : ∀ aC : Nat → ClassId, (tysA aC)[t]? = some (aC t, ty)) (hrk : refKind ty = false) (hft : ∀ x : Int32, (t = 0 ∨ x = 0 ∨ x = 1) → fits ty (.int x) = true) (hl : Cond.methodLink own idx arraycopyName ∈ TT) (hn : Cond.native arraycopyName ∈ TT) (hst : Cond.static arraycopyName ∈ TT) (hini : Cond.initialized "java/lang/System" ∈ TT) (hg : 1 ≤ g) (hd : decode cc pc = .ok (.invokestatic idx, 3)) (hk : OKm l E cc nL own ret ini g (pc + 3) k) : OKm l E cc nL own ret ini g pc (kCopy t k) := by
  intro ls st h r h' ee wl ws wh
  unfold kCopy at ee
  split at ee
  case h_2 => cases ee
  rename_i n dp a1 sp a0 st2
  split at ee
  case isFalse => cases ee
  rename_i hq
  obtain ⟨q0, q1, q2, q3, q4, q5, q6, q7, q8⟩ := hq
  obtain ⟨hm, hw⟩ := hk _ _ _ _ _ ee wl ws.tail.tail.tail.tail.tail wh
  refine ⟨hm, fun p e R s m args below meth c cx Q ad0 N0 mc ms hr ad H locs cells slots lsA hs => ?_⟩
  have c1 := cx.2.2.2.2.2.2.1
  have c2 := cx.2.2.2.2.2.2.2.1
  have wt := ws.tail.tail.tail.tail.tail
  have hsum : ((st2.map (vmap ad)).map (fun v => v.category)).sum ≤ 8 := by
    rw [cat_sum _ (by intro v hv; obtain ⟨w, hw, rfl⟩ := List.mem_map.mp hv; rw [vmap_cat]; exact wt.1 w hw), List.length_map]
    exact q8
  have hnw : nativeFrameWords "java/lang/System" "arraycopy" 5 ≤ 7 := by decide +kernel
  refine va_copyi (sp := sp) (dp := dp) (n := n) (f := hI h a0) (g := hI h a1) cx.1 cx.2.1 (cx.2.2.1.trans hs.2.2.2.2.2.2.2.2.1.symm) cx.2.2.2.1 (cx.2.2.2.2.1 _ hl) (cx.2.2.2.2.1 _ hn) (cx.2.2.2.2.1 _ hst) (cx.2.2.2.2.1 _ hini) cx.2.2.2.2.2.1.1 hs.2.2.2.1 hs.2.2.2.2.1 hs.2.2.2.2.2.1 a0 a1 t t (rep_ar wh (sh_pair q0) ht) (rep_ar wh (sh_pair q1) ht) (hty _) (hty _) hrk (Int32.not_lt.mpr q2) (Int32.not_lt.mpr q3) (Int32.not_lt.mpr q4) q5 q6 (fun i hi => hft _ (q7.elim Or.inl (fun q => Or.inr (q i hi)))) (by omega) (by omega) hd (fun H1 locs1 hP hD hS => ?_)
  rw [rep_setA (sh_pair q1) ht] at hP hD
  exact hw p e R s m args below meth c cx Q ad0 N0 mc ms hr ad H1 locs1 cells slots lsA ⟨hs.1, hs.2.1, hs.2.2.1, hP, hD, hS, hs.2.2.2.2.2.2.1, hs.2.2.2.2.2.2.2.1, hs.2.2.2.2.2.2.2.2⟩
theorem ok_str {i : Nat} {tx : String} (hi : SRL[i]? = some (own, idx, tx)) (hd : decode cc pc = .ok (.ldc idx, 2)) (hk : OKm l E cc nL own ret ini g (pc + 2) k) : OKm l E cc nL own ret ini g pc (kStr i k) := by
  intro ls st h r h' ee wl ws wh
  obtain ⟨hm, hw⟩ := hk _ _ _ _ _ ee wl (ws.cons rfl (fun q e => by cases e; exact Or.inr (by omega))) wh
  refine ⟨hm, fun p e R s m args below meth c cx Q ad0 N0 mc ms hr ad H locs cells slots lsA hs => ?_⟩
  refine va_ldcS cx.1 cx.2.1 cx.2.2.2.1 (cx.2.2.2.2.2.1.2.2.2.1 i _ hi) hd ?_
  rw [← hs.2.1 (OUT + 2 * i) (by omega)]
  exact hw p e R s m args below meth c cx Q ad0 N0 mc ms hr ad H locs cells slots lsA hs
theorem ok_compact (hl : Cond.fieldLink own idx "java/lang/String" "COMPACT_STRINGS" "Z" ∈ TT) (hd : decode cc pc = .ok (.getstatic idx, 3)) (hk : OKm l E cc nL own ret ini g (pc + 3) k) : OKm l E cc nL own ret ini g pc (kConst 1 k) := by
  intro ls st h r h' ee wl ws wh
  obtain ⟨hm, hw⟩ := hk _ _ _ _ _ ee wl ws.int wh
  exact ⟨hm, fun p e R s m args below meth c cx Q ad0 N0 mc ms hr ad H locs cells slots lsA hs => va_gets cx.1 cx.2.1 cx.2.2.2.2.2.1.2.2.2.2.2.2.2.1 hs.2.2.2.2.2.1 cx.2.2.2.1 (cx.2.2.2.2.1 _ hl) (fun _ h9 => h9) hd (hw p e R s m args below meth c cx Q ad0 N0 mc ms hr ad H locs cells slots lsA hs)⟩
theorem ok_sioobe (hl : Cond.fieldLink own idx "jdk/internal/util/Preconditions" "SIOOBE_FORMATTER" "Ljava/util/function/BiFunction;" ∈ TT) (hd : decode cc pc = .ok (.getstatic idx, 3)) (hk : OKm l E cc nL own ret ini g (pc + 3) k) : OKm l E cc nL own ret ini g pc (kPush (.retAddr 0) k) := by
  intro ls st h r h' ee wl ws wh
  obtain ⟨hm, hw⟩ := hk _ _ _ _ _ ee wl (ws.cons rfl (fun q e => by cases e)) wh
  refine ⟨hm, fun p e R s m args below meth c cx Q ad0 N0 mc ms hr ad H locs cells slots lsA hs => ?_⟩
  refine va_gets cx.1 cx.2.1 cx.2.2.2.2.2.1.2.2.2.2.2.2.2.2.1.1 hs.2.2.2.2.2.1 cx.2.2.2.1 (cx.2.2.2.2.1 _ hl) (fun _ h9 => h9) hd ?_
  rw [← hs.2.1 (903000 + 0) (by unfold OUT; omega)]
  exact hw p e R s m args below meth c cx Q ad0 N0 mc ms hr ad H locs cells slots lsA hs
theorem ok_sval (hl : Cond.fieldLink own idx "java/lang/String" "value" "[B" ∈ TT) (hd : decode cc pc = .ok (.getfield idx, 3)) (hk : OKm l E cc nL own ret ini g (pc + 3) k) : OKm l E cc nL own ret ini g pc (kSVal k) := by
  intro ls st h r h' ee wl ws wh
  unfold kSVal at ee
  split at ee
  case h_2 => cases ee
  rename_i a st2
  split at ee
  case h_2 => cases ee
  rename_i i hi
  obtain ⟨rfl, hi2⟩ := sIdx_eq hi
  obtain ⟨hm, hw⟩ := hk _ _ _ _ _ ee wl (ws.tail.cons rfl (fun q e => by cases e; exact Or.inr (by omega))) wh
  refine ⟨hm, fun p e R s m args below meth c cx Q ad0 N0 mc ms hr ad H locs cells slots lsA hs => ?_⟩
  have hE : va_OF "java/lang/String" "value" "[B" (.ref (E.2.2.2 (OUT + 2 * i + 1))) (E.2.2.2 (OUT + 2 * i)) (AA E) s s.heap := (cx.2.2.2.2.2.1.2.2.2.2.1.1 i hi2).2.2.1
  show W _ _ _ _ _ _ _ _ _ _ _ _ _ _ _ (F0 m pc lsA (.ref (ad (OUT + 2 * i)) :: st2.map (vmap ad)))
  rw [hs.2.1 (OUT + 2 * i) (by omega)]
  refine vk_getf cx.1 cx.2.1 hE hs.2.2.2.2.2.1 cx.2.2.2.1 (cx.2.2.2.2.1 _ hl) (fun _ h9 => h9) hd ?_
  rw [← hs.2.1 (OUT + 2 * i + 1) (by omega)]
  exact hw p e R s m args below meth c cx Q ad0 N0 mc ms hr ad H locs cells slots lsA hs
theorem ok_scod (hl : Cond.fieldLink own idx "java/lang/String" "coder" "B" ∈ TT) (hd : decode cc pc = .ok (.getfield idx, 3)) (hk : OKm l E cc nL own ret ini g (pc + 3) k) : OKm l E cc nL own ret ini g pc (kSCod k) := by
  intro ls st h r h' ee wl ws wh
  unfold kSCod at ee
  split at ee
  case h_2 => cases ee
  rename_i a st2
  split at ee
  case h_2 => cases ee
  rename_i i hi
  obtain ⟨rfl, hi2⟩ := sIdx_eq hi
  obtain ⟨hm, hw⟩ := hk _ _ _ _ _ ee wl ws.tail.int wh
  refine ⟨hm, fun p e R s m args below meth c cx Q ad0 N0 mc ms hr ad H locs cells slots lsA hs => ?_⟩
  have hE := (cx.2.2.2.2.2.1.2.2.2.2.1.1 i hi2).2.1
  show W _ _ _ _ _ _ _ _ _ _ _ _ _ _ _ (F0 m pc lsA (.ref (ad (OUT + 2 * i)) :: st2.map (vmap ad)))
  rw [hs.2.1 (OUT + 2 * i) (by omega)]
  exact vk_getf cx.1 cx.2.1 hE hs.2.2.2.2.2.1 cx.2.2.2.1 (cx.2.2.2.2.1 _ hl) (fun _ h9 => h9) hd (hw p e R s m args below meth c cx Q ad0 N0 mc ms hr ad H locs cells slots lsA hs)
theorem ok_slen (hd : decode cc pc = .ok (.arraylength, 1)) (hk : OKm l E cc nL own ret ini g (pc + 1) k) : OKm l E cc nL own ret ini g pc (kSLen k) := by
  intro ls st h r h' ee wl ws wh
  unfold kSLen at ee
  split at ee
  case h_2 => cases ee
  rename_i a st2
  split at ee
  case h_2 => cases ee
  rename_i i hi
  obtain ⟨rfl, hi2⟩ := bIdx_eq hi
  obtain ⟨hm, hw⟩ := hk _ _ _ _ _ ee wl ws.tail.int wh
  refine ⟨hm, fun p e R s m args below meth c cx Q ad0 N0 mc ms hr ad H locs cells slots lsA hs => ?_⟩
  have hE := (cx.2.2.2.2.2.1.2.2.2.2.1.1 i hi2).2.2.2
  show W _ _ _ _ _ _ _ _ _ _ _ _ _ _ _ (F0 m pc lsA (.ref (ad (OUT + 2 * i + 1)) :: st2.map (vmap ad)))
  rw [hs.2.1 (OUT + 2 * i + 1) (by omega)]
  exact va_tlen cx.1 cx.2.1 hE hs.2.2.2.2.2.1 rfl hd (hw p e R s m args below meth c cx Q ad0 N0 mc ms hr ad H locs cells slots lsA hs)
theorem ok_sbal (hd : decode cc pc = .ok (.baload, 1)) (hk : OKm l E cc nL own ret ini g (pc + 1) k) : OKm l E cc nL own ret ini g pc (kSBal k) := by
  intro ls st h r h' ee wl ws wh
  unfold kSBal at ee
  split at ee
  case h_2 => cases ee
  rename_i j a st2
  split at ee
  case h_2 => cases ee
  rename_i i hi
  split at ee
  case isFalse => cases ee
  rename_i hin
  obtain ⟨rfl, hi2⟩ := bIdx_eq hi
  obtain ⟨hm, hw⟩ := hk _ _ _ _ _ ee wl ws.tail.tail.int wh
  refine ⟨hm, fun p e R s m args below meth c cx Q ad0 N0 mc ms hr ad H locs cells slots lsA hs => ?_⟩
  have hE := (cx.2.2.2.2.2.1.2.2.2.2.1.1 i hi2).2.2.2
  show W _ _ _ _ _ _ _ _ _ _ _ _ _ _ _ (F0 m pc lsA (.int j :: .ref (ad (OUT + 2 * i + 1)) :: st2.map (vmap ad)))
  rw [hs.2.1 (OUT + 2 * i + 1) (by omega)]
  exact va_tb cx.1 cx.2.1 hE hs.2.2.2.2.2.1 hin.vp rfl hd (hw p e R s m args below meth c cx Q ad0 N0 mc ms hr ad H locs cells slots lsA hs)
theorem ok_wreturn {ty : FieldType} (hd : decode cc pc = .ok (.ireturn, 1)) (hrt : ret = some ty) : OKm l E cc nL own ret ini g pc (kRetW ty) := by
  intro ls st h r h' ee wl ws wh
  unfold kRetW at ee
  split at ee
  · split at ee
    · rename_i hx
      cases ee
      exact ⟨⟨Nat.le_refl _, Nat.le_refl _, wh, fun v hv => by cases hv; exact ⟨rfl, fun _ e => by cases e⟩⟩, fun p e R s m args below meth c cx Q ad0 N0 mc ms hr ad H locs cells slots lsA hs => hr.2.2 ad H locs cells slots pc lsA _ hd (Or.inr (Or.inl ⟨rfl, _, _, rfl, hrt, hx⟩)) hs.1 hs.2.1 hs.2.2.2.1 hs.2.2.2.2.1 hs.2.2.2.2.2.1 (by have := hs.2.2.2.2.2.2.1; omega) (by have := hs.2.2.2.2.2.2.2.1; omega)⟩
    · cases ee
  · cases ee
theorem ok_callVS {f : FF} {n ny g1 : Nat} {y : MethodName} {cy : ByteArray} {ry : Option FieldType} (hsn : SndL l E y cy ny ry g1 f) (hv : VOK y cy ny ry n) (hins : Cond.instanceMethod y ∈ TT) (hsel : Cond.selects y.cls y y ∈ TT) (hyc : y.cls = "java/lang/String") (hl : Cond.methodLink own idx y ∈ TT) (hg : g1 + 1 ≤ g) (hd : decode cc pc = .ok (.invokevirtual idx, 3)) (hk : OKm l E cc nL own ret ini g (pc + 3) k) : OKm l E cc nL own ret ini g pc (kRecvS n (kCall (n + 1) f k)) := by
  intro ls st h r h' ee wl ws wh
  unfold kRecvS at ee
  split at ee
  case h_2 => cases ee
  rename_i a hra
  split at ee
  case h_2 => cases ee
  rename_i i hi
  obtain ⟨ea, hi2⟩ := sIdx_eq hi
  have hl2 := (List.getElem?_eq_some_iff.mp hra).1
  refine call_go hsn hv.2.2.2.2 hk ee wl ws wh (fun r1 h1 hm1 hb1 hb2 hn1 hmet p e R s m args below meth c cx ad0 N0 mc ms hr ad H locs cells slots lsA hs hsum => ?_)
  have a2 := hs.2.2.2.2.2.2.1
  have a3 := hs.2.2.2.2.2.2.2.1
  have b1 := hm1.1
  have b2 := hm1.2.1
  have c1 := cx.2.2.2.2.2.2.1
  have c2 := cx.2.2.2.2.2.2.2.1
  have c3 := hv.2.2.2.1
  have hP := hs.2.2.2.1
  have hK := cx.2.2.2.2.2.1.1
  have hcw : CallW R s args own y.cls idx y cy ny ry (Cond.code y cy ny ry :: TT) (rmA g1 (hN h1 - hN h) (hZ h1 - hZ h)) (hN h1 - hN h) (hZ h1 - hZ h) n :=
    cwV n cx.2.2.2.2.1 (goodTT (fun w hw => by
      simp only [wsV, List.mem_append, List.mem_cons, List.not_mem_nil, or_false] at hw
      rcases hw with (rfl | rfl | rfl | rfl) | rfl | hw
      · exact hl
      · exact hins
      · exact hsel
      · exact hv.2.1
      · exact hv.1
      · exact hw)) rfl rfl rfl ⟨rfl, hv.2.2.1⟩ ⟨by show g1 + 1 ≤ R.frames; omega, by show 8 + (ny + 11) + 40 * g1 ≤ R.locals; omega⟩
  have hrec : ∃ cell : Cell, H[ad a]? = some cell ∧ cell.vm.isStatics = false ∧ s.vm.findClass y.cls = some cell.cls := by
    rw [ea, hs.2.1 (OUT + 2 * i) (by omega), hyc]
    exact vk_recv (adK := fun i => E.2.2.2 (OUT + 2 * i)) (i := i) cx.2.2.2.2.2.1.2.2.2.2.1 hi2 hs.2.2.2.2.2.1
  have hb : va_Run p l e R s m args below meth c H locs cells slots (hN h1 - hN h) (hZ h1 - hZ h) (F0 m pc lsA (st.map (vmap ad))) ((st.drop (n + 1)).map (vmap ad)) (QcA E ad h r1 h1 (Value.ref (ad a) :: (st.take n).reverse.map (vmap ad)).toArray) (AA E) := by
    refine va_runV (As := (st.take n).reverse.map (vmap ad)) (b := ad a) ⟨cx.1, cx.2.1, cx.2.2.1, cx.2.2.2.1, cx.2.2.2.2.1⟩ (hmet ad hs.2.1) hcw ⟨PcA.blind, hrec, fun U hU hW => ?_⟩ rfl (by rw [List.length_map, List.length_reverse, List.length_take]; omega) hs.2.2.2.2.2.2.2.2.1 ?_ (lv_room hsum) hd ⟨by have := hr.1; omega, by have := hr.2; omega⟩
    · have := PcA.at (as := (st.take (n + 1)).reverse) cx.2.2.2.2.2.1 hP hs.2.2.2.2.1 hs.2.2.2.2.2.1 U hU hW
      rw [args_recv hra] at this
      exact this
    · show st.map (vmap ad) = _
      rw [st_split (n + 1), args_recv hra, List.reverse_cons, List.append_assoc]
      rfl
  exact hb
theorem ok_scl {L : Nat} (hL : E.2.2.2 (OUT + 2001) = L) (hd : decode cc pc = .ok (.arraylength, 1)) (hk : OKm l E cc nL own ret ini g (pc + 1) k) : OKm l E cc nL own ret ini g pc (kScl L k) := by
  intro ls st h r h' ee wl ws wh
  unfold kScl at ee
  split at ee
  case h_2 => cases ee
  rename_i a st2
  split at ee
  case isFalse => cases ee
  rename_i ha
  subst ha
  obtain ⟨hm, hw⟩ := hk _ _ _ _ _ ee wl ws.tail.int wh
  refine ⟨hm, fun p e R s m args below meth c cx Q ad0 N0 mc ms hr ad H locs cells slots lsA hs => ?_⟩
  have hT := cx.2.2.2.2.2.1.2.2.2.2.2.2.2.2.1.2
  rw [hL] at hT
  show W _ _ _ _ _ _ _ _ _ _ _ _ _ _ _ (F0 m pc lsA (.ref (ad (OUT + 2000)) :: st2.map (vmap ad)))
  rw [hs.2.1 (OUT + 2000) (by omega)]
  exact va_tlen cx.1 cx.2.1 hT hs.2.2.2.2.2.1 rfl hd (hw p e R s m args below meth c cx Q ad0 N0 mc ms hr ad H locs cells slots lsA hs)
theorem ok_scd {L : Nat} {xs : Nat → Int32} (hL : E.2.2.2 (OUT + 2001) = L) (hx : ∀ j, Int32.ofNat (E.2.2.2 (OUT + 10000 + j)) = xs j) (hd : decode cc pc = .ok (.iaload, 1)) (hk : OKm l E cc nL own ret ini g (pc + 1) k) : OKm l E cc nL own ret ini g pc (kScd L xs k) := by
  intro ls st h r h' ee wl ws wh
  unfold kScd at ee
  split at ee
  case h_2 => cases ee
  rename_i i a st2
  split at ee
  case isFalse => cases ee
  rename_i ha
  obtain ⟨rfl, hin⟩ := ha
  obtain ⟨hm, hw⟩ := hk _ _ _ _ _ ee wl ws.tail.tail.int wh
  refine ⟨hm, fun p e R s m args below meth c cx Q ad0 N0 mc ms hr ad H locs cells slots lsA hs => ?_⟩
  have hT := cx.2.2.2.2.2.1.2.2.2.2.2.2.2.2.1.2
  rw [hL] at hT
  show W _ _ _ _ _ _ _ _ _ _ _ _ _ _ _ (F0 m pc lsA (.int i :: .ref (ad (OUT + 2000)) :: st2.map (vmap ad)))
  rw [hs.2.1 (OUT + 2000) (by omega)]
  exact va_ti cx.1 cx.2.1 hT hs.2.2.2.2.2.1 hin.vp (show Value.int _ = Value.int (xs i.toNatClampNeg) by rw [hx]) hd (hw p e R s m args below meth c cx Q ad0 N0 mc ms hr ad H locs cells slots lsA hs)
end OKJ
