-- ===== THE CANONICAL HEAP: objects by number; what each holds by two functions (ints, references) =====
/-- shapes (kind, size; kind 0: not there; 1 + t: an array of tysA's t-th type; 40 + ci: an object of class ci), ints, references, how many objects, how many slots -/
abbrev HP : Type := (Nat → Nat × Nat) × (Nat → Nat → Int32) × (Nat → Nat → Option Nat) × Nat × Nat
abbrev hSh (h : HP) : Nat → Nat × Nat := h.1
abbrev hI (h : HP) : Nat → Nat → Int32 := h.2.1
abbrev hR (h : HP) : Nat → Nat → Option Nat := h.2.2.1
abbrev hN (h : HP) : Nat := h.2.2.2.1
abbrev hZ (h : HP) : Nat := h.2.2.2.2
/-- the world's layout; the array classes; where the system's own cells begin; the addresses of what stood there before -/
abbrev EN : Type := va_G × (Nat → ClassId) × Nat × (Nat → Nat)
def AA (E : EN) : Nat → Prop := fun q => E.2.2.1 ≤ q
def tysA (aC : Nat → ClassId) : List (ClassId × FieldType) := [(aC 0, .int), (aC 1, .boolean), (aC 2, .object "FourPalms$Rule"), (aC 3, .object "FourPalms$Crossing"), (aC 4, .object "FourPalms$Orders")]
def upd2 {α : Type} (f : Nat → Nat → α) (a i : Nat) (v : α) : Nat → Nat → α := fun b j => if b = a ∧ j = i then v else f b j
def setI (h : HP) (a i : Nat) (v : Int32) : HP := (h.1, upd2 h.2.1 a i v, h.2.2)
def setR (h : HP) (a i : Nat) (v : Option Nat) : HP := (h.1, h.2.1, upd2 h.2.2.1 a i v, h.2.2.2)
def vmap (ad : Nat → Nat) : Value → Value
  | .ref k => .ref (ad k)
  | .int x => .int x
  | .null => .null
  | .long x => .long x
  | .float x => .float x
  | .double x => .double x
  | .retAddr n => va_rf (if ad (903000 + n) = 0 then none else some (ad (903000 + n) - 1))
theorem va_rf_cat (o : Option Nat) : (va_rf o).category = 1 := by cases o <;> rfl
theorem vmap_cat (ad : Nat → Nat) (v : Value) : (vmap ad v).category = v.category := by
  cases v with
  | retAddr n => exact va_rf_cat _
  | _ => rfl
theorem vmap_rf (ad : Nat → Nat) (o : Option Nat) : vmap ad (va_rf o) = va_rf (o.map ad) := by cases o <;> rfl
def cellE (E : EN) (ad : Nat → Nat) (h : HP) (i : Nat) : va_E :=
  if 40 ≤ (hSh h i).1 then .inr ((hSh h i).1 - 40, (List.range (hSh h i).2).map (fun j => if frf ((hSh h i).1 - 40) j = true then va_rf ((hR h i j).map ad) else .int (hI h i j)))
  else if (hSh h i).1 ≤ 2 then .inl (E.2.1 ((hSh h i).1 - 1), (hSh h i).2, .inl (hI h i))
  else .inl (E.2.1 ((hSh h i).1 - 1), (hSh h i).2, .inr (.inr (.inr (.inr (fun j => (hR h i j).map ad)))))
def rep (E : EN) (ad : Nat → Nat) (h : HP) : va_W := (List.range (hN h)).map (fun i => (ad i, cellE E ad h i))
theorem rep_len (E : EN) (ad : Nat → Nat) (h : HP) : (rep E ad h).length = hN h := by simp [rep]
theorem rep_get {E : EN} {ad : Nat → Nat} {h : HP} {i : Nat} (hi : i < hN h) : (rep E ad h)[i]? = some (ad i, cellE E ad h i) := by
  simp [rep, hi]
theorem rep_ext {E : EN} {ad : Nat → Nat} {h h2 : HP} {a : Nat} {e : va_E} (hn : hN h2 = hN h) (he : e = cellE E ad h2 a) (ho : ∀ j, j ≠ a → cellE E ad h2 j = cellE E ad h j) : (rep E ad h).set a (ad a, e) = rep E ad h2 := by
  subst he
  apply List.ext_getElem?
  intro j
  by_cases hj : j < hN h
  · rw [rep_get (h := h2) (by rw [hn]; exact hj)]
    by_cases hja : j = a
    · subst hja
      rw [List.getElem?_set_self (by rw [rep_len]; exact hj)]
    · rw [List.getElem?_set_ne (Ne.symm hja), rep_get hj, ho j hja]
  · rw [List.getElem?_eq_none (by rw [List.length_set, rep_len]; omega), List.getElem?_eq_none (by rw [rep_len, hn]; omega)]
theorem upd2_ne {α : Type} (f : Nat → Nat → α) {a i : Nat} (v : α) {b : Nat} (h : b ≠ a) : upd2 f a i v b = f b := by
  funext j
  simp [upd2, h]
theorem upd2_row {α : Type} (f : Nat → Nat → α) (a i : Nat) (v : α) : upd2 f a i v a = fun j => if j = i then v else f a j := by
  funext j
  simp [upd2]
theorem cellE_setI_ne {E : EN} {ad : Nat → Nat} {h : HP} {a i j : Nat} {v : Int32} (hj : j ≠ a) : cellE E ad (setI h a i v) j = cellE E ad h j := by
  simp only [cellE, setI, hSh, hI, hR, upd2_ne _ _ hj]
theorem cellE_setR_ne {E : EN} {ad : Nat → Nat} {h : HP} {a i j : Nat} {v : Option Nat} (hj : j ≠ a) : cellE E ad (setR h a i v) j = cellE E ad h j := by
  simp only [cellE, setR, hSh, hI, hR, upd2_ne _ _ hj]
theorem cellE_arr {E : EN} {ad : Nat → Nat} {h : HP} {a t n : Nat} (hs : hSh h a = (1 + t, n)) (ht : t < 2) : cellE E ad h a = .inl (E.2.1 t, n, .inl (hI h a)) := by
  unfold cellE
  rw [hs]
  rw [if_neg (by show ¬ 40 ≤ 1 + t; omega), if_pos (by show 1 + t ≤ 2; omega), show (1 + t, n).1 - 1 = t from (by show 1 + t - 1 = t; omega)]
theorem cellE_ref {E : EN} {ad : Nat → Nat} {h : HP} {a t n : Nat} (hs : hSh h a = (1 + t, n)) (ht : 2 ≤ t) (ht2 : t < 39) : cellE E ad h a = .inl (E.2.1 t, n, .inr (.inr (.inr (.inr (fun j => (hR h a j).map ad))))) := by
  unfold cellE
  rw [hs]
  rw [if_neg (by show ¬ 40 ≤ 1 + t; omega), if_neg (by show ¬ 1 + t ≤ 2; omega), show (1 + t, n).1 - 1 = t from (by show 1 + t - 1 = t; omega)]
def fldE (ad : Nat → Nat) (h : HP) (ci a : Nat) (j : Nat) : Value := if frf ci j = true then va_rf ((hR h a j).map ad) else .int (hI h a j)
theorem cellE_obj {E : EN} {ad : Nat → Nat} {h : HP} {a ci n : Nat} (hs : hSh h a = (40 + ci, n)) : cellE E ad h a = .inr (ci, (List.range n).map (fldE ad h ci a)) := by
  unfold cellE
  rw [hs]
  rw [if_pos (by show 40 ≤ 40 + ci; omega), show (40 + ci, n).1 - 40 = ci from (by show 40 + ci - 40 = ci; omega)]
  rfl
theorem fld_get {ad : Nat → Nat} {h : HP} {a ci n k : Nat} (hk : k < n) : ((List.range n).map (fldE ad h ci a))[k]? = some (fldE ad h ci a k) := by
  simp [hk]
theorem fld_set {ad : Nat → Nat} {h h2 : HP} {a ci n k : Nat} {v : Value} (hv : v = fldE ad h2 ci a k) (ho : ∀ j, j ≠ k → fldE ad h2 ci a j = fldE ad h ci a j) : ((List.range n).map (fldE ad h ci a)).set k v = (List.range n).map (fldE ad h2 ci a) := by
  subst hv
  apply List.ext_getElem?
  intro j
  by_cases hj : j < n
  · by_cases hjk : j = k
    · subst hjk
      rw [List.getElem?_set_self (by simpa using hj)]
      simp [hj]
    · rw [List.getElem?_set_ne (Ne.symm hjk)]
      simp [hj, ho j hjk]
  · rw [List.getElem?_eq_none (by simpa using hj), List.getElem?_eq_none (by simpa using hj)]
-- ===== locals =====
def lset : List Value → Nat → Value → List Value
  | [], 0, v => [v]
  | [], i + 1, v => .long 0 :: lset [] i v
  | _ :: t, 0, v => v :: t
  | a :: t, i + 1, v => a :: lset t i v
theorem lset_get : ∀ (ls : List Value) (i j : Nat) (v w : Value), (lset ls i v)[j]? = some w → (j = i ∧ w = v) ∨ (j ≠ i ∧ (ls[j]? = some w ∨ w = .long 0))
  | [], 0, j, v, w, h => by
    cases j with
    | zero => simp [lset] at h; exact Or.inl ⟨rfl, h.symm⟩
    | succ j => simp [lset] at h
  | [], i + 1, j, v, w, h => by
    cases j with
    | zero => simp [lset] at h; exact Or.inr ⟨by omega, Or.inr h.symm⟩
    | succ j =>
      have h2 : (lset [] i v)[j]? = some w := by simpa [lset] using h
      rcases lset_get [] i j v w h2 with ⟨q, e⟩ | ⟨q, e | e⟩
      · exact Or.inl ⟨by omega, e⟩
      · simp at e
      · exact Or.inr ⟨by omega, Or.inr e⟩
  | a :: t, 0, j, v, w, h => by
    cases j with
    | zero => simp [lset] at h; exact Or.inl ⟨rfl, h.symm⟩
    | succ j =>
      have h2 : t[j]? = some w := by simpa [lset] using h
      exact Or.inr ⟨by omega, Or.inl (by simpa using h2)⟩
  | a :: t, i + 1, j, v, w, h => by
    cases j with
    | zero =>
      have h2 : a = w := by simpa [lset] using h
      exact Or.inr ⟨by omega, Or.inl (by simp [h2])⟩
    | succ j =>
      have h2 : (lset t i v)[j]? = some w := by simpa [lset] using h
      rcases lset_get t i j v w h2 with ⟨q, e⟩ | ⟨q, e⟩
      · exact Or.inl ⟨by omega, e⟩
      · exact Or.inr ⟨by omega, by simpa using e⟩
/-- the machine's locals hold what the list says; a long stands for 'not known' -/
def LH (lsA : Array Slot) (nL : Nat) (ad : Nat → Nat) (ls : List Value) : Prop := lsA.size = nL ∧ lv_wf lsA ∧ ∀ (i : Nat) (v : Value), ls[i]? = some v → v.category = 1 → lsA[i]? = some (.val (vmap ad v))
def fullL (ad : Nat → Nat) : Nat → List Value → List (Nat × Value)
  | _, [] => []
  | i, v :: t => if v.category = 1 then (i, vmap ad v) :: fullL ad (i + 1) t else fullL ad (i + 1) t
theorem mem_fullL {ad : Nat → Nat} : ∀ (ls : List Value) (i : Nat) (q : Nat × Value), q ∈ fullL ad i ls → ∃ j v, ls[j]? = some v ∧ v.category = 1 ∧ q = (i + j, vmap ad v)
  | [], i, q, h => by cases h
  | v :: t, i, q, h => by
    unfold fullL at h
    split at h
    · rename_i hc
      rcases List.mem_cons.mp h with h | h
      · exact ⟨0, v, rfl, hc, by simpa using h⟩
      · obtain ⟨j, w, h1, h2, h3⟩ := mem_fullL t (i + 1) q h
        exact ⟨j + 1, w, by simpa using h1, h2, by rw [h3, Nat.add_assoc, Nat.add_comm 1 j]⟩
    · obtain ⟨j, w, h1, h2, h3⟩ := mem_fullL t (i + 1) q h
      exact ⟨j + 1, w, by simpa using h1, h2, by rw [h3, Nat.add_assoc, Nat.add_comm 1 j]⟩
theorem fullL_mem {ad : Nat → Nat} : ∀ (ls : List Value) (i j : Nat) (v : Value), ls[j]? = some v → v.category = 1 → (i + j, vmap ad v) ∈ fullL ad i ls
  | [], i, j, v, h, _ => by simp at h
  | w :: t, i, 0, v, h, hc => by
    have h2 : w = v := by simpa using h
    subst h2
    unfold fullL
    rw [if_pos hc]
    exact List.mem_cons_self
  | w :: t, i, j + 1, v, h, hc => by
    have h2 : t[j]? = some v := by simpa using h
    have h3 := fullL_mem (ad := ad) t (i + 1) j v h2 hc
    rw [Nat.add_assoc, Nat.add_comm 1 j] at h3
    unfold fullL
    split
    · exact List.mem_cons_of_mem _ h3
    · exact h3
theorem LH.has {lsA : Array Slot} {nL : Nat} {ad : Nat → Nat} {ls : List Value} (h : LH lsA nL ad ls) : lv_has lsA nL (fullL ad 0 ls) := by
  refine ⟨h.1, h.2.1, fun q hq => ?_⟩
  obtain ⟨j, v, h1, h2, rfl⟩ := mem_fullL ls 0 q hq
  rw [Nat.zero_add]
  exact h.2.2 j v h1 h2
theorem LH.store {lsA : Array Slot} {nL : Nat} {ad : Nat → Nat} {ls : List Value} {i : Nat} {v : Value} (h : LH lsA nL ad ls) (hc : v.category = 1) {ls' : Array Slot} (h2 : lv_has ls' nL ((i, vmap ad v) :: (fullL ad 0 ls).filter (fun q => !(q.1 == i) && !(q.1 + 1 == i && q.2.category == 2)))) : LH ls' nL ad (lset ls i v) := by
  refine ⟨h2.1, h2.2.1, fun j w hw hcw => ?_⟩
  rcases lset_get ls i j v w hw with ⟨rfl, rfl⟩ | ⟨hne, hw | rfl⟩
  · exact h2.2.2 (j, vmap ad w) List.mem_cons_self
  · have h3 := fullL_mem (ad := ad) ls 0 j w hw hcw
    rw [Nat.zero_add] at h3
    refine h2.2.2 (j, vmap ad w) (List.mem_cons_of_mem _ (List.mem_filter.mpr ⟨h3, ?_⟩))
    have hcv : ((vmap ad w).category == 2) = false := by rw [vmap_cat, hcw]; rfl
    simp [hne, hcv]
  · cases hcw
theorem LH.moved {lsA : Array Slot} {nL : Nat} {ad ad' : Nat → Nat} {ls : List Value} {P : Nat → Prop} (h : LH lsA nL ad ls) (hr : ∀ v ∈ ls, ∀ k, v = .ref k → P k) (hP : ∀ k, 900000 ≤ k → P k) (ha : ∀ k, P k → ad' k = ad k) : LH lsA nL ad' ls := by
  refine ⟨h.1, h.2.1, fun i v hv hc => ?_⟩
  rw [h.2.2 i v hv hc]
  cases v with
  | ref k => show _ = some (Slot.val (.ref (ad' k))); rw [ha k (hr _ (List.mem_of_getElem? hv) k rfl)]; rfl
  | int _ => rfl
  | null => rfl
  | long _ => rfl
  | float _ => rfl
  | double _ => rfl
  | retAddr n => show _ = some (Slot.val (va_rf (if ad' (903000 + n) = 0 then none else some (ad' (903000 + n) - 1)))); rw [ha _ (hP _ (by omega))]; rfl
theorem vmap_moved {ad ad' : Nat → Nat} {P : Nat → Prop} {st : List Value} (hr : ∀ v ∈ st, ∀ k, v = .ref k → P k) (hP : ∀ k, 900000 ≤ k → P k) (ha : ∀ k, P k → ad' k = ad k) : st.map (vmap ad') = st.map (vmap ad) := by
  apply List.map_congr_left
  intro v hv
  cases v with
  | ref k => show Value.ref (ad' k) = .ref (ad k); rw [ha k (hr _ hv k rfl)]
  | retAddr n => show va_rf (if ad' (903000 + n) = 0 then none else some (ad' (903000 + n) - 1)) = va_rf _; rw [ha _ (hP _ (by omega))]
  | _ => rfl
-- ===== what the states keep =====
def OUT : Nat := 900000
def okR (h : HP) (k : Nat) : Prop := k < hN h ∨ OUT ≤ k
def wfl (h : HP) (ls : List Value) : Prop := ∀ v ∈ ls, ∀ k, v = .ref k → okR h k
def wfs (h : HP) (st : List Value) : Prop := (∀ v ∈ st, v.category = 1) ∧ wfl h st
def wfh (h : HP) : Prop := hN h ≤ OUT ∧ (∀ a, (hSh h a).1 ≠ 0 → a < hN h) ∧ ∀ a j k, hR h a j = some k → k < hN h
def wfo (h : HP) (r : Option Value) : Prop := ∀ v, r = some v → v.category = 1 ∧ ∀ k, v = .ref k → okR h k
def MON (h h' : HP) (r : Option Value) : Prop := hN h ≤ hN h' ∧ hZ h ≤ hZ h' ∧ wfh h' ∧ wfo h' r
/-- nest links that the tables say: whose, which entry, which method, whose nest -/
def NWL : List (String × Nat × MethodName × String) := [("FourPalms$World", 31, ⟨"FourPalms$Rule", "<init>", "()V"⟩, "FourPalms"), ("FourPalms", 14, ⟨"FourPalms$Pair", "<init>", "()V"⟩, "FourPalms"), ("FourPalms", 29, ⟨"FourPalms$Reader", "<init>", "()V"⟩, "FourPalms"), ("FourPalms$Reader", 27, ⟨"FourPalms$Rule", "<init>", "()V"⟩, "FourPalms"), ("FourPalms$Crossing", 67, ⟨"FourPalms", "toIn", "(I)I"⟩, "FourPalms"), ("FourPalms$Crossing", 71, ⟨"FourPalms", "sortIn", "(I)I"⟩, "FourPalms"), ("FourPalms$Crossing", 74, ⟨"FourPalms", "loadIn", "(I)I"⟩, "FourPalms"), ("FourPalms$Crossing", 80, ⟨"FourPalms", "waysFight", "(IIII)Z"⟩, "FourPalms"), ("FourPalms$Crossing", 63, ⟨"FourPalms", "goodsOf", "(III)I"⟩, "FourPalms"), ("FourPalms$Pair", 32, ⟨"FourPalms", "toIn", "(I)I"⟩, "FourPalms"), ("FourPalms$Pair", 36, ⟨"FourPalms", "turnOf", "(III)I"⟩, "FourPalms"), ("FourPalms$Pair", 40, ⟨"FourPalms", "loadIn", "(I)I"⟩, "FourPalms"), ("FourPalms$Pair", 43, ⟨"FourPalms", "sortIn", "(I)I"⟩, "FourPalms"), ("FourPalms$Standing", 106, ⟨"FourPalms", "leastOf", "(I)I"⟩, "FourPalms"), ("FourPalms$Coming", 109, ⟨"FourPalms", "toIn", "(I)I"⟩, "FourPalms"), ("FourPalms$Coming", 112, ⟨"FourPalms", "waysFight", "(IIII)Z"⟩, "FourPalms"), ("FourPalms$Coming", 244, ⟨"FourPalms", "isWording", "(I)Z"⟩, "FourPalms"), ("FourPalms$Coming", 253, ⟨"FourPalms", "within", "(II)Z"⟩, "FourPalms")]
/-- the texts -/
def SRL : List (String × Nat × String) := [("FourPalms$Reader", 94, "right left  size  osize turn  oturn load  oload slope oslopesort  osort sign  osign first roads wait  go    when  or    and   not   "), ("FourPalms$Reader", 83, ";+-*/()<=>"), ("FourPalmsModel", 183, "wait"), ("FourPalmsModel", 185, "go"), ("FourPalmsModel", 187, "when"), ("FourPalmsModel", 189, "or"), ("FourPalmsModel", 191, "and"), ("FourPalmsModel", 193, "not"), ("FourPalmsModel", 153, "right"), ("FourPalmsModel", 159, "left"), ("FourPalmsModel", 161, "size"), ("FourPalmsModel", 162, "osize"), ("FourPalmsModel", 164, "turn"), ("FourPalmsModel", 165, "oturn"), ("FourPalmsModel", 167, "load"), ("FourPalmsModel", 168, "oload"), ("FourPalmsModel", 170, "slope"), ("FourPalmsModel", 171, "oslope"), ("FourPalmsModel", 173, "sort"), ("FourPalmsModel", 174, "osort"), ("FourPalmsModel", 176, "sign"), ("FourPalmsModel", 177, "osign"), ("FourPalmsModel", 179, "first"), ("FourPalmsModel", 181, "roads")]
def SRn : List Nat := [132, 10, 4, 2, 4, 2, 3, 3, 5, 4, 4, 5, 4, 5, 4, 5, 5, 6, 4, 5, 4, 5, 5, 5]
def SRb : List (List Int32) := [[114, 105, 103, 104, 116, 32, 108, 101, 102, 116, 32, 32, 115, 105, 122, 101, 32, 32, 111, 115, 105, 122, 101, 32, 116, 117, 114, 110, 32, 32, 111, 116, 117, 114, 110, 32, 108, 111, 97, 100, 32, 32, 111, 108, 111, 97, 100, 32, 115, 108, 111, 112, 101, 32, 111, 115, 108, 111, 112, 101, 115, 111, 114, 116, 32, 32, 111, 115, 111, 114, 116, 32, 115, 105, 103, 110, 32, 32, 111, 115, 105, 103, 110, 32, 102, 105, 114, 115, 116, 32, 114, 111, 97, 100, 115, 32, 119, 97, 105, 116, 32, 32, 103, 111, 32, 32, 32, 32, 119, 104, 101, 110, 32, 32, 111, 114, 32, 32, 32, 32, 97, 110, 100, 32, 32, 32, 110, 111, 116, 32, 32, 32], [59, 43, 45, 42, 47, 40, 41, 60, 61, 62], [119, 97, 105, 116], [103, 111], [119, 104, 101, 110], [111, 114], [97, 110, 100], [110, 111, 116], [114, 105, 103, 104, 116], [108, 101, 102, 116], [115, 105, 122, 101], [111, 115, 105, 122, 101], [116, 117, 114, 110], [111, 116, 117, 114, 110], [108, 111, 97, 100], [111, 108, 111, 97, 100], [115, 108, 111, 112, 101], [111, 115, 108, 111, 112, 101], [115, 111, 114, 116], [111, 115, 111, 114, 116], [115, 105, 103, 110], [111, 115, 105, 103, 110], [102, 105, 114, 115, 116], [114, 111, 97, 100, 115]]
def mostv : Nat → Int32 := fun j => match j with
  | 0 => 3
  | 1 => 1
  | 2 => 2
  | 3 => 1
  | _ => 100
/-- what stands outside the system's own cells, and what the tables say beyond TT -/
def GO (E : EN) (U : State) (H : Heap) : Prop :=
  va_K E.1 CLS (tysA E.2.1) U ∧ (∀ q ∈ NWL, va_Nw (.methodLinkNest q.1 q.2.1 q.2.2.1 q.2.2.2) U) ∧ (va_AO "FourPalms$Rule" U ∧ va_AO "FourPalms$Crossing" U ∧ va_AO "FourPalms$Orders" U) ∧
  (∀ i q, SRL[i]? = some q → vk_R q.1 q.2.1 q.2.2 (E.2.2.2 (OUT + 2 * i)) U) ∧ vk_S 24 SRn SRb (fun i => E.2.2.2 (OUT + 2 * i)) (fun i => E.2.2.2 (OUT + 2 * i + 1)) (AA E) U H ∧
  va_Z "FourPalms" "MOST_OF_FACT" "[I" (.ref (E.2.2.2 (OUT + 1000))) (AA E) U H ∧ va_T .int (E.2.2.2 (OUT + 1000)) 5 (fun j => .int (mostv j)) (AA E) U H ∧
  va_Z "java/lang/String" "COMPACT_STRINGS" "Z" (.int 1) (AA E) U H ∧ (va_Z "jdk/internal/util/Preconditions" "SIOOBE_FORMATTER" "Ljava/util/function/BiFunction;" (va_rf (if E.2.2.2 (903000 + 0) = 0 then none else some (E.2.2.2 (903000 + 0) - 1))) (AA E) U H ∧ va_T .int (E.2.2.2 (OUT + 2000)) (E.2.2.2 (OUT + 2001)) (fun j => .int (Int32.ofNat (E.2.2.2 (OUT + 10000 + j)))) (AA E) U H) ∧ E.2.2.1 ≤ H.size
theorem GO.warm {E : EN} {s U : State} {H H1 : Heap} (h : GO E s H) (hW : s.WarmedH U.vm) (hk : ∀ a : Nat, a < H.size → ¬ AA E a → H1[a]? = H[a]?) (hz : H.size ≤ H1.size) : GO E U H1 := by
  obtain ⟨h1, h2, ⟨h3, h4, h5⟩, h6, h7, h8, h9, h10, h11, h12⟩ := h
  have hal := hW.alike
  exact ⟨va_K.moved hal h1, fun q hq => va_Nw.warmM hW (h2 q hq), ⟨va_AO.moved hal h3, va_AO.moved hal h4, va_AO.moved hal h5⟩, fun i q hq => vk_R.warm hW (h6 i q hq), (vk_S.moved hal h7).kept hk, (va_Z.moved hal h8).kept hk, (va_T.moved hal h9).kept hk, (va_Z.moved hal h10).kept hk, ⟨(va_Z.moved hal h11.1).kept hk, (va_T.moved hal h11.2).kept hk⟩, Nat.le_trans h12 hz⟩
theorem GO.calling {E : EN} {U : State} {g : JFrame} {mk : MethodId} {a : Array Value} {H : Heap} (h : GO E U H) : GO E (U.calling g mk a) H := by
  obtain ⟨h1, h2, ⟨h3, h4, h5⟩, h6, h7, h8, h9, h10, h11, h12⟩ := h
  have hal : U.vm.Alike (U.calling g mk a).vm := Vm.Alike.refl U.vm
  exact ⟨va_K.moved hal h1, fun q hq => va_Nw.same rfl (rfl : U.vm = (U.calling g mk a).vm) (h2 q hq), ⟨va_AO.moved hal h3, va_AO.moved hal h4, va_AO.moved hal h5⟩, fun i q hq => vk_R.same (rfl : (U.calling g mk a).vm = U.vm) (h6 i q hq), vk_S.moved hal h7, va_Z.moved hal h8, va_T.moved hal h9, va_Z.moved hal h10, ⟨va_Z.moved hal h11.1, va_T.moved hal h11.2⟩, h12⟩
abbrev RS : Type := Option (Option Value × HP)
abbrev KK : Type := List Value → List Value → HP → RS
abbrev FF : Type := List Value → HP → RS
/-- what holds of the method that runs -/
def CX (E : EN) (cc : ByteArray) (nL : Nat) (own : String) (ini : Bool) (g : Nat) (p : Program) (R : Room) (s : State) (m : MethodId) (args : Array Value) (meth : Method) (c : Code) : Prop :=
  p.tables.exec = Jvm.exec ∧ c.code = cc ∧ c.maxLocals = nL ∧ s.vm.findClass own = some m.cls ∧ (∀ w ∈ TT, w.before args s = true) ∧ GO E s s.heap ∧ g ≤ R.frames ∧ 40 * g ≤ R.locals ∧ (ini = true → meth.name = "<init>")
/-- the state against its picture -/
def ST (E : EN) (ad0 : Nat → Nat) (N0 mc ms : Nat) (h' : HP) (s : State) (nL : Nat) (ls : List Value) (h : HP) (ad : Nat → Nat) (H : Heap) (locs : List Loc) (cells slots : Nat) (lsA : Array Slot) : Prop :=
  (∀ i, i < N0 → ad i = ad0 i) ∧ (∀ i, OUT ≤ i → ad i = E.2.2.2 i) ∧ N0 ≤ hN h ∧ va_P E.1 CLS (rep E ad h) H ∧ va_D (AA E) (rep E ad h) ∧ va_S (AA E) s.heap H locs ∧ cells + (hN h' - hN h) ≤ mc ∧ slots + (hZ h' - hZ h) ≤ ms ∧ LH lsA nL ad ls
def RetI (ret : Option FieldType) (ins : ClassFile.Instr) (r : Option Value) : Prop :=
  (ins = .return_ ∧ r = none ∧ ret = none) ∨ (ins = .ireturn ∧ ∃ (x : Int32) (ty : FieldType), r = some (.int x) ∧ ret = some ty ∧ narrow ty (.int x) = .int x) ∨ (ins = .areturn ∧ ∃ (v : Value) (ty : FieldType), r = some v ∧ ret = some ty ∧ ((∃ n, ty = .object n) ∨ ∃ t, ty = .array t) ∧ (v = .null ∨ ∃ k, v = .ref k))
/-- what a return must give -/
def RetH (E : EN) (cc : ByteArray) (ret : Option FieldType) (ad0 : Nat → Nat) (N0 mc ms : Nat) (r : Option Value) (h' : HP) (p : Program) (l : Launch) (e : Env) (R : Room) (s : State) (m : MethodId) (args : Array Value) (below : List Frame) (meth : Method) (c : Code) (Q : State → Prop) : Prop :=
  mc ≤ R.cells ∧ ms ≤ R.slots ∧ ∀ (ad : Nat → Nat) (H : Heap) (locs : List Loc) (cells slots pc : Nat) (lsA : Array Slot) (ins : ClassFile.Instr), decode cc pc = .ok (ins, 1) → RetI ret ins r → (∀ i, i < N0 → ad i = ad0 i) → (∀ i, OUT ≤ i → ad i = E.2.2.2 i) → va_P E.1 CLS (rep E ad h') H → va_D (AA E) (rep E ad h') → va_S (AA E) s.heap H locs → cells ≤ mc → slots ≤ ms → W p l e R s m args below meth c H locs cells slots Q (F0 m pc lsA ((r.map (vmap ad)).toList))
def WG (l : Launch) (E : EN) (cc : ByteArray) (nL : Nat) (own : String) (ret : Option FieldType) (ini : Bool) (g pc : Nat) (r : Option Value) (h' : HP) (ls st : List Value) (h : HP) : Prop :=
  ∀ (p : Program) (e : Env) (R : Room) (s : State) (m : MethodId) (args : Array Value) (below : List Frame) (meth : Method) (c : Code), CX E cc nL own ini g p R s m args meth c →
  ∀ (Q : State → Prop) (ad0 : Nat → Nat) (N0 mc ms : Nat), RetH E cc ret ad0 N0 mc ms r h' p l e R s m args below meth c Q →
  ∀ (ad : Nat → Nat) (H : Heap) (locs : List Loc) (cells slots : Nat) (lsA : Array Slot), ST E ad0 N0 mc ms h' s nL ls h ad H locs cells slots lsA →
  W p l e R s m args below meth c H locs cells slots Q (F0 m pc lsA (st.map (vmap ad)))
/-- from pc on the machine does what k says -/
def OKm (l : Launch) (E : EN) (cc : ByteArray) (nL : Nat) (own : String) (ret : Option FieldType) (ini : Bool) (g pc : Nat) (k : KK) : Prop :=
  ∀ (ls st : List Value) (h : HP) (r : Option Value) (h' : HP), k ls st h = some (r, h') → wfl h ls → wfs h st → wfh h → MON h h' r ∧ WG l E cc nL own ret ini g pc r h' ls st h
/-- contracts -/
def adO (E : EN) (ad : Nat → Nat) : Prop := ∀ i, OUT ≤ i → ad i = E.2.2.2 i
def PcA (E : EN) (ad : Nat → Nat) (h : HP) (args : List Value) : Array Value → State → Prop := va_Pc (args.map (vmap ad)) (fun U => va_P E.1 CLS (rep E ad h) U.heap ∧ va_D (AA E) (rep E ad h) ∧ GO E U U.heap)
def QcA (E : EN) (ad : Nat → Nat) (h : HP) (r : Option Value) (h' : HP) : Array Value → State → Outcome → State → Prop := fun _ st oc t =>
  (∃ ad' : Nat → Nat, (∀ i, i < hN h → ad' i = ad i) ∧ adO E ad' ∧ oc = .returned (r.map (vmap ad')) ∧ va_P E.1 CLS (rep E ad' h') t.heap ∧ va_D (AA E) (rep E ad' h')) ∧ va_F (AA E) st t
abbrev rmA (g mc ms : Nat) : Room := { frames := g, cells := mc, slots := ms, locals := 40 * g }
def Snd (l : Launch) (E : EN) (y : MethodName) (cc : ByteArray) (nL : Nat) (ret : Option FieldType) (g : Nat) (f : FF) : Prop :=
  ∀ (args : List Value) (h : HP) (r : Option Value) (h' : HP), f args h = some (r, h') → wfs h args → wfh h → MON h h' r ∧ ∀ ad, adO E ad → Met l y (Cond.code y cc nL ret :: TT) (rmA g (hN h' - hN h) (hZ h' - hZ h)) (PcA E ad h args) (QcA E ad h r h') (hN h' - hN h) (hZ h' - hZ h) (AA E)
