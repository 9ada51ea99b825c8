/-! ===== the abstract heap: ints, references, longs, doubles by object and place; objects have small numbers ===== -/
abbrev Hp : Type := (Nat → Nat → Int32) × (Nat → Nat → Option Nat) × (Nat → Nat → Int64) × (Nat → Nat → UInt64)
def gI (h : Hp) : Nat → Nat → Int32 := h.1
def gR (h : Hp) : Nat → Nat → Option Nat := h.2.1
def gL (h : Hp) : Nat → Nat → Int64 := h.2.2.1
def gD (h : Hp) : Nat → Nat → UInt64 := h.2.2.2
def sI (h : Hp) (a k : Nat) (v : Int32) : Hp := (fun b j => if b = a ∧ j = k then v else h.1 b j, h.2)
def sR (h : Hp) (a k : Nat) (v : Option Nat) : Hp := (h.1, fun b j => if b = a ∧ j = k then v else h.2.1 b j, h.2.2)
def sL (h : Hp) (a k : Nat) (v : Int64) : Hp := (h.1, h.2.1, fun b j => if b = a ∧ j = k then v else h.2.2.1 b j, h.2.2.2)
def sD (h : Hp) (a k : Nat) (v : UInt64) : Hp := (h.1, h.2.1, h.2.2.1, fun b j => if b = a ∧ j = k then v else h.2.2.2 b j)
theorem gI_sI (h : Hp) (a k : Nat) (v : Int32) (b j : Nat) : gI (sI h a k v) b j = if b = a ∧ j = k then v else gI h b j := rfl
theorem gR_sI (h : Hp) (a k : Nat) (v : Int32) : gR (sI h a k v) = gR h := rfl
theorem gL_sI (h : Hp) (a k : Nat) (v : Int32) : gL (sI h a k v) = gL h := rfl
theorem gD_sI (h : Hp) (a k : Nat) (v : Int32) : gD (sI h a k v) = gD h := rfl
theorem gR_sR (h : Hp) (a k : Nat) (v : Option Nat) (b j : Nat) : gR (sR h a k v) b j = if b = a ∧ j = k then v else gR h b j := rfl
theorem gI_sR (h : Hp) (a k : Nat) (v : Option Nat) : gI (sR h a k v) = gI h := rfl
theorem gL_sR (h : Hp) (a k : Nat) (v : Option Nat) : gL (sR h a k v) = gL h := rfl
theorem gD_sR (h : Hp) (a k : Nat) (v : Option Nat) : gD (sR h a k v) = gD h := rfl
theorem gL_sL (h : Hp) (a k : Nat) (v : Int64) (b j : Nat) : gL (sL h a k v) b j = if b = a ∧ j = k then v else gL h b j := rfl
theorem gI_sL (h : Hp) (a k : Nat) (v : Int64) : gI (sL h a k v) = gI h := rfl
theorem gR_sL (h : Hp) (a k : Nat) (v : Int64) : gR (sL h a k v) = gR h := rfl
theorem gD_sL (h : Hp) (a k : Nat) (v : Int64) : gD (sL h a k v) = gD h := rfl
theorem gD_sD (h : Hp) (a k : Nat) (v : UInt64) (b j : Nat) : gD (sD h a k v) b j = if b = a ∧ j = k then v else gD h b j := rfl
theorem gI_sD (h : Hp) (a k : Nat) (v : UInt64) : gI (sD h a k v) = gI h := rfl
theorem gR_sD (h : Hp) (a k : Nat) (v : UInt64) : gR (sD h a k v) = gR h := rfl
theorem gL_sD (h : Hp) (a k : Nat) (v : UInt64) : gL (sD h a k v) = gL h := rfl
/-! the objects: their kinds, by number -/
abbrev Shp : Type := Nat ⊕ (FieldType × Nat)
abbrev ty_pos : FieldType := .object "HexArbiter$Position"

def shL : List Shp := [.inl 11, .inl 5, .inr (.int, 486), .inr (.int, 81), .inr (.int, 81), .inl 7, .inr (.int, 81), .inr (.int, 81), .inr (.int, 81), .inr (.int, 81), .inl 9, .inr (.int, 81), .inr (.int, 200), .inl 9, .inr (.int, 81), .inr (.int, 200), .inl 6, .inr (ty_pos, 8), .inl 9, .inr (.int, 81), .inr (.int, 200), .inl 9, .inr (.int, 81), .inr (.int, 200), .inl 9, .inr (.int, 81), .inr (.int, 200), .inl 9, .inr (.int, 81), .inr (.int, 200), .inl 9, .inr (.int, 81), .inr (.int, 200), .inl 9, .inr (.int, 81), .inr (.int, 200), .inl 9, .inr (.int, 81), .inr (.int, 200), .inl 9, .inr (.int, 81), .inr (.int, 200), .inl 9, .inr (.int, 81), .inr (.int, 200), .inl 9, .inr (.int, 81), .inr (.int, 200), .inl 1, .inr (.int, 400), .inl 1, .inr (.int, 9), .inl 10, .inl 9, .inr (.int, 81), .inr (.int, 200), .inl 0, .inr (.int, 405), .inr (.int, 405), .inr (.int, 405), .inr (.int, 405), .inr (.int, 405), .inr (.int, 81), .inl 8, .inr (.int, 81), .inr (.int, 81), .inr (.int, 81), .inl 8, .inr (.int, 81), .inr (.int, 81), .inr (.int, 81), .inl 4, .inr (.int, 81), .inr (.int, 81), .inl 2, .inr (.int, 81), .inr (.int, 6), .inr (.int, 64), .inl 3, .inr (.int, 81)]
def shp (i : Nat) : Option Shp := shL[i]?
abbrev KN : Nat := 80
theorem shL_len : shL.length = KN := rfl
def cty (c : Nat) : Nat → FieldType := match c with
  | 0 => tyX0
  | 1 => tyX1
  | 2 => tyX2
  | 3 => tyX3
  | 4 => tyX4
  | 5 => tyX5
  | 6 => tyX6
  | 7 => tyX7
  | 8 => tyX8
  | 9 => tyX9
  | 10 => tyX10
  | 11 => tyX11
  | 12 => tyJ0
  | _ => tyJ4
abbrev cn (c : Nat) : Nat := ((vwCl[c]?).getD (RX0, TX0, 0)).2.2
abbrev cT (c : Nat) : u_T := ((vwCl[c]?).getD (RX0, TX0, 0)).2.1
abbrev cR (c : Nat) : String := ((vwCl[c]?).getD (RX0, TX0, 0)).1
/-- what is fixed for a run: classes' numbers and slots, array classes, the first new cell, where old cells lie, the script's length, what old arrays hold, what comes behind the class's objects -/
abbrev Cx : Type := va_G × (FieldType → ClassId) × Nat × (Nat → Nat) × Nat × (Nat → Nat → Int32) × List Shp
abbrev xD (C : Cx) : va_G := C.1
abbrev xA (C : Cx) : FieldType → ClassId := C.2.1
abbrev xB (C : Cx) : Nat := C.2.2.1
abbrev xO (C : Cx) : Nat → Nat := C.2.2.2.1
abbrev xV (C : Cx) : Nat → Nat → Int32 := C.2.2.2.2.2.1
abbrev xE (C : Cx) : List Shp := C.2.2.2.2.2.2
/-- the script's length: it lies at 1201 of the old numbers -/
abbrev xL (C : Cx) : Nat := (xV C 1201 0).toInt.toNat
/-- all objects of the run -/
def KC (C : Cx) : Nat := KN + (xE C).length
def shC (C : Cx) (i : Nat) : Option Shp := if i < KN then shp i else (xE C)[i - KN]?
theorem shp_C {C : Cx} {i : Nat} {x : Shp} (h : shp i = some x) : shC C i = some x := by
  have hl : i < KN := by
    have := (List.getElem?_eq_some_iff.mp h).1
    rwa [shL_len] at this
  unfold shC
  rw [if_pos hl]
  exact h
theorem shC_lt {C : Cx} {i : Nat} {x : Shp} (h : shC C i = some x) : i < KC C := by
  unfold shC at h
  unfold KC
  split at h
  · omega
  · have := (List.getElem?_eq_some_iff.mp h).1
    omega
def ad (C : Cx) (i : Nat) : Nat := if i < 1000 then xB C + i else xO C i
def up (C : Cx) (v : Value) : Value := match v with
  | .ref i => .ref (ad C i)
  | w => w
theorem up_int (C : Cx) (x : Int32) : up C (.int x) = .int x := rfl
theorem up_long (C : Cx) (x : Int64) : up C (.long x) = .long x := rfl
theorem up_float (C : Cx) (x : UInt32) : up C (.float x) = .float x := rfl
theorem up_double (C : Cx) (x : UInt64) : up C (.double x) = .double x := rfl
theorem up_null (C : Cx) : up C .null = .null := rfl
theorem up_ref (C : Cx) (i : Nat) : up C (.ref i) = .ref (ad C i) := rfl
theorem up_cat (C : Cx) (v : Value) : (up C v).category = v.category := by cases v <;> rfl
def isR (ty : FieldType) : Bool := match ty with
  | .object _ => true
  | .array _ => true
  | _ => false
def isI (ty : FieldType) : Bool := match ty with
  | .int => true
  | .boolean => true
  | .byte => true
  | _ => false
def fv (C : Cx) (h : Hp) (i k : Nat) (ty : FieldType) : Value := match ty with
  | .long => .long (gL h i k)
  | .double => .double (gD h i k)
  | .object _ => va_rf ((gR h i k).map (ad C))
  | .array _ => va_rf ((gR h i k).map (ad C))
  | _ => .int (gI h i k)
def ac (C : Cx) (h : Hp) (i : Nat) (ty : FieldType) : (Nat → Int32) ⊕ (Nat → Int64) ⊕ (Nat → UInt32) ⊕ (Nat → UInt64) ⊕ (Nat → Option Nat) := match ty with
  | .long => .inr (.inl (gL h i))
  | .double => .inr (.inr (.inr (.inl (gD h i))))
  | .object _ => .inr (.inr (.inr (.inr (fun j => (gR h i j).map (ad C)))))
  | .array _ => .inr (.inr (.inr (.inr (fun j => (gR h i j).map (ad C)))))
  | _ => .inl (gI h i)
def ce (C : Cx) (h : Hp) (i : Nat) : va_E := match shC C i with
  | some (.inl c) => .inr (c, (List.range (cn c)).map (fun k => fv C h i k (cty c k)))
  | some (.inr (ty, n)) => .inl (xA C ty, (n, ac C h i ty))
  | none => .inr (0, [])
/-- the world: the first nx objects -/
def wl (C : Cx) (nx : Nat) (h : Hp) : va_W := (List.range nx).map (fun i => (xB C + i, ce C h i))
theorem wl_at (C : Cx) (nx : Nat) (h : Hp) {i : Nat} (hi : i < nx) : (wl C nx h)[i]? = some (xB C + i, ce C h i) := by simp [wl, hi]
theorem wl_len (C : Cx) (nx : Nat) (h : Hp) : (wl C nx h).length = nx := by simp [wl]
def xAl (C : Cx) : Nat → Prop := fun q => xB C ≤ q
theorem wl_D (C : Cx) (nx : Nat) (h : Hp) : va_D (xAl C) (wl C nx h) := by
  refine ⟨fun i j p q hi hj e => ?_, fun k q hk => ?_⟩
  · have h1 : i < nx := by have := (List.getElem?_eq_some_iff.mp hi).1; rwa [wl_len] at this
    have h2 : j < nx := by have := (List.getElem?_eq_some_iff.mp hj).1; rwa [wl_len] at this
    rw [wl_at C nx h h1] at hi
    rw [wl_at C nx h h2] at hj
    cases hi; cases hj
    exact Nat.add_left_cancel e
  · have h1 : k < nx := by have := (List.getElem?_eq_some_iff.mp hk).1; rwa [wl_len] at this
    rw [wl_at C nx h h1] at hk
    cases hk
    exact Nat.le_add_right _ _
theorem wl_set (C : Cx) (nx : Nat) (h h' : Hp) (i : Nat) (ho : ∀ j, j ≠ i → ce C h' j = ce C h j) : (wl C nx h).set i (xB C + i, ce C h' i) = wl C nx h' := by
  refine List.ext_getElem? fun k => ?_
  rw [List.getElem?_set]
  by_cases hk : i = k
  · subst hk
    by_cases hn : i < nx
    · rw [if_pos rfl, wl_len, if_pos hn, wl_at C nx h' hn]
    · rw [if_pos rfl, wl_len, if_neg hn]
      exact (List.getElem?_eq_none (by rw [wl_len]; exact Nat.le_of_not_lt hn)).symm
  · rw [if_neg hk]
    by_cases hn : k < nx
    · rw [wl_at C nx h hn, wl_at C nx h' hn, ho k (fun e => hk e.symm)]
    · rw [List.getElem?_eq_none (by rw [wl_len]; exact Nat.le_of_not_lt hn), List.getElem?_eq_none (by rw [wl_len]; exact Nat.le_of_not_lt hn)]
theorem ce_congr (C : Cx) (h h' : Hp) (i : Nat) (e1 : ∀ k, gI h' i k = gI h i k) (e2 : ∀ k, gR h' i k = gR h i k) (e3 : ∀ k, gL h' i k = gL h i k) (e4 : ∀ k, gD h' i k = gD h i k) : ce C h' i = ce C h i := by
  have f1 : gI h' i = gI h i := funext e1
  have f2 : gR h' i = gR h i := funext e2
  have f3 : gL h' i = gL h i := funext e3
  have f4 : gD h' i = gD h i := funext e4
  unfold ce fv ac
  simp only [f1, f2, f3, f4]
theorem ce_sI (C : Cx) (h : Hp) (a k : Nat) (v : Int32) (j : Nat) (hj : j ≠ a) : ce C (sI h a k v) j = ce C h j :=
  ce_congr C h _ j (fun q => by rw [gI_sI, if_neg (fun e => hj e.1)]) (fun _ => rfl) (fun _ => rfl) (fun _ => rfl)
theorem ce_sR (C : Cx) (h : Hp) (a k : Nat) (v : Option Nat) (j : Nat) (hj : j ≠ a) : ce C (sR h a k v) j = ce C h j :=
  ce_congr C h _ j (fun _ => rfl) (fun q => by rw [gR_sR, if_neg (fun e => hj e.1)]) (fun _ => rfl) (fun _ => rfl)
theorem ce_sL (C : Cx) (h : Hp) (a k : Nat) (v : Int64) (j : Nat) (hj : j ≠ a) : ce C (sL h a k v) j = ce C h j :=
  ce_congr C h _ j (fun _ => rfl) (fun _ => rfl) (fun q => by rw [gL_sL, if_neg (fun e => hj e.1)]) (fun _ => rfl)
theorem ce_sD (C : Cx) (h : Hp) (a k : Nat) (v : UInt64) (j : Nat) (hj : j ≠ a) : ce C (sD h a k v) j = ce C h j :=
  ce_congr C h _ j (fun _ => rfl) (fun _ => rfl) (fun _ => rfl) (fun q => by rw [gD_sD, if_neg (fun e => hj e.1)])
theorem ce_objC (C : Cx) (h : Hp) {i c : Nat} (hs : shC C i = some (.inl c)) : ce C h i = .inr (c, (List.range (cn c)).map (fun k => fv C h i k (cty c k))) := by
  unfold ce; rw [hs]
theorem ce_arrC (C : Cx) (h : Hp) {i n : Nat} {ty : FieldType} (hs : shC C i = some (.inr (ty, n))) : ce C h i = .inl (xA C ty, (n, ac C h i ty)) := by
  unfold ce; rw [hs]
theorem ce_obj (C : Cx) (h : Hp) {i c : Nat} (hs : shp i = some (.inl c)) : ce C h i = .inr (c, (List.range (cn c)).map (fun k => fv C h i k (cty c k))) := ce_objC C h (shp_C hs)
theorem ce_arr (C : Cx) (h : Hp) {i n : Nat} {ty : FieldType} (hs : shp i = some (.inr (ty, n))) : ce C h i = .inl (xA C ty, (n, ac C h i ty)) := ce_arrC C h (shp_C hs)
theorem shp_lt {i : Nat} {x : Shp} (hs : shp i = some x) : i < KN := by
  have := (List.getElem?_eq_some_iff.mp hs).1
  rwa [shL_len] at this
theorem ad_lt {C : Cx} {i : Nat} (h : i < KN) : ad C i = xB C + i := by unfold ad; rw [if_pos (by unfold KN at h; omega)]
theorem ad_l9 {C : Cx} {i : Nat} (h : i < 1000) : ad C i = xB C + i := by unfold ad; rw [if_pos h]
/-- a field's new value -/
theorem fl_set (C : Cx) (h h' : Hp) (i c k : Nat) (v : Value) (hk : k < cn c) (hv : fv C h' i k (cty c k) = v) (ho : ∀ j, j ≠ k → fv C h' i j (cty c j) = fv C h i j (cty c j)) :
    ((List.range (cn c)).map (fun k => fv C h i k (cty c k))).set k v = (List.range (cn c)).map (fun k => fv C h' i k (cty c k)) := by
  refine List.ext_getElem? fun j => ?_
  rw [List.getElem?_set]
  by_cases hj : k = j
  · subst hj
    simp [hk, hv]
  · by_cases hn : j < cn c
    · simp [hj, hn, ho j (fun e => hj e.symm)]
    · simp [hj, hn]

