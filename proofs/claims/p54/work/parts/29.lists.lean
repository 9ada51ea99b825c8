/-! ===== questions to the list of bridges ===== -/
/-- the first place of m where p holds; m if there is none -/
noncomputable def fst1 (p : Nat → Prop) (m : Nat) : Nat := @dite _ (∃ k, k < m ∧ p k ∧ ∀ j, j < k → ¬ p j) (Classical.propDecidable _) (fun h => h.choose) (fun _ => m)
theorem fst1_k {p : Nat → Prop} {m k : Nat} (hk : k < m) (hp : p k) (hn : ∀ j, j < k → ¬ p j) : fst1 p m = k := by
  unfold fst1
  have h : ∃ k, k < m ∧ p k ∧ ∀ j, j < k → ¬ p j := ⟨k, hk, hp, hn⟩
  rw [dif_pos h]
  obtain ⟨h1, h2, h3⟩ := h.choose_spec
  rcases Nat.lt_trichotomy h.choose k with q | q | q
  · exact absurd h2 (hn _ q)
  · exact q
  · exact absurd hp (h3 _ q)
theorem fst1_no {p : Nat → Prop} {m : Nat} (hn : ∀ j, j < m → ¬ p j) : fst1 p m = m := by
  unfold fst1
  exact dif_neg (fun ⟨k, hk, hp, _⟩ => hn k hk hp)
theorem fst1_congr {p q : Nat → Prop} {m : Nat} (h : ∀ i, i < m → (p i ↔ q i)) : fst1 p m = fst1 q m := by
  by_cases hx : ∃ i, i < m ∧ p i
  · obtain ⟨i, hi, hp⟩ := hx
    obtain ⟨k, k1, k2, k3⟩ := least_ex hp
    rw [fst1_k (show k < m by omega) k2 k3, fst1_k (show k < m by omega) ((h k (by omega)).mp k2) (fun j hj w => k3 j hj ((h j (by omega)).mpr w))]
  · rw [fst1_no (fun j hj w => hx ⟨j, hj, w⟩), fst1_no (fun j hj w => hx ⟨j, hj, (h j hj).mpr w⟩)]
/-- entries of a list -/
def eLow (st : BL) (i : Nat) : Nat := (st.2.1 i).1.toNat
def eOth (st : BL) (i : Nat) : Int := (st.2.1 i).2.1
def eCa (st : BL) (i : Nat) : Int := (st.2.1 i).2.2.1
def eCb (st : BL) (i : Nat) : Int := (st.2.1 i).2.2.2.1
def eCt (st : BL) (i : Nat) : Int := (st.2.1 i).2.2.2.2
/-- how many count -/
noncomputable def bcnt (st : BL) : Nat := cnt (fun i => eCt st i = 1) st.1
/-- the other carrier of the one that counts -/
noncomputable def ocr (st : BL) (c : Int) : Int := if fst1 (fun i => eCt st i = 1 ∧ (eCa st i = c ∨ eCb st i = c)) st.1 < st.1 then (if eCa st (fst1 (fun i => eCt st i = 1 ∧ (eCa st i = c ∨ eCb st i = c)) st.1) = c then eCb st (fst1 (fun i => eCt st i = 1 ∧ (eCa st i = c ∨ eCb st i = c)) st.1) else eCa st (fst1 (fun i => eCt st i = 1 ∧ (eCa st i = c ∨ eCb st i = c)) st.1)) else -1
section LISTS
variable {n : Nat} {f : Nat → Int} {sd : Int} {st : BL} {s : Sg}
theorem BW.low (h : BW n f sd st) {i : Nat} (hi : i < st.1) : (st.2.1 i).1 = (eLow st i : Int) ∧ eLow st i < n * n ∧ f (eLow st i) = sd := by
  obtain ⟨k, l, g, e1, e2, e3, h1, h2, h3, h4, h5, h6, h7, h8⟩ := h.1 i hi
  unfold eLow
  rw [e1]
  exact ⟨rfl, h1, h4⟩
theorem BW.ct (h : BW n f sd st) {i : Nat} (hi : i < st.1) : eCt st i = 0 ∨ eCt st i = 1 := by
  obtain ⟨k, l, g, e1, e2, e3, h1, h2, h3, h4, h5, h6, h7, h8⟩ := h.1 i hi
  exact h8
theorem BW.car (h : BW n f sd st) {i : Nat} (hi : i < st.1) : ∃ l g : Nat, eCa st i = (l : Int) ∧ eCb st i = (g : Int) ∧ l < g ∧ g < n * n ∧ f l = -1 ∧ f g = -1 := by
  obtain ⟨k, l, g, e1, e2, e3, h1, h2, h3, h4, h5, h6, h7, h8⟩ := h.1 i hi
  exact ⟨l, g, e2, e3, h2, h3, h5, h6⟩
theorem BW.oth (h : BW n f sd st) {i : Nat} (hi : i < st.1) : (∃ o : Nat, eOth st i = (o : Int) ∧ o < n * n ∧ f o = sd ∧ eLow st i < o) ∨ eOth st i = -10 ∨ eOth st i = -11 := by
  obtain ⟨k, l, g, e1, e2, e3, h1, h2, h3, h4, h5, h6, h7, h8⟩ := h.1 i hi
  unfold eLow
  rw [e1]
  exact h7
theorem BW.ctR (h : BW n f sd st) {i : Nat} (hi : i < st.1) : R (eCt st i) := by rcases h.ct hi with e | e <;> rw [e] <;> unfold R <;> omega
theorem BW.othR (hn : n ≤ 9) (h : BW n f sd st) {i : Nat} (hi : i < st.1) : R (eOth st i) := by
  have h81 := nn_le hn
  rcases h.oth hi with ⟨o, e, ho, -⟩ | e | e
  · rw [e]; exact R_nat (by omega)
  · rw [e]; unfold R; omega
  · rw [e]; unfold R; omega
theorem Bl_counting_eq (hB : ClB s st) (hw : BW n f sd st) (hm : st.1 ≤ 405) : Bl_counting s = some ((bcnt st : Nat) : Int) := by
  have a61 : alen 61 = 405 := rfl
  unfold Bl_counting Bl_counting_l4 bcnt
  have key : whl (fun σ : Int × Int => Bl_counting_t4 σ.1 σ.2 s) (0, 0) = some ((cnt (fun i => eCt st i = 1) st.1 : Nat) : Int) := by
    refine whl_up st.1 (fun i => (((cnt (fun i => eCt st i = 1) i : Nat) : Int), (i : Int))) _ (fun i hi => ?_) ?_
    · show Bl_counting_t4 ((cnt (fun i => eCt st i = 1) i : Nat) : Int) (i : Int) s = _
      unfold Bl_counting_t4
      rw [hB.1, ifLt_eq _ _ (R_nat (by omega)) (R_nat (by omega)), if_pos (by omega), Hx_at_n (by omega), bnd_some, (hB.2.1 i hi).2.2.2.2, lett_eq]
      rcases hw.ct hi with e | e
      · have e' : (st.2.1 i).2.2.2.2 = 0 := e
        rw [e', cnt_f (p := fun i => eCt st i = 1) (by rw [e]; omega), Int.add_zero]; rfl
      · have e' : (st.2.1 i).2.2.2.2 = 1 := e
        rw [e', cnt_t (p := fun i => eCt st i = 1) e]; rfl
    · show Bl_counting_t4 _ (st.1 : Int) s = _
      unfold Bl_counting_t4
      rw [hB.1, ifLt_eq _ _ (R_nat (by omega)) (R_nat (by omega)), if_neg (by omega)]
  rw [key]; rfl
theorem Bl_otherCarrier_eq {c : Int} (hn : n ≤ 9) (hB : ClB s st) (hw : BW n f sd st) (hm : st.1 ≤ 405) (hc : R c) : Bl_otherCarrier c s = some (ocr st c) := by
  have h81 := nn_le hn
  have a61 : alen 61 = 405 := rfl
  have a59 : alen 59 = 405 := rfl
  have a60 : alen 60 = 405 := rfl
  unfold Bl_otherCarrier Bl_otherCarrier_l2
  have hcar : ∀ i, i < st.1 → R (eCa st i) ∧ R (eCb st i) := fun i hi => by
    obtain ⟨l, g, e1, e2, h1, h2, -⟩ := hw.car hi
    rw [e1, e2]
    exact ⟨R_nat (by omega), R_nat (by omega)⟩
  have stp : ∀ i : Nat, i < st.1 → Bl_otherCarrier_t2 c (i : Int) s = if eCt st i = 1 then (if eCa st i = c then some (.inr (.inl (eCa st i, eCb st i))) else if eCb st i = c then some (.inr (.inl (eCa st i, eCb st i))) else some (.inl ((i : Int) + 1))) else some (.inl ((i : Int) + 1)) := by
    intro i hi
    unfold Bl_otherCarrier_t2 Bl_otherCarrier_b64
    rw [hB.1, ifLt_eq _ _ (R_nat (by omega)) (R_nat (by omega)), if_pos (by omega), Hx_at_n (by omega), bnd_some, (hB.2.1 i hi).2.2.2.2]
    show ifEq (eCt st i) 1 _ _ = _
    rw [ifEq_eq _ _ (hw.ctR hi) R1]
    by_cases e : eCt st i = 1
    · rw [if_pos e, if_pos e, Hx_at_n (by omega), bnd_some, Hx_at_n (by omega), bnd_some, (hB.2.1 i hi).2.2.1, (hB.2.1 i hi).2.2.2.1]
      show ifEq (eCa st i) c _ (ifEq (eCb st i) c _ _) = _
      rw [ifEq_eq _ _ (hcar i hi).1 hc, ifEq_eq _ _ (hcar i hi).2 hc]
      rfl
    · rw [if_neg e, if_neg e]
  have s1 : ∀ i : Nat, i < st.1 → (eCt st i = 1 ∧ (eCa st i = c ∨ eCb st i = c)) → Bl_otherCarrier_t2 c (i : Int) s = some (.inr (.inl (eCa st i, eCb st i))) := by
    intro i hi hp
    rw [stp i hi, if_pos hp.1]
    by_cases e : eCa st i = c
    · rw [if_pos e]
    · rw [if_neg e, if_pos (hp.2.resolve_left e)]
  have s2 : ∀ i : Nat, i < st.1 → ¬ (eCt st i = 1 ∧ (eCa st i = c ∨ eCb st i = c)) → Bl_otherCarrier_t2 c (i : Int) s = some (.inl ((i + 1 : Nat) : Int)) := by
    intro i hi hp
    rw [stp i hi]
    by_cases e : eCt st i = 1
    · rw [if_pos e, if_neg (fun q => hp ⟨e, Or.inl q⟩), if_neg (fun q => hp ⟨e, Or.inr q⟩)]; rfl
    · rw [if_neg e]; rfl
  have s3 : Bl_otherCarrier_t2 c (st.1 : Int) s = some (.inr (.inr ())) := by
    unfold Bl_otherCarrier_t2
    rw [hB.1, ifLt_eq _ _ (R_nat (by omega)) (R_nat (by omega)), if_neg (by omega)]
  rcases whl_find (f := fun σ : Int => Bl_otherCarrier_t2 c σ s) (fun i => (i : Int)) st.1 (fun i => eCt st i = 1 ∧ (eCa st i = c ∨ eCb st i = c)) (fun i => .inl (eCa st i, eCb st i)) (.inr ()) s1 s2 s3 with ⟨k, hk, hp, hno, e⟩ | ⟨hno, e⟩
  · have e' : whl (fun σ : Int => Bl_otherCarrier_t2 c σ s) 0 = some (.inl (eCa st k, eCb st k)) := e
    rw [e', bnd_some]
    show Bl_otherCarrier_b52 c (eCa st k) (eCb st k) s = _
    unfold Bl_otherCarrier_b52 ocr
    rw [fst1_k hk hp hno, if_pos hk, ifEq_eq _ _ (hcar k hk).1 hc]
    split <;> rfl
  · have e' : whl (fun σ : Int => Bl_otherCarrier_t2 c σ s) 0 = some (.inr ()) := e
    rw [e', bnd_some]
    unfold ocr
    rw [fst1_no hno, if_neg (Nat.lt_irrefl _)]
theorem ocr_rg (hw : BW n f sd st) {c : Int} : ocr st c = -1 ∨ ∃ y : Nat, ocr st c = (y : Int) ∧ y < n * n ∧ f y = -1 := by
  unfold ocr
  by_cases h : fst1 (fun i => eCt st i = 1 ∧ (eCa st i = c ∨ eCb st i = c)) st.1 < st.1
  · rw [if_pos h]
    obtain ⟨l, g, e1, e2, h1, h2, h3, h4⟩ := hw.car h
    split
    · exact Or.inr ⟨g, e2, h2, h4⟩
    · exact Or.inr ⟨l, e1, by omega, h3⟩
  · rw [if_neg h]; exact Or.inl rfl
/-- a stone is no carrier -/
theorem ocr_stone (hw : BW n f sd st) {c : Nat} (hc : f c ≠ -1) : ocr st (c : Int) = -1 := by
  unfold ocr
  rw [fst1_no, if_neg (Nat.lt_irrefl _)]
  rintro j hj ⟨-, q⟩
  obtain ⟨l, g, e1, e2, h1, h2, h3, h4⟩ := hw.car hj
  rcases q with q | q
  · have : l = c := by omega
    exact hc (this ▸ h3)
  · have : g = c := by omega
    exact hc (this ▸ h4)
end LISTS
/-! which bridges are in the list -/
def bMem (st : BL) (a b : Int) : Prop := ∃ i, i < st.1 ∧ (st.2.1 i).1 = a ∧ (st.2.1 i).2.1 = b
theorem bMem_add {st : BL} {k o l g a b : Int} : bMem (addB k o l g st) a b ↔ bMem st a b ∨ (k = a ∧ o = b) := by
  constructor
  · rintro ⟨i, hi, h1, h2⟩
    by_cases e : i = st.1
    · have e1 : (addB k o l g st).2.1 i = (k, o, l, g, if st.2.2 l.toNat = 0 ∧ st.2.2 g.toNat = 0 then 1 else 0) := if_pos e
      rw [e1] at h1 h2
      exact Or.inr ⟨h1, h2⟩
    · have e1 : (addB k o l g st).2.1 i = st.2.1 i := if_neg e
      rw [e1] at h1 h2
      have : i < st.1 + 1 := hi
      exact Or.inl ⟨i, by omega, h1, h2⟩
  · rintro (⟨i, hi, h1, h2⟩ | ⟨h1, h2⟩)
    · have e1 : (addB k o l g st).2.1 i = st.2.1 i := if_neg (by omega)
      exact ⟨i, by show i < st.1 + 1; omega, by rw [e1]; exact h1, by rw [e1]; exact h2⟩
    · have e1 : (addB k o l g st).2.1 st.1 = (k, o, l, g, if st.2.2 l.toNat = 0 ∧ st.2.2 g.toNat = 0 then 1 else 0) := if_pos rfl
      exact ⟨st.1, by show st.1 < st.1 + 1; omega, by rw [e1]; exact h1, by rw [e1]; exact h2⟩
theorem bMem_J {n k j : Nat} {f : Nat → Int} {st : BL} {a b : Int} : bMem (stepJ n f k st j) a b ↔ bMem st a b ∨ (cellC n f k j ∧ (k : Int) = a ∧ far n k j = b) := by
  unfold stepJ
  by_cases h : cellC n f k j
  · rw [if_pos h, bMem_add]
    exact ⟨fun q => q.imp id fun w => ⟨h, w⟩, fun q => q.imp id fun w => w.2⟩
  · rw [if_neg h]
    exact ⟨Or.inl, fun q => q.elim id fun w => absurd w.1 h⟩
theorem bMem_E {n k e : Nat} {f : Nat → Int} {sd : Int} {st : BL} {a b : Int} (hb : 0 ≤ b) : bMem (stepE n f sd k st e) a b ↔ bMem st a b := by
  unfold stepE
  by_cases h : edgC n f sd k e
  · rw [if_pos h, bMem_add]
    exact ⟨fun q => q.elim id fun w => by omega, Or.inl⟩
  · rw [if_neg h]
theorem bMem_brl {n : Nat} {f : Nat → Int} {sd : Int} {a b : Int} (hb : 0 ≤ b) : ∀ N, bMem (brl n f sd N) a b ↔ ∃ k, k < N ∧ f k = sd ∧ (k : Int) = a ∧ ∃ j, j < 3 ∧ cellC n f k j ∧ far n k j = b
  | 0 => ⟨fun ⟨i, hi, _⟩ => absurd hi (Nat.not_lt_zero i), fun ⟨k, hk, _⟩ => absurd hk (Nat.not_lt_zero k)⟩
  | N + 1 => by
    have ih := bMem_brl (n := n) (f := f) (sd := sd) (a := a) hb N
    have ext : (∃ k, k < N + 1 ∧ f k = sd ∧ (k : Int) = a ∧ ∃ j, j < 3 ∧ cellC n f k j ∧ far n k j = b) ↔ (∃ k, k < N ∧ f k = sd ∧ (k : Int) = a ∧ ∃ j, j < 3 ∧ cellC n f k j ∧ far n k j = b) ∨ (f N = sd ∧ (N : Int) = a ∧ ∃ j, j < 3 ∧ cellC n f N j ∧ far n N j = b) := exs_s (fun k => f k = sd ∧ (k : Int) = a ∧ ∃ j, j < 3 ∧ cellC n f k j ∧ far n k j = b) N
    rw [ext]
    show bMem (cellS n f sd (brl n f sd N) N) a b ↔ _
    unfold cellS
    by_cases h : f N = sd
    · rw [if_pos h, bMem_E hb, bMem_E hb, bMem_J, bMem_J, bMem_J, ih]
      constructor
      · rintro (((q | ⟨q1, q2, q3⟩) | ⟨q1, q2, q3⟩) | ⟨q1, q2, q3⟩)
        · exact Or.inl q
        · exact Or.inr ⟨h, q2, 0, by omega, q1, q3⟩
        · exact Or.inr ⟨h, q2, 1, by omega, q1, q3⟩
        · exact Or.inr ⟨h, q2, 2, by omega, q1, q3⟩
      · rintro (q | ⟨-, q2, j, hj, q1, q3⟩)
        · exact Or.inl (Or.inl (Or.inl q))
        · obtain rfl | rfl | rfl : j = 0 ∨ j = 1 ∨ j = 2 := by omega
          · exact Or.inl (Or.inl (Or.inr ⟨q1, q2, q3⟩))
          · exact Or.inl (Or.inr ⟨q1, q2, q3⟩)
          · exact Or.inr ⟨q1, q2, q3⟩
    · rw [if_neg h, ih]
      exact ⟨Or.inl, fun q => q.elim id fun w => absurd w.1 h⟩
theorem Bl_has_eq {n : Nat} {f : Nat → Int} {sd : Int} {st : BL} {s : Sg} {a b : Nat} (hn : n ≤ 9) (hB : ClB s st) (hw : BW n f sd st) (hm : st.1 ≤ 405) (ha : a < n * n) (hb : b < n * n) : Bl_has (a : Int) (b : Int) s = some (bI (bMem st (a : Int) (b : Int))) := by
  have h81 := nn_le hn
  have a57 : alen 57 = 405 := rfl
  have a58 : alen 58 = 405 := rfl
  unfold Bl_has Bl_has_l2
  have stp : ∀ i : Nat, i < st.1 → Bl_has_t2 (a : Int) (b : Int) (i : Int) s = if (st.2.1 i).1 = (a : Int) then (if (st.2.1 i).2.1 = (b : Int) then some (.inr (.inl ())) else some (.inl ((i : Int) + 1))) else some (.inl ((i : Int) + 1)) := by
    intro i hi
    have hl := hw.low hi
    have hlR : R (st.2.1 i).1 := by rw [hl.1]; exact R_nat (by omega)
    have hoR : R (st.2.1 i).2.1 := hw.othR hn hi
    unfold Bl_has_t2 Bl_has_b36
    rw [hB.1, ifLt_eq _ _ (R_nat (by omega)) (R_nat (by omega)), if_pos (by omega), Hx_at_n (by omega), bnd_some, (hB.2.1 i hi).1, ifEq_eq _ _ hlR (R_nat (by omega)), Hx_at_n (by omega), bnd_some, (hB.2.1 i hi).2.1, ifEq_eq _ _ hoR (R_nat (by omega))]
  have s1 : ∀ i : Nat, i < st.1 → ((st.2.1 i).1 = (a : Int) ∧ (st.2.1 i).2.1 = (b : Int)) → Bl_has_t2 (a : Int) (b : Int) (i : Int) s = some (.inr (.inl ())) := fun i hi hp => by rw [stp i hi, if_pos hp.1, if_pos hp.2]
  have s2 : ∀ i : Nat, i < st.1 → ¬ ((st.2.1 i).1 = (a : Int) ∧ (st.2.1 i).2.1 = (b : Int)) → Bl_has_t2 (a : Int) (b : Int) (i : Int) s = some (.inl ((i + 1 : Nat) : Int)) := fun i hi hp => by
    rw [stp i hi]
    by_cases e : (st.2.1 i).1 = (a : Int)
    · rw [if_pos e, if_neg (fun q => hp ⟨e, q⟩)]; rfl
    · rw [if_neg e]; rfl
  have s3 : Bl_has_t2 (a : Int) (b : Int) (st.1 : Int) s = some (.inr (.inr ())) := by
    unfold Bl_has_t2
    rw [hB.1, ifLt_eq _ _ (R_nat (by omega)) (R_nat (by omega)), if_neg (by omega)]
  rcases whl_find (f := fun σ : Int => Bl_has_t2 (a : Int) (b : Int) σ s) (fun i => (i : Int)) st.1 (fun i => (st.2.1 i).1 = (a : Int) ∧ (st.2.1 i).2.1 = (b : Int)) (fun _ => .inl ()) (.inr ()) s1 s2 s3 with ⟨k, hk, hp, -, e⟩ | ⟨hno, e⟩
  · have e' : whl (fun σ : Int => Bl_has_t2 (a : Int) (b : Int) σ s) 0 = some (.inl ()) := e
    rw [e', bI_t ⟨k, hk, hp⟩]; rfl
  · have e' : whl (fun σ : Int => Bl_has_t2 (a : Int) (b : Int) σ s) 0 = some (.inr ()) := e
    rw [e', bI_f (fun ⟨k, hk, hp⟩ => hno k hk hp)]; rfl
/-- a bridge of two cells, in any order, is in the list -/
theorem BrC_symm {n x y : Nat} {f : Nat → Int} (hx : x < n * n) (hy : y < n * n) (h : BrC n f x y) : BrC n f y x := by
  obtain ⟨h1, h2, h3, h4, a, b, w1, w2, w3, w4, w5⟩ := h
  exact ⟨fun e => h1 e.symm, by rw [← h3]; exact h2, h3.symm, fun q => h4 (adj_symm hy q), a, b, w1, w2, w3, w4, fun z hz => by rw [and_comm]; exact w5 z hz⟩
theorem bMem_BrC {n x y : Nat} {f : Nat → Int} {sd : Int} (hx : x < n * n) (hy : y < n * n) (hs : f x = sd) (hne : sd ≠ -1) : bMem (brl n f sd (n * n)) ((min x y : Nat) : Int) ((max x y : Nat) : Int) ↔ BrC n f x y := by
  rw [bMem_brl (by omega)]
  constructor
  · rintro ⟨k, hk, fk, ek, j, hj, hc, ef⟩
    have hk2 : k = min x y := by omega
    obtain ⟨h1, h2, -⟩ := far_ok hk hj ef
    have hB : BrC n f k (max x y) := (BrC_far hk h2 h1 (by rw [fk]; exact hne)).mpr ⟨j, hj, ef, hc⟩
    rcases Nat.le_total x y with q | q
    · have e1 : min x y = x := by omega
      have e2 : max x y = y := by omega
      rw [hk2, e1, e2] at hB
      exact hB
    · have e1 : min x y = y := by omega
      have e2 : max x y = x := by omega
      rw [hk2, e1, e2] at hB
      exact BrC_symm hy hx hB
  · intro hB
    have hne2 := hB.1
    have hf := hB.2.2.1
    have key : ∀ a b, a < b → a < n * n → b < n * n → f a = sd → BrC n f a b → ∃ k, k < n * n ∧ f k = sd ∧ (k : Int) = (a : Int) ∧ ∃ j, j < 3 ∧ cellC n f k j ∧ far n k j = (b : Int) := by
      intro a b hab ha hb fa hBr
      obtain ⟨j, hj, ef, hc⟩ := (BrC_far ha hb hab (by rw [fa]; exact hne)).mp hBr
      exact ⟨a, ha, fa, rfl, j, hj, hc, ef⟩
    rcases Nat.le_total x y with q | q
    · have e1 : min x y = x := by omega
      have e2 : max x y = y := by omega
      rw [e1, e2]
      exact key x y (by omega) hx hy hs hB
    · have e1 : min x y = y := by omega
      have e2 : max x y = x := by omega
      rw [e1, e2]
      exact key y x (by omega) hy hx (by rw [← hf]; exact hs) (BrC_symm hx hy hB)

