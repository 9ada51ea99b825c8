/-! ===== numbers of groups ===== -/
/-- cells that are marked alike hang together -/
noncomputable def gsz (n : Nat) (f : Nat → Int) (c : Nat) : Nat := cnt (fun x => Rch (Eb n f) c x) (n * n)
theorem gsz_pos {n : Nat} {f : Nat → Int} {c : Nat} (hc : c < n * n) : 0 < gsz n f c := cnt_pos (p := fun x => Rch (Eb n f) c x) hc (Rch.rf _ _)
theorem gsz_lab {n : Nat} {f : Nat → Int} (c : Nat) : gsz n f (lab (Eb n f) c) = gsz n f c := cnt_congr fun x _ => ⟨fun h => (lab_r _ c).tr h, fun h => ((lab_r _ c).sy Eb_sy).tr h⟩
/-- free cells beside the group of c -/
def Beside (n : Nat) (f : Nat → Int) (c x : Nat) : Prop := ∃ y, Adj n x y ∧ Rch (Eb n f) c y
noncomputable def glib (n : Nat) (f : Nat → Int) (c : Nat) : Nat := cnt (fun x => f x = -1 ∧ Beside n f c x) (n * n)
theorem Li_parts_eq {s : Sg} {n : Nat} {f : Nat → Int} {sd : Int} (hG : GridOK s n) (hL : LinksOK s n f sd) : Li_parts s = some ((cnt (fun c => f c = sd ∧ lab (Eb n f) c = c) (n * n) : Nat) : Int) := by
  have h81 := nn_le hG.2.1
  unfold Li_parts Li_parts_l4
  have key : whl (fun σ : Int × Int => Li_parts_t4 σ.1 σ.2 s) (0, 0) = some ((cnt (fun c => f c = sd ∧ lab (Eb n f) c = c) (n * n) : Nat) : Int) := by
    refine whl_up (n * n) (fun i => (((cnt (fun c => f c = sd ∧ lab (Eb n f) c = c) i : Nat) : Int), (i : Int))) _ (fun i hi => ?_) ?_
    · show Li_parts_t4 _ (i : Int) s = _
      unfold Li_parts_t4 Li_parts_b27
      rw [hG.2.2.2.1, ifLt_eq _ _ (R_nat (by omega)) (R_nat (by omega)), if_pos (by omega), hL.top hi hG.2.1, bnd_some, ifEq_eq _ _ (hL.tR (by omega)) (R_nat (by omega))]
      by_cases e : gi s 6 i = (i : Int)
      · rw [if_pos e, cnt_t (p := fun c => f c = sd ∧ lab (Eb n f) c = c) ((hL.self (by omega)).mp e).2]; rfl
      · rw [if_neg e, cnt_f (p := fun c => f c = sd ∧ lab (Eb n f) c = c) (fun q => e ((hL.self (by omega)).mpr ⟨hi, q⟩))]; rfl
    · show Li_parts_t4 _ ((n * n : Nat) : Int) s = _
      unfold Li_parts_t4
      rw [hG.2.2.2.1, ifLt_eq _ _ (R_nat (by omega)) (R_nat (by omega)), if_neg (by omega)]
  rw [key]; rfl
/-! the largest group -/
noncomputable def bst (n : Nat) (f : Nat → Int) (sd : Int) : Nat → Int
  | 0 => -1
  | i + 1 => @ite _ (f i = sd ∧ lab (Eb n f) i = i ∧ (bst n f sd i = -1 ∨ gsz n f (bst n f sd i).toNat < gsz n f i)) (Classical.propDecidable _) (i : Int) (bst n f sd i)
theorem bst_s (n : Nat) (f : Nat → Int) (sd : Int) (i : Nat) : bst n f sd (i + 1) = @ite _ (f i = sd ∧ lab (Eb n f) i = i ∧ (bst n f sd i = -1 ∨ gsz n f (bst n f sd i).toNat < gsz n f i)) (Classical.propDecidable _) (i : Int) (bst n f sd i) := rfl
theorem bst_rg (n : Nat) (f : Nat → Int) (sd : Int) : ∀ i, bst n f sd i = -1 ∨ ∃ k : Nat, bst n f sd i = (k : Int) ∧ k < i ∧ f k = sd ∧ lab (Eb n f) k = k
  | 0 => Or.inl rfl
  | i + 1 => by
    rw [bst_s]
    by_cases h : f i = sd ∧ lab (Eb n f) i = i ∧ (bst n f sd i = -1 ∨ gsz n f (bst n f sd i).toNat < gsz n f i)
    · rw [if_pos h]
      exact Or.inr ⟨i, rfl, by omega, h.1, h.2.1⟩
    · rw [if_neg h]
      rcases bst_rg n f sd i with e | ⟨k, e, h1, h2⟩
      · exact Or.inl e
      · exact Or.inr ⟨k, e, by omega, h2⟩
theorem gsz_le (n : Nat) (f : Nat → Int) (c : Nat) : gsz n f c ≤ n * n := cnt_le _ _
theorem Li_largestPart_eq {s : Sg} {n : Nat} {f : Nat → Int} {sd : Int} (hG : GridOK s n) (hL : LinksOK s n f sd) : Li_largestPart s = some (bst n f sd (n * n)) := by
  have h81 := nn_le hG.2.1
  have a8 : alen 8 = 81 := rfl
  unfold Li_largestPart Li_largestPart_l6
  have key : whl (fun σ : Int × Int × Int => Li_largestPart_t6 σ.1 σ.2.1 σ.2.2 s) (-1, 0, 0) = some (bst n f sd (n * n)) := by
    refine whl_up (n * n) (fun i => (bst n f sd i, (if bst n f sd i = -1 then 0 else ((gsz n f (bst n f sd i).toNat : Nat) : Int)), (i : Int))) _ (fun i hi => ?_) ?_
    · show Li_largestPart_t6 (bst n f sd i) (if bst n f sd i = -1 then 0 else ((gsz n f (bst n f sd i).toNat : Nat) : Int)) (i : Int) s = some (Sum.inl (bst n f sd (i + 1), (if bst n f sd (i + 1) = -1 then 0 else ((gsz n f (bst n f sd (i + 1)).toNat : Nat) : Int)), ((i + 1 : Nat) : Int)))
      unfold Li_largestPart_t6 Li_largestPart_b49
      rw [hG.2.2.2.1, ifLt_eq _ _ (R_nat (by omega)) (R_nat (by omega)), if_pos (by omega), hL.top hi hG.2.1, bnd_some, ifEq_eq _ _ (hL.tR (by omega)) (R_nat (by omega))]
      by_cases e : gi s 6 i = (i : Int)
      · obtain ⟨-, h1, h2⟩ := (hL.self (by omega)).mp e
        have h8 : gi s 8 i = ((gsz n f i : Nat) : Int) := (hL.2.2 i hi h1 h2).1
        have hsi := gsz_le n f i
        have hpos : 0 < gsz n f i := gsz_pos hi
        have hRm : R (if bst n f sd i = -1 then 0 else ((gsz n f (bst n f sd i).toNat : Nat) : Int)) := by
          have := gsz_le n f (bst n f sd i).toNat
          split
          · exact R0
          · exact R_nat (by omega)
        rw [if_pos e, Hx_at_n (by omega), bnd_some, h8, ifLt_eq _ _ hRm (R_nat (by omega)), bnd_some]
        by_cases e1 : bst n f sd i = -1
        · have hb : bst n f sd (i + 1) = (i : Int) := by rw [bst_s]; exact if_pos ⟨h1, h2, Or.inl e1⟩
          rw [hb, if_pos e1, if_pos (by omega), if_neg (by omega)]
          rfl
        · by_cases e2 : gsz n f (bst n f sd i).toNat < gsz n f i
          · have hb : bst n f sd (i + 1) = (i : Int) := by rw [bst_s]; exact if_pos ⟨h1, h2, Or.inr e2⟩
            rw [hb, if_neg e1, if_pos (by omega), if_neg (by omega)]
            rfl
          · have hb : bst n f sd (i + 1) = bst n f sd i := by rw [bst_s]; exact if_neg (fun q => q.2.2.elim e1 e2)
            rw [hb, if_neg e1, if_neg (by omega)]
            rfl
      · have hb : bst n f sd (i + 1) = bst n f sd i := by rw [bst_s]; exact if_neg (fun q => e ((hL.self (by omega)).mpr ⟨hi, q.1, q.2.1⟩))
        rw [hb, if_neg e]
        rfl
    · show Li_largestPart_t6 _ _ ((n * n : Nat) : Int) s = _
      unfold Li_largestPart_t6
      rw [hG.2.2.2.1, ifLt_eq _ _ (R_nat (by omega)) (R_nat (by omega)), if_neg (by omega)]
  rw [key]; rfl
/-! free cells beside a group -/
theorem LinksOK.tat {s : Sg} {n : Nat} {f : Nat → Int} {sd : Int} {x : Nat} (hL : LinksOK s n f sd) (hG : GridOK s n) (hx : x < n * n) {j : Nat} (hj : j < 6) : bnd (Gr_near (x : Int) (j : Int) s) (fun y => Li_top y s) = some (atv s 6 (nbj n x j)) := by
  rw [Gr_near_eq hG hx hj, bnd_some]
  unfold Li_top
  have hR : R (nbj n x j) := by
    have h81 := nn_le hG.2.1
    rcases nbj_rg n x j with e | ⟨y, e, hy, -⟩
    · rw [e]; exact R_n1
    · rw [e]; exact R_nat (by omega)
  rw [Hx_at_eq hR, bnd_some]
theorem Li_isBeside_eq {s : Sg} {n : Nat} {f : Nat → Int} {sd : Int} {x k : Nat} (hG : GridOK s n) (hL : LinksOK s n f sd) (hx : x < n * n) (hk : k < n * n) (hkf : f k = sd) (hkl : lab (Eb n f) k = k) : Li_isBeside (x : Int) (k : Int) s = some (bI (Beside n f k x)) := by
  have h81 := nn_le hG.2.1
  have a6 : alen 6 = 81 := rfl
  have hat : ∀ j, atv s 6 (nbj n x j) = (k : Int) ↔ ∃ y : Nat, nbj n x j = (y : Int) ∧ Rch (Eb n f) k y := by
    intro j
    rcases nbj_rg n x j with e | ⟨y, e, hy, -⟩
    · rw [e, atv_m (by omega)]
      constructor
      · intro h; omega
      · rintro ⟨y, h, -⟩; omega
    · rw [e, atv_n (by omega)]
      constructor
      · intro h
        refine ⟨y, rfl, ?_⟩
        by_cases hf : y < n * n ∧ f y = sd
        · rw [(hL.2.1 y (by omega)).1 hf.1 hf.2] at h
          exact (lab_iff Eb_sy).mp (by rw [hkl]; omega)
        · rw [(hL.2.1 y (by omega)).2 hf] at h; omega
      · rintro ⟨z, h, hr⟩
        have : z = y := by omega
        subst this
        rw [(hL.2.1 z (by omega)).1 hy ((Eb_in hk hr).2.trans hkf), ← lab_eq Eb_sy hr, hkl]
  have hRat : ∀ j, R (atv s 6 (nbj n x j)) := by
    intro j
    rcases nbj_rg n x j with e | ⟨y, e, hy, -⟩
    · rw [e, atv_m (by omega)]; exact R_n1
    · rw [e, atv_n (by omega)]; exact hL.tR (by omega)
  unfold Li_isBeside Li_isBeside_l2
  have stp : ∀ j : Nat, j < 6 → Li_isBeside_t2 (x : Int) (k : Int) (j : Int) s = if atv s 6 (nbj n x j) = (k : Int) then some (.inr (.inl ())) else some (.inl ((j : Int) + 1)) := by
    intro j hj
    unfold Li_isBeside_t2 Li_isBeside_b32
    have h0 := hL.tat hG hx hj
    rw [Gr_near_eq hG hx hj, bnd_some] at h0
    rw [ifLt_eq _ _ (R_nat (by omega)) R6, if_pos (by omega), ifEq_eq _ _ (R_nat (by omega)) R_n1, if_neg (by omega), Gr_near_eq hG hx hj, bnd_some, h0, bnd_some, ifEq_eq _ _ (hRat j) (R_nat (by omega))]
  have s3 : Li_isBeside_t2 (x : Int) (k : Int) ((6 : Nat) : Int) s = some (.inr (.inr ())) := by
    show Li_isBeside_t2 (x : Int) (k : Int) ((6 : Nat) : Int) s = _
    unfold Li_isBeside_t2
    rw [ifLt_eq _ _ (R_nat (by omega)) R6, if_neg (by omega)]
  rcases whl_find (f := fun σ : Int => Li_isBeside_t2 (x : Int) (k : Int) σ s) (fun i => (i : Int)) 6 (fun j => atv s 6 (nbj n x j) = (k : Int)) (fun _ => .inl ()) (.inr ()) (fun i hi hp => (stp i hi).trans (if_pos hp)) (fun i hi hp => (stp i hi).trans (if_neg hp)) s3 with ⟨j, hj, hp, -, e⟩ | ⟨hno, e⟩
  · have e' : whl (fun σ : Int => Li_isBeside_t2 (x : Int) (k : Int) σ s) 0 = some (.inl ()) := e
    obtain ⟨y, h1, h2⟩ := (hat j).mp hp
    have hA : Adj n x y := by
      rcases nbj_rg n x j with e9 | ⟨z, e9, -, hA⟩
      · omega
      · have : z = y := by omega
        exact this ▸ hA
    rw [e', bI_t ⟨y, hA, h2⟩]; rfl
  · have e' : whl (fun σ : Int => Li_isBeside_t2 (x : Int) (k : Int) σ s) 0 = some (.inr ()) := e
    rw [e', bI_f]
    · rfl
    · rintro ⟨y, hA, hr⟩
      obtain ⟨j, hj, e9⟩ := nbj_of hA
      exact hno j hj ((hat j).mpr ⟨y, e9, hr⟩)
theorem Hx_liberties_eq {s : Sg} {n : Nat} {f : Nat → Int} {sd : Int} {k : Nat} (hG : GridOK s n) (hL : LinksOK s n f sd) (hC : CB s n 11 f) (hfr : FR n f) (hk : k < n * n) (hkf : f k = sd) (hkl : lab (Eb n f) k = k) : Hx_liberties (k : Int) s = some ((glib n f k : Nat) : Int) := by
  have h81 := nn_le hG.2.1
  have a11 : alen 11 = 81 := rfl
  unfold Hx_liberties Hx_liberties_l4 glib
  have key : whl (fun σ : Int × Int => Hx_liberties_t4 (k : Int) σ.1 σ.2 s) (0, 0) = some ((cnt (fun x => f x = -1 ∧ Beside n f k x) (n * n) : Nat) : Int) := by
    refine whl_up (n * n) (fun i => (((cnt (fun x => f x = -1 ∧ Beside n f k x) i : Nat) : Int), (i : Int))) _ (fun i hi => ?_) ?_
    · show Hx_liberties_t4 _ _ (i : Int) s = _
      unfold Hx_liberties_t4 Hx_liberties_b42 Po_stone
      rw [hG.2.2.2.1, ifLt_eq _ _ (R_nat (by omega)) (R_nat (by omega)), if_pos (by omega)]
      show bnd (bnd (Hx_at 11 (i : Int) s) _) _ = _
      rw [Hx_at_n (by omega), bnd_some, bnd_some, hC i hi, ifEq_eq _ _ (hfr.r hi) R_n1]
      by_cases e1 : f i = -1
      · rw [if_pos e1, Li_isBeside_eq hG hL hi hk hkf hkl, bnd_some, ifEq_eq _ _ (R_bI _) R0]
        by_cases e2 : Beside n f k i
        · rw [bI_t e2, if_neg (by omega), cnt_t (p := fun x => f x = -1 ∧ Beside n f k x) ⟨e1, e2⟩]; rfl
        · rw [bI_f e2, if_pos rfl, cnt_f (p := fun x => f x = -1 ∧ Beside n f k x) (fun q => e2 q.2)]; rfl
      · rw [if_neg e1, cnt_f (p := fun x => f x = -1 ∧ Beside n f k x) (fun q => e1 q.1)]; rfl
    · show Hx_liberties_t4 _ _ ((n * n : Nat) : Int) s = _
      unfold Hx_liberties_t4
      rw [hG.2.2.2.1, ifLt_eq _ _ (R_nat (by omega)) (R_nat (by omega)), if_neg (by omega)]
  rw [key]; rfl
