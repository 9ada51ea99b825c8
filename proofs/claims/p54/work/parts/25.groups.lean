/-! ===== numbers of groups ===== -/
/-- cells that are marked alike hang together -/
noncomputable def gsz (n : Nat) (f : Nat → Int) (c : Nat) : Nat := cnt (fun x => Rch (Eb n f) c x) (n * n)
theorem gsz_pos {n : Nat} {f : Nat → Int} {c : Nat} (hc : c < n * n) : 0 < gsz n f c := cnt_pos (p := fun x => Rch (Eb n f) c x) hc (Rch.rf _ _)
theorem gsz_lab {n : Nat} {f : Nat → Int} (c : Nat) : gsz n f (lab (Eb n f) c) = gsz n f c := cnt_congr fun x _ => ⟨fun h => (lab_r _ c).tr h, fun h => ((lab_r _ c).sy Eb_sy).tr h⟩
/-- free cells beside the group of c -/
def Beside (n : Nat) (f : Nat → Int) (c x : Nat) : Prop := ∃ y, Adj n x y ∧ Rch (Eb n f) c y
noncomputable def glib (n : Nat) (f : Nat → Int) (c : Nat) : Nat := cnt (fun x => f x = -1 ∧ Beside n f c x) (n * n)
theorem Li_parts_eq {s : Sg} {n : Nat} {f : Nat → Int} {sd : Int} (hG : GridOK s n) (hL : LinksOK s n f sd) : Li_parts s = some ((cnt (fun c => f c = sd ∧ lab (Eb n f) c = c) (n * n) : Nat) : Int) := by
  have h81 := nn_le hG.2.1
  unfold Li_parts Li_parts_l4
  have key : whl (fun σ : Int × Int => Li_parts_t4 σ.1 σ.2 s) (0, 0) = some ((cnt (fun c => f c = sd ∧ lab (Eb n f) c = c) (n * n) : Nat) : Int) := by
    refine whl_up (n * n) (fun i => (((cnt (fun c => f c = sd ∧ lab (Eb n f) c = c) i : Nat) : Int), (i : Int))) _ (fun i hi => ?_) ?_
    · show Li_parts_t4 _ (i : Int) s = _
      unfold Li_parts_t4 Li_parts_b27
      rw [hG.2.2.2.1, ifLt_eq _ _ (R_nat (by omega)) (R_nat (by omega)), if_pos (by omega), hL.top hi hG.2.1, bnd_some, ifEq_eq _ _ (hL.tR (by omega)) (R_nat (by omega))]
      by_cases e : gi s 6 i = (i : Int)
      · rw [if_pos e, cnt_t (p := fun c => f c = sd ∧ lab (Eb n f) c = c) ((hL.self (by omega)).mp e).2]; rfl
      · rw [if_neg e, cnt_f (p := fun c => f c = sd ∧ lab (Eb n f) c = c) (fun q => e ((hL.self (by omega)).mpr ⟨hi, q⟩))]; rfl
    · show Li_parts_t4 _ ((n * n : Nat) : Int) s = _
      unfold Li_parts_t4
      rw [hG.2.2.2.1, ifLt_eq _ _ (R_nat (by omega)) (R_nat (by omega)), if_neg (by omega)]
  rw [key]; rfl
/-! the largest group -/
noncomputable def bst (n : Nat) (f : Nat → Int) (sd : Int) : Nat → Int
  | 0 => -1
  | i + 1 => @ite _ (f i = sd ∧ lab (Eb n f) i = i ∧ (bst n f sd i = -1 ∨ gsz n f (bst n f sd i).toNat < gsz n f i)) (Classical.propDecidable _) (i : Int) (bst n f sd i)
theorem bst_s (n : Nat) (f : Nat → Int) (sd : Int) (i : Nat) : bst n f sd (i + 1) = @ite _ (f i = sd ∧ lab (Eb n f) i = i ∧ (bst n f sd i = -1 ∨ gsz n f (bst n f sd i).toNat < gsz n f i)) (Classical.propDecidable _) (i : Int) (bst n f sd i) := rfl
theorem bst_rg (n : Nat) (f : Nat → Int) (sd : Int) : ∀ i, bst n f sd i = -1 ∨ ∃ k : Nat, bst n f sd i = (k : Int) ∧ k < i ∧ f k = sd ∧ lab (Eb n f) k = k
  | 0 => Or.inl rfl
  | i + 1 => by
    rw [bst_s]
    by_cases h : f i = sd ∧ lab (Eb n f) i = i ∧ (bst n f sd i = -1 ∨ gsz n f (bst n f sd i).toNat < gsz n f i)
    · rw [if_pos h]
      exact Or.inr ⟨i, rfl, by omega, h.1, h.2.1⟩
    · rw [if_neg h]
      rcases bst_rg n f sd i with e | ⟨k, e, h1, h2⟩
      · exact Or.inl e
      · exact Or.inr ⟨k, e, by omega, h2⟩
theorem gsz_le (n : Nat) (f : Nat → Int) (c : Nat) : gsz n f c ≤ n * n := cnt_le _ _
theorem Li_largestPart_eq {s : Sg} {n : Nat} {f : Nat → Int} {sd : Int} (hG : GridOK s n) (hL : LinksOK s n f sd) : Li_largestPart s = some (bst n f sd (n * n)) := by
  have h81 := nn_le hG.2.1
  have a8 : alen 8 = 81 := rfl
  unfold Li_largestPart Li_largestPart_l6
  have key : whl (fun σ : Int × Int × Int => Li_largestPart_t6 σ.1 σ.2.1 σ.2.2 s) (-1, 0, 0) = some (bst n f sd (n * n)) := by
    refine whl_up (n * n) (fun i => (bst n f sd i, (if bst n f sd i = -1 then 0 else ((gsz n f (bst n f sd i).toNat : Nat) : Int)), (i : Int))) _ (fun i hi => ?_) ?_
    · show Li_largestPart_t6 (bst n f sd i) (if bst n f sd i = -1 then 0 else ((gsz n f (bst n f sd i).toNat : Nat) : Int)) (i : Int) s = some (Sum.inl (bst n f sd (i + 1), (if bst n f sd (i + 1) = -1 then 0 else ((gsz n f (bst n f sd (i + 1)).toNat : Nat) : Int)), ((i + 1 : Nat) : Int)))
      unfold Li_largestPart_t6 Li_largestPart_b49
      rw [hG.2.2.2.1, ifLt_eq _ _ (R_nat (by omega)) (R_nat (by omega)), if_pos (by omega), hL.top hi hG.2.1, bnd_some, ifEq_eq _ _ (hL.tR (by omega)) (R_nat (by omega))]
      by_cases e : gi s 6 i = (i : Int)
      · obtain ⟨-, h1, h2⟩ := (hL.self (by omega)).mp e
        have h8 : gi s 8 i = ((gsz n f i : Nat) : Int) := (hL.2.2 i hi h1 h2).1
        have hsi := gsz_le n f i
        have hpos : 0 < gsz n f i := gsz_pos hi
        have hRm : R (if bst n f sd i = -1 then 0 else ((gsz n f (bst n f sd i).toNat : Nat) : Int)) := by
          have := gsz_le n f (bst n f sd i).toNat
          split
          · exact R0
          · exact R_nat (by omega)
        rw [if_pos e, Hx_at_n (by omega), bnd_some, h8, ifLt_eq _ _ hRm (R_nat (by omega)), bnd_some]
        by_cases e1 : bst n f sd i = -1
        · have hb : bst n f sd (i + 1) = (i : Int) := by rw [bst_s]; exact if_pos ⟨h1, h2, Or.inl e1⟩
          rw [hb, if_pos e1, if_pos (by omega), if_neg (by omega)]
          rfl
        · by_cases e2 : gsz n f (bst n f sd i).toNat < gsz n f i
          · have hb : bst n f sd (i + 1) = (i : Int) := by rw [bst_s]; exact if_pos ⟨h1, h2, Or.inr e2⟩
            rw [hb, if_neg e1, if_pos (by omega), if_neg (by omega)]
            rfl
          · have hb : bst n f sd (i + 1) = bst n f sd i := by rw [bst_s]; exact if_neg (fun q => q.2.2.elim e1 e2)
            rw [hb, if_neg e1, if_neg (by omega)]
            rfl
      · have hb : bst n f sd (i + 1) = bst n f sd i := by rw [bst_s]; exact if_neg (fun q => e ((hL.self (by omega)).mpr ⟨hi, q.1, q.2.1⟩))
        rw [hb, if_neg e]
        rfl
    · show Li_largestPart_t6 _ _ ((n * n : Nat) : Int) s = _
      unfold Li_largestPart_t6
      rw [hG.2.2.2.1, ifLt_eq _ _ (R_nat (by omega)) (R_nat (by omega)), if_neg (by omega)]
  rw [key]; rfl
/-! free cells beside a group -/
theorem LinksOK.tat {s : Sg} {n : Nat} {f : Nat → Int} {sd : Int} {x : Nat} (hL : LinksOK s n f sd) (hG : GridOK s n) (hx : x < n * n) {j : Nat} (hj : j < 6) : bnd (Gr_near (x : Int) (j : Int) s) (fun y => Li_top y s) = some (atv s 6 (nbj n x j)) := by
  rw [Gr_near_eq hG hx hj, bnd_some]
  unfold Li_top
  have hR : R (nbj n x j) := by
    have h81 := nn_le hG.2.1
    rcases nbj_rg n x j with e | ⟨y, e, hy, -⟩
    · rw [e]; exact R_n1
    · rw [e]; exact R_nat (by omega)
  rw [Hx_at_eq hR, bnd_some]
