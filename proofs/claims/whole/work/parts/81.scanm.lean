/-! ===== the reference scans the text ===== -/
section SCM
variable {L : Nat} {B : Nat → Int} {s : Sg}
theorem sk_sk (p : Nat) : sk L B (sk L B p) = sk L B p := by
  obtain ⟨h1, h2, h3⟩ := rE_s L B 32 32 p
  exact rE_u ⟨Nat.le_refl _, fun i k1 k2 => absurd k1 (by omega), h3⟩
theorem sk_ge (p : Nat) : p ≤ sk L B p := rE_ge 32 32 p
theorem sk_le {p : Nat} (hp : p ≤ L) : sk L B p ≤ L := rE_le hp
theorem sx_in {v l h : Int} (hv : 1 ≤ v ∧ v ≤ 255) (hl : 0 ≤ l) (hh : h < 128) : (l ≤ sx v ∧ sx v ≤ h) ↔ (l ≤ v ∧ v ≤ h) := by
  unfold sx
  split <;> omega
theorem sx_R {v : Int} (hv : 1 ≤ v ∧ v ≤ 255) : R (sx v) := by
  unfold sx R
  split <;> omega
theorem nextM {p : Nat} (hI : InM s L B) (hp : p ≤ L) (h9 : gi s 80 9 = (p : Int)) : okP (Mo_nextByte s) (fun o => Ch [8009, 8010] s o.2 ∧ gi o.2 80 9 = ((sk L B p : Nat) : Int) ∧ gi o.2 80 10 = ((sk L B p : Nat) : Int) ∧ o.1 = byt L B (sk L B p)) := by
  have h4 := hI.2.1
  have R32 : R 32 := by unfold R; omega
  have hq : sk L B p ≤ L := sk_le hp
  obtain ⟨e1, e2, e3⟩ := rE_s L B 32 32 p
  unfold Mo_nextByte Mo_nextByte_l0
  refine okP_bnd (P := fun t => Ch [8009] s t ∧ gi t 80 9 = ((sk L B p : Nat) : Int)) (whl_for (fun (i : Nat) (t : Sg) => t) (sk L B p) (fun i t => p ≤ i ∧ Ch [8009] s t ∧ gi t 80 9 = (i : Int)) (i0 := p) (t0 := s) (sk_ge p) ⟨Nat.le_refl _, Ch.rf _ _, h9⟩ ?_ ?_) ?_
  · rintro i t hi' ⟨hpi, k1, k2⟩
    obtain ⟨m1, m2, m3⟩ := e2 i hpi hi'
    have hb := hI.2.2.2 i m1
    have eT : ((i : Nat) : Int).toNat = i := rfl
    have hIt := hI.ch k1
    show okP (Mo_nextByte_t0 t) _
    unfold Mo_nextByte_t0
    rw [k2, hIt.1, ifLt_eq _ _ (R_nat (by omega)) (R_nat (by omega)), if_pos (by omega), grd_t ⟨by omega, by omega⟩, eT, hIt.2.2.1 i m1, ifEq_t (sx_R hb) R32 (by unfold sx; split <;> omega), lett_eq]
    exact okP_some (Or.inl ⟨si t 80 9 ((i : Int) + 1), rfl, by omega, k1.tr (Ch.s8 (by decide)), by rw [gi_si_s]; rfl⟩)
  · rintro t ⟨hpi, k1, k2⟩
    have hIt := hI.ch k1
    have eT : ((sk L B p : Nat) : Int).toNat = sk L B p := rfl
    show okP (Mo_nextByte_t0 t) _
    unfold Mo_nextByte_t0
    rw [k2, hIt.1, ifLt_eq _ _ (R_nat (by omega)) (R_nat (by omega))]
    by_cases z : sk L B p < L
    · have hb := hI.2.2.2 _ z
      rw [if_pos (by omega), grd_t ⟨by omega, by omega⟩, eT, hIt.2.2.1 _ z, ifEq_f (sx_R hb) R32]
      · exact okP_some ⟨t, rfl, k1, k2⟩
      · intro w
        have h3 : B (sk L B p) = 32 := by
          unfold sx at w
          split at w <;> omega
        exact e3 ⟨z, Int.le_of_eq h3.symm, Int.le_of_eq h3⟩
    · rw [if_neg (by omega)]
      exact okP_some ⟨t, rfl, k1, k2⟩
  · rintro t - ⟨k1, k2⟩
    have hIt := hI.ch k1
    have eT : ((sk L B p : Nat) : Int).toNat = sk L B p := rfl
    have c1 : Ch [8010] t (si t 80 10 ((sk L B p : Nat) : Int)) := Ch.s8 (by decide)
    have hI2 := hIt.ch c1
    have h92 : gi (si t 80 10 ((sk L B p : Nat) : Int)) 80 9 = ((sk L B p : Nat) : Int) := (c1.g8 9).trans k2
    unfold Mo_nextByte_b38
    rw [k2, lett_eq, h92, hI2.1, ifLt_eq _ _ (R_nat (by omega)) (R_nat (by omega))]
    by_cases z : sk L B p < L
    · have hb := hI.2.2.2 _ z
      rw [if_pos (by omega), grd_t ⟨by omega, by omega⟩, eT, hI2.2.2.1 _ z]
      refine okP_some ⟨(k1.mo (by decide)).tr (c1.mo (by decide)), h92, gi_si_s _ _ _ _, ?_⟩
      show iandI (sx (B (sk L B p))) 255 = byt L B (sk L B p)
      rw [show byt L B (sk L B p) = B (sk L B p) from if_pos z]
      have k : ∀ n : Fin 256, iandI (sx ((n : Nat) : Int)) 255 = ((n : Nat) : Int) := by decide +kernel
      obtain ⟨n, en⟩ := Int.eq_ofNat_of_zero_le (show 0 ≤ B (sk L B p) by omega)
      rw [en]
      exact k ⟨n, by omega⟩
    · rw [if_neg (by omega)]
      exact okP_some ⟨(k1.mo (by decide)).tr (c1.mo (by decide)), h92, gi_si_s _ _ _ _, (if_neg z).symm⟩
theorem in_eq {x l h : Int} (hx : R x) (hl : R l) (hh : R h) : Mo_in x l h s = some (bI (l ≤ x ∧ x ≤ h)) := by
  by_cases q : l ≤ x ∧ x ≤ h
  · rw [in_t hx hl hh q, bI_t q]
  · rw [in_f hx hl hh q, bI_f q]
theorem byt_in (hB : ∀ i, i < L → 1 ≤ B i ∧ B i ≤ 255) {l h : Int} (hl : 0 ≤ l) (q : Nat) : (l ≤ byt L B q ∧ byt L B q ≤ h) ↔ (q < L ∧ l ≤ B q ∧ B q ≤ h) := by
  unfold byt
  by_cases z : q < L
  · rw [if_pos z]
    exact ⟨fun w => ⟨z, w⟩, fun w => w.2⟩
  · rw [if_neg z]
    exact ⟨fun w => by omega, fun w => absurd w.1 z⟩
theorem letterM {p : Nat} (hI : InM s L B) (hp : p ≤ L) (h9 : gi s 80 9 = (p : Int)) : okP (Mo_isLetterNext s) (fun o => Ch [8009, 8010] s o.2 ∧ gi o.2 80 9 = ((sk L B p : Nat) : Int) ∧ gi o.2 80 10 = ((sk L B p : Nat) : Int) ∧ o.1 = bI (ltr L B (sk L B p))) := by
  have hb := byt_R hI.2.2.2 (sk L B p)
  unfold Mo_isLetterNext
  refine okP_bnd2 (nextM hI hp h9) ?_
  rintro y t - ⟨k1, k2, k3, k4⟩
  have k4 : y = byt L B (sk L B p) := k4
  have hR : R y := by rw [k4]; unfold R; omega
  rw [grd_t hR, in_eq hR (by unfold R; omega) (by unfold R; omega), bnd_some, grd_t (show b01 _ from bI_rg _)]
  refine okP_some ⟨k1, k2, k3, ?_⟩
  show bI (97 ≤ y ∧ y ≤ 122) = bI (ltr L B (sk L B p))
  rw [k4, propext (byt_in hI.2.2.2 (by omega) (sk L B p))]
  rfl
theorem isAt_eq {i : Nat} {l h : Int} (hI : InM s L B) (hi' : i ≤ 100000) (hl : 0 ≤ l ∧ l < 128) (hh : 0 ≤ h ∧ h < 128) : Mo_isAt (i : Int) l h s = some (bI (i < L ∧ l ≤ B i ∧ B i ≤ h)) := by
  have h4 := hI.2.1
  have eT : ((i : Nat) : Int).toNat = i := rfl
  unfold Mo_isAt
  rw [hI.1, ifLt_eq _ _ (R_nat (by omega)) (R_nat (by omega))]
  by_cases z : i < L
  · have hb := hI.2.2.2 i z
    have hs := sx_in hb hl.1 hh.2
    rw [if_pos (by omega), grd_t ⟨by omega, by omega⟩, eT, hI.2.2.1 i z, ifLt_eq _ _ (sx_R hb) (by unfold R; omega)]
    by_cases y : sx (B i) < l
    · rw [if_pos y, bI_f (fun w => by have := hs.mpr w.2; omega)]
    · rw [if_neg y, grd_t ⟨by omega, by omega⟩, ifLt_eq _ _ (by unfold R; omega) (sx_R hb)]
      by_cases x : h < sx (B i)
      · rw [if_pos x, bI_f (fun w => by have := hs.mpr w.2; omega)]
      · rw [if_neg x, bI_t ⟨z, hs.mp ⟨by omega, by omega⟩⟩]
  · rw [if_neg (by omega), bI_f (fun w => z w.1)]
theorem wordEndM {q : Nat} (hI : InM s L B) (hq : q ≤ L) (h10 : gi s 80 10 = (q : Int)) : Mo_wordEnd s = some ((rE L B 97 122 q : Nat) : Int) := by
  have h4 := hI.2.1
  obtain ⟨e1, e2, e3⟩ := rE_s L B 97 122 q
  have e4 : rE L B 97 122 q ≤ L := rE_le hq
  have key : okP (whl (fun σ : Int => Mo_wordEnd_t5 σ s) (q : Int)) (fun r => r = ((rE L B 97 122 q : Nat) : Int)) := by
    refine whl_for (fun (i : Nat) (_ : Unit) => (i : Int)) (rE L B 97 122 q) (fun i _ => q ≤ i) (i0 := q) (t0 := ()) e1 (Nat.le_refl _) ?_ ?_
    · rintro i ⟨⟩ hi' hqi
      show okP (Mo_wordEnd_t5 (i : Int) s) _
      unfold Mo_wordEnd_t5
      rw [isAt_eq hI (by omega) (by omega) (by omega), bI_t (e2 i hqi hi'), bnd_some, ifEq_f R1 R0 (by omega)]
      exact okP_some (Or.inl ⟨(), rfl, by omega⟩)
    · rintro ⟨⟩ -
      show okP (Mo_wordEnd_t5 ((rE L B 97 122 q : Nat) : Int) s) _
      unfold Mo_wordEnd_t5
      rw [isAt_eq hI (by omega) (by omega) (by omega), bI_f e3, bnd_some, ifEq_t R0 R0 rfl]
      exact okP_some ⟨_, rfl, rfl⟩
  obtain ⟨r, e, rfl⟩ := key
  unfold Mo_wordEnd Mo_wordEnd_l5
  rw [lett_eq, h10, e, bnd_some]
theorem takesM {w p : Nat} (hw : w < 6) (hI : InM s L B) (hp : p ≤ L) (h9 : gi s 80 9 = (p : Int)) : okP (Mo_takes (w + 10) s) (fun o => Ch [8009, 8010] s o.2 ∧ gi o.2 80 10 = ((sk L B p : Nat) : Int) ∧ o.1 = bI (wd L B w (sk L B p)) ∧ (wd L B w (sk L B p) → gi o.2 80 9 = ((rE L B 97 122 (sk L B p) : Nat) : Int)) ∧ (¬ wd L B w (sk L B p) → gi o.2 80 9 = ((sk L B p : Nat) : Int))) := by
  have h4 := hI.2.1
  have hl := (wlen6 w hw).1
  have hsl : slen (w + 10) = (wlen w : Int) := congrArg Int.ofNat (wlen6 w hw).2.1
  have hq : sk L B p ≤ L := sk_le hp
  unfold Mo_takes
  refine okP_bnd2 (letterM hI hp h9) ?_
  rintro y t - ⟨k1, k2, k3, k4⟩
  have k1 : Ch [8009, 8010] s t := k1
  have k2 : gi t 80 9 = ((sk L B p : Nat) : Int) := k2
  have k3 : gi t 80 10 = ((sk L B p : Nat) : Int) := k3
  have k4 : y = bI (ltr L B (sk L B p)) := k4
  have hIt := hI.ch k1
  generalize sk L B p = q at *
  rw [k4]
  by_cases z : ltr L B q
  · have e4 : rE L B 97 122 q ≤ L := rE_le hq
    have e1 := rE_ge (L := L) (B := B) 97 122 q
    rw [bI_t z, ifEq_f R1 R0 (by omega), wordEndM hIt hq k3, bnd_some, k3, hsl, ifEq_eq _ _ (by unfold R; omega) (R_nat (by omega))]
    by_cases y : rE L B 97 122 q = q + wlen w
    · rw [if_pos (by omega)]
      have hwR : ∀ i, i < wlen w → R (wch w i) := fun i hi' => by
        have := ((wlen6 w hw).2.2 i hi').2
        unfold R; omega
      have step : ∀ i : Nat, i < wlen w → Mo_takes_t27 (w + 10) (i : Int) t = if B (q + i) = wch w i then some (.inl ((i : Int) + 1)) else some (.inr (.inl ())) := fun i hi' => by
        have hqi : q + i < L := by omega
        have hb := hI.2.2.2 _ hqi
        have hc := ((wlen6 w hw).2.2 i hi')
        have eT : ((q : Int) + (i : Int)).toNat = q + i := by omega
        unfold Mo_takes_t27
        rw [hsl, ifLt_eq _ _ (R_nat (by omega)) (R_nat (by omega)), if_pos (by omega), k3, grd_t ⟨by omega, by omega⟩, grd_t ⟨by omega, by omega⟩, eT, hIt.2.2.1 _ hqi]
        show ifEq _ (wch (w + 10) i) _ _ = _
        rw [hc.1, ifEq_eq _ _ (sx_R hb) (hwR i hi')]
        by_cases x : B (q + i) = wch w i
        · rw [if_pos (by unfold sx; split <;> omega), if_pos x]
        · rw [if_neg (by unfold sx; split <;> omega), if_neg x]
      have last : Mo_takes_t27 (w + 10) ((wlen w : Nat) : Int) t = some (.inr (.inr ())) := by
        unfold Mo_takes_t27
        rw [hsl, ifLt_eq _ _ (R_nat (by omega)) (R_nat (by omega)), if_neg (by omega)]
      unfold Mo_takes_l27
      rcases whl_find (f := fun σ : Int => Mo_takes_t27 (w + 10) σ t) (fun i => (i : Int)) (wlen w) (fun i => B (q + i) ≠ wch w i) (fun _ => .inl ()) (.inr ()) (fun i hi' hp => by show Mo_takes_t27 (w + 10) (i : Int) t = _; rw [step i hi', if_neg hp]) (fun i hi' hp => by show Mo_takes_t27 (w + 10) (i : Int) t = _; rw [step i hi', if_pos (Classical.not_not.mp hp)]; rfl) last with ⟨k, hk, hp, -, e⟩ | ⟨hno, e⟩
      · have e' : whl (fun σ : Int => Mo_takes_t27 (w + 10) σ t) 0 = some (.inl ()) := e
        have hnw : ¬ wd L B w q := fun h => hp (h.2.2 k hk)
        rw [e']
        exact okP_some ⟨k1, k3, (bI_f hnw).symm, fun h => absurd h hnw, fun _ => k2⟩
      · have e' : whl (fun σ : Int => Mo_takes_t27 (w + 10) σ t) 0 = some (.inr ()) := e
        have hyw : wd L B w q := ⟨z, y, fun i hi' => Classical.not_not.mp (hno i hi')⟩
        rw [e']
        show okP (lett (si t 80 9 (gi t 80 10 + slen (w + 10))) fun s6 => some ((1 : Int), s6)) _
        rw [lett_eq, k3, hsl]
        refine okP_some ⟨k1.tr (Ch.s8 (by decide)), by rw [gi_si_k _ _ _ (by omega)]; exact k3, (bI_t hyw).symm, fun _ => by rw [gi_si_s, y]; rfl, fun h => absurd hyw h⟩
    · have hnw : ¬ wd L B w q := fun h => y h.2.1
      rw [if_neg (by omega)]
      exact okP_some ⟨k1, k3, (bI_f hnw).symm, fun h => absurd h hnw, fun _ => k2⟩
  · have hnw : ¬ wd L B w q := fun h => z h.1
    rw [bI_f z, ifEq_t R0 R0 rfl]
    exact okP_some ⟨k1, k3, (bI_f hnw).symm, fun h => absurd h hnw, fun _ => k2⟩
theorem fails_eq (e pl : Int) : Mo_fails e pl s = some (0, si (si s 80 12 e) 80 13 pl) := rfl
theorem readsM {p : Nat} {lo hi' : Int} (hI : InM s L B) (hp : p ≤ L) (h9 : gi s 80 9 = (p : Int)) (hlo : 0 ≤ lo ∧ lo ≤ 9) (hhi : 0 ≤ hi' ∧ hi' ≤ 9) : okP (Mo_reads lo hi' s) (fun o =>
    (¬ dgt L B (sk L B p) → Ch [8009, 8010, 8012, 8013] s o.2 ∧ o.1 = 0 ∧ gi o.2 80 12 = 1 ∧ gi o.2 80 13 = ((sk L B p : Nat) : Int)) ∧
    (dgt L B (sk L B p) → ¬ (lo ≤ num L B (sk L B p) ∧ num L B (sk L B p) ≤ hi') → Ch [8009, 8010, 8012, 8013] s o.2 ∧ o.1 = 0 ∧ gi o.2 80 12 = 2 ∧ gi o.2 80 13 = ((sk L B p : Nat) : Int)) ∧
    (dgt L B (sk L B p) → (lo ≤ num L B (sk L B p) ∧ num L B (sk L B p) ≤ hi') → Ch [8009, 8010, 8011] s o.2 ∧ o.1 = 1 ∧ gi o.2 80 9 = ((rE L B 48 57 (sk L B p) : Nat) : Int) ∧ gi o.2 80 11 = num L B (sk L B p))) := by
  have h4 := hI.2.1
  have hq : sk L B p ≤ L := sk_le hp
  have hb := byt_R hI.2.2.2 (sk L B p)
  unfold Mo_reads
  refine okP_bnd2 (nextM hI hp h9) ?_
  rintro y t - ⟨k1, k2, k3, k4⟩
  have k1 : Ch [8009, 8010] s t := k1
  have k2 : gi t 80 9 = ((sk L B p : Nat) : Int) := k2
  have k3 : gi t 80 10 = ((sk L B p : Nat) : Int) := k3
  have k4 : y = byt L B (sk L B p) := k4
  have hR : R y := by rw [k4]; unfold R; omega
  have hIt := hI.ch k1
  have hin : (48 ≤ y ∧ y ≤ 57) ↔ dgt L B (sk L B p) := by
    rw [k4]
    exact byt_in hI.2.2.2 (by omega) (sk L B p)
  generalize sk L B p = q at *
  rw [grd_t hR, in_eq hR (by unfold R; omega) (by unfold R; omega), bnd_some, propext hin]
  by_cases z : dgt L B q
  · rw [bI_t z, ifEq_f R1 R0 (by omega)]
    unfold Mo_reads_l29
    obtain ⟨e1, e2, e3⟩ := rE_s L B 48 57 q
    have e4 : rE L B 48 57 q ≤ L := rE_le hq
    have R9 : RL64 99999999 := by unfold RL64; omega
    refine okP_bnd (P := fun r : Int × Sg => r.1 = vM B q (rE L B 48 57 q - q) ∧ Ch [8009] t r.2 ∧ gi r.2 80 9 = ((rE L B 48 57 q : Nat) : Int)) (whl_for (fun (i : Nat) (r : Sg) => (vM B q i, r)) (rE L B 48 57 q - q) (fun i r => Ch [8009] t r ∧ gi r 80 9 = ((q + i : Nat) : Int)) (i0 := 0) (t0 := t) (Nat.zero_le _) ⟨Ch.rf _ _, k2⟩ ?_ ?_) ?_
    · rintro i r hi2 ⟨m1, m2⟩
      have hd := num_d (L := L) (B := B) q i hi2
      have hv := vv (B := B) q i (fun j hj => num_d (L := L) q j (by omega))
      have hIr := hIt.ch m1
      have hqi : q + i < L := by omega
      have hbb := hI.2.2.2 _ hqi
      have eT : ((q + i : Nat) : Int).toNat = q + i := rfl
      have hvl : RL64 (vM B q i) := by unfold RL64; omega
      have hsx : sx (B (q + i)) = B (q + i) := by unfold sx; split <;> omega
      have fin : ∀ v : Int, v = vM B q (i + 1) → okP (Mo_reads_b76 lo hi' v r) (fun o => (∃ t', o = .inl (vM B q (i + 1), t') ∧ Ch [8009] t t' ∧ gi t' 80 9 = ((q + (i + 1) : Nat) : Int)) ∨ ∃ r_1, o = .inr r_1 ∧ r_1.1 = vM B q (rE L B 48 57 q - q) ∧ Ch [8009] t r_1.2 ∧ gi r_1.2 80 9 = ((rE L B 48 57 q : Nat) : Int)) := fun v hv => by
        unfold Mo_reads_b76
        rw [lett_eq, m2, hv]
        exact okP_some (Or.inl ⟨_, rfl, m1.tr (Ch.s8 (by decide)), gi_si_s _ _ _ _⟩)
      show okP (Mo_reads_t29 lo hi' (vM B q i) r) _
      unfold Mo_reads_t29
      rw [m2, isAt_eq hIr (by omega) (by omega) (by omega), bI_t ⟨hqi, hd⟩, bnd_some, ifEq_f R1 R0 (by omega), grd_t ⟨hvl, R9⟩]
      by_cases x : 99999999 < vM B q i
      · have el : lcmpI (vM B q i) 99999999 = 1 := by unfold lcmpI; rw [if_neg (by omega), if_neg (by omega)]
        rw [el, ifLt_eq _ _ R0 R1, if_pos (by omega)]
        exact fin _ (show _ = if 99999999 < vM B q i then vM B q i else 10 * vM B q i + B (q + i) - 48 from (if_pos x).symm)
      · have el : lcmpI (vM B q i) 99999999 ≤ 0 ∧ R (lcmpI (vM B q i) 99999999) := by
          unfold lcmpI R
          split
          · omega
          · split <;> omega
        rw [ifLt_eq _ _ R0 el.2, if_neg (by omega), grd_t ⟨by omega, by omega⟩, eT, hIr.2.2.1 _ hqi, grd_t (sx_R hbb), hsx]
        exact fin _ (show _ = if 99999999 < vM B q i then vM B q i else 10 * vM B q i + B (q + i) - 48 from (if_neg x).symm)
    · rintro r ⟨m1, m2⟩
      have hIr := hIt.ch m1
      have eE : q + (rE L B 48 57 q - q) = rE L B 48 57 q := by omega
      rw [eE] at m2
      show okP (Mo_reads_t29 lo hi' (vM B q (rE L B 48 57 q - q)) r) _
      unfold Mo_reads_t29
      rw [m2, isAt_eq hIr (by omega) (by omega) (by omega), bI_f e3, bnd_some, ifEq_t R0 R0 rfl]
      exact okP_some ⟨_, rfl, rfl, m1, m2⟩
    · rintro ⟨v, r⟩ - ⟨m0, m1, m2⟩
      have m0 : v = vM B q (rE L B 48 57 q - q) := m0
      have m1 : Ch [8009] t r := m1
      have m2 : gi r 80 9 = ((rE L B 48 57 q : Nat) : Int) := m2
      have hv := vv (B := B) q _ (num_d (L := L) q)
      have hnum : num L B q = vC B q (rE L B 48 57 q - q) := rfl
      have iff : (lo ≤ v ∧ v ≤ hi') ↔ (lo ≤ num L B q ∧ num L B q ≤ hi') := by
        rw [hnum, m0]
        omega
      have c0 := k1.tr (m1.mo (by decide))
      rw [grd_t (show R lo from by unfold R; omega), grd_t (show R hi' from by unfold R; omega), in_eq (by rw [m0]; unfold R; omega) (by unfold R; omega) (by unfold R; omega), bnd_some, propext iff]
      by_cases x : lo ≤ num L B q ∧ num L B q ≤ hi'
      · rw [bI_t x, ifEq_f R1 R0 (by omega), lett_eq]
        refine okP_some ⟨fun w => absurd z w, fun _ w => absurd x w, fun _ _ => ⟨(c0.mo (by decide)).tr (Ch.s8 (by decide)), rfl, by rw [gi_si_k _ _ _ (by omega)]; exact m2, ?_⟩⟩
        rw [gi_si_s, hnum]
        show v = _
        omega
      · have e10 : gi r 80 10 = (q : Int) := (m1.g8 10).trans k3
        rw [bI_f x, ifEq_t R0 R0 rfl, fails_eq, bnd2_some, grd_t (show b01 0 from Or.inl rfl), e10]
        exact okP_some ⟨fun w => absurd z w, fun _ _ => ⟨((c0.mo (by decide)).tr (Ch.s8 (by decide))).tr (Ch.s8 (by decide)), rfl, by rw [gi_si_k _ _ _ (by omega)]; exact gi_si_s _ _ _ _, gi_si_s _ _ _ _⟩, fun _ w => absurd w x⟩
  · rw [bI_f z, ifEq_t R0 R0 rfl, fails_eq, bnd2_some, grd_t (show b01 0 from Or.inl rfl), k3]
    exact okP_some ⟨fun _ => ⟨((k1.mo (by decide)).tr (Ch.s8 (by decide))).tr (Ch.s8 (by decide)), rfl, by rw [gi_si_k _ _ _ (by omega)]; exact gi_si_s _ _ _ _, gi_si_s _ _ _ _⟩, fun w => absurd w z, fun w => absurd w z⟩
end SCM
