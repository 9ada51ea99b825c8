/-! ===== chains: what they are asked ===== -/
noncomputable def brs (n : Nat) (f : Nat → Int) (sd : Int) : BL := brl n f sd (n * n)
def Ech (n : Nat) (f : Nat → Int) (sd : Int) : Nat → Nat → Prop := Ecm n f (brs n f sd) (brs n f sd).1
def Pch (n : Nat) (f : Nat → Int) (sd : Int) (v w : Int) : Nat → Prop := Pcm n sd (brs n f sd) v w (brs n f sd).1
noncomputable def evC (n : Nat) (f : Nat → Int) (sd : Int) (k : Nat) : Int := ev (∃ x, Rch (Ech n f sd) k x ∧ Pch n f sd 1 (-10) x) (∃ x, Rch (Ech n f sd) k x ∧ Pch n f sd 2 (-11) x)
theorem brs_w {n : Nat} {f : Nat → Int} {sd : Int} (hn : 2 ≤ n ∧ n ≤ 9) : BW n f sd (brs n f sd) ∧ (brs n f sd).1 ≤ 405 := by
  have h81 := nn_le hn.2
  have h := brl_w (n := n) (f := f) (sd := sd) hn.1 (n * n) (Nat.le_refl _)
  exact ⟨h.1, by have := h.2; unfold brs; omega⟩
theorem Ein_Ech {n : Nat} {f : Nat → Int} {sd : Int} (hn : 2 ≤ n ∧ n ≤ 9) : Ein n f (Ech n f sd) := Ein_Ecm (brs_w hn).1 _ (Nat.le_refl _)
section LKQ
variable {s : Sg} {n : Nat} {f : Nat → Int} {sd : Int} {E : Nat → Nat → Prop} {P1 P2 : Nat → Prop}
theorem LkC.parts (hG : GridOK s n) (hL : LkC s n f sd E P1 P2) : Li_parts s = some ((cnt (fun c => f c = sd ∧ lab E c = c) (n * n) : Nat) : Int) := by
  have h81 := nn_le hG.2.1
  unfold Li_parts Li_parts_l4
  have key : whl (fun σ : Int × Int => Li_parts_t4 σ.1 σ.2 s) (0, 0) = some ((cnt (fun c => f c = sd ∧ lab E c = c) (n * n) : Nat) : Int) := by
    refine whl_up (n * n) (fun i => (((cnt (fun c => f c = sd ∧ lab E c = c) i : Nat) : Int), (i : Int))) _ (fun i hi => ?_) ?_
    · show Li_parts_t4 _ (i : Int) s = _
      unfold Li_parts_t4 Li_parts_b27
      rw [hG.2.2.2.1, ifLt_eq _ _ (R_nat (by omega)) (R_nat (by omega)), if_pos (by omega), hL.top hi hG.2.1, bnd_some, ifEq_eq _ _ (hL.tR (by omega)) (R_nat (by omega))]
      by_cases e : gi s 6 i = (i : Int)
      · rw [if_pos e, cnt_t (p := fun c => f c = sd ∧ lab E c = c) ((hL.self (by omega)).mp e).2]; rfl
      · rw [if_neg e, cnt_f (p := fun c => f c = sd ∧ lab E c = c) (fun q => e ((hL.self (by omega)).mpr ⟨hi, q⟩))]; rfl
    · show Li_parts_t4 _ ((n * n : Nat) : Int) s = _
      unfold Li_parts_t4
      rw [hG.2.2.2.1, ifLt_eq _ _ (R_nat (by omega)) (R_nat (by omega)), if_neg (by omega)]
  rw [key]; rfl
theorem LkC.joined (hG : GridOK s n) (hL : LkC s n f sd E P1 P2) : Li_joined s = some (bI (∃ k, k < n * n ∧ f k = sd ∧ lab E k = k ∧ ev (∃ x, Rch E k x ∧ P1 x) (∃ x, Rch E k x ∧ P2 x) = 3)) := by
  have h81 := nn_le hG.2.1
  have a7 : alen 7 = 81 := rfl
  unfold Li_joined Li_joined_l2
  have s1 : ∀ i : Nat, i < n * n → (f i = sd ∧ lab E i = i ∧ ev (∃ x, Rch E i x ∧ P1 x) (∃ x, Rch E i x ∧ P2 x) = 3) → Li_joined_t2 (i : Int) s = some (.inr (.inl ())) := by
    intro i hi hp
    unfold Li_joined_t2
    rw [hG.2.2.2.1, ifLt_eq _ _ (R_nat (by omega)) (R_nat (by omega)), if_pos (by omega), hL.top hi hG.2.1, bnd_some, ifEq_eq _ _ (hL.tR (by omega)) (R_nat (by omega)), if_pos ((hL.self (by omega)).mpr ⟨hi, hp.1, hp.2.1⟩), Hx_at_n (by omega), bnd_some, (hL.2.2 i hi hp.1 hp.2.1).2, ifEq_eq _ _ (R_ev _ _) R3, if_pos hp.2.2]
  have s2 : ∀ i : Nat, i < n * n → ¬ (f i = sd ∧ lab E i = i ∧ ev (∃ x, Rch E i x ∧ P1 x) (∃ x, Rch E i x ∧ P2 x) = 3) → Li_joined_t2 (i : Int) s = some (.inl ((i + 1 : Nat) : Int)) := by
    intro i hi hp
    unfold Li_joined_t2 Li_joined_b36
    rw [hG.2.2.2.1, ifLt_eq _ _ (R_nat (by omega)) (R_nat (by omega)), if_pos (by omega), hL.top hi hG.2.1, bnd_some, ifEq_eq _ _ (hL.tR (by omega)) (R_nat (by omega))]
    by_cases ht : gi s 6 i = (i : Int)
    · obtain ⟨-, h1, h2⟩ := (hL.self (by omega)).mp ht
      rw [if_pos ht, Hx_at_n (by omega), bnd_some, (hL.2.2 i hi h1 h2).2, ifEq_eq _ _ (R_ev _ _) R3, if_neg (fun q => hp ⟨h1, h2, q⟩)]; rfl
    · rw [if_neg ht]; rfl
  have s3 : Li_joined_t2 ((n * n : Nat) : Int) s = some (.inr (.inr ())) := by
    unfold Li_joined_t2
    rw [hG.2.2.2.1, ifLt_eq _ _ (R_nat (by omega)) (R_nat (by omega)), if_neg (by omega)]
  rcases whl_find (f := fun σ : Int => Li_joined_t2 σ s) (fun i => (i : Int)) (n * n) (fun i => f i = sd ∧ lab E i = i ∧ ev (∃ x, Rch E i x ∧ P1 x) (∃ x, Rch E i x ∧ P2 x) = 3) (fun _ => .inl ()) (.inr ()) s1 s2 s3 with ⟨k, hk, hp, -, e⟩ | ⟨hno, e⟩
  · have e' : whl (fun σ : Int => Li_joined_t2 σ s) 0 = some (.inl ()) := e
    rw [e', bI_t ⟨k, hk, hp⟩]; rfl
  · have e' : whl (fun σ : Int => Li_joined_t2 σ s) 0 = some (.inr ()) := e
    rw [e', bI_f (fun ⟨k, hk, hp⟩ => hno k hk hp)]; rfl
theorem LkC.countingIn {st : BL} {top : Nat} (hG : GridOK s n) (hL : LkC s n f sd E P1 P2) (hB : ClB s st) (hw : BW n f sd st) (hm : st.1 ≤ 405) (ht : top < n * n) : Bl_countingIn (top : Int) s = some ((cnt (fun i => eCt st i = 1 ∧ lab E (eLow st i) = top) st.1 : Nat) : Int) := by
  have h81 := nn_le hG.2.1
  have a61 : alen 61 = 405 := rfl
  have a57 : alen 57 = 405 := rfl
  unfold Bl_countingIn Bl_countingIn_l5
  have key : whl (fun σ : Int × Int => Bl_countingIn_t5 (top : Int) σ.1 σ.2 s) (0, 0) = some ((cnt (fun i => eCt st i = 1 ∧ lab E (eLow st i) = top) st.1 : Nat) : Int) := by
    refine whl_up st.1 (fun i => (((cnt (fun i => eCt st i = 1 ∧ lab E (eLow st i) = top) i : Nat) : Int), (i : Int))) _ (fun i hi => ?_) ?_
    · have hl := hw.low hi
      have hle := lab_le E (eLow st i)
      show Bl_countingIn_t5 (top : Int) ((cnt (fun i => eCt st i = 1 ∧ lab E (eLow st i) = top) i : Nat) : Int) (i : Int) s = _
      unfold Bl_countingIn_t5 Bl_countingIn_b47
      rw [hB.1, ifLt_eq _ _ (R_nat (by omega)) (R_nat (by omega)), if_pos (by omega), Hx_at_n (by omega), bnd_some, (hB.2.1 i hi).2.2.2.2]
      show ifEq (eCt st i) 1 _ _ = _
      rw [ifEq_eq _ _ (hw.ctR hi) R1]
      by_cases e : eCt st i = 1
      · rw [if_pos e, Hx_at_n (by omega), bnd_some, (hB.2.1 i hi).1, hl.1, hL.top hl.2.1 hG.2.1, bnd_some, (hL.2.1 _ (by omega)).1 hl.2.1 hl.2.2, ifEq_eq _ _ (R_nat (by omega)) (R_nat (by omega))]
        by_cases e2 : lab E (eLow st i) = top
        · rw [if_pos (by omega), cnt_t (p := fun i => eCt st i = 1 ∧ lab E (eLow st i) = top) ⟨e, e2⟩]; rfl
        · rw [if_neg (by omega), cnt_f (p := fun i => eCt st i = 1 ∧ lab E (eLow st i) = top) (fun q => e2 q.2)]; rfl
      · rw [if_neg e, cnt_f (p := fun i => eCt st i = 1 ∧ lab E (eLow st i) = top) (fun q => e q.1)]; rfl
    · show Bl_countingIn_t5 (top : Int) _ (st.1 : Int) s = _
      unfold Bl_countingIn_t5
      rw [hB.1, ifLt_eq _ _ (R_nat (by omega)) (R_nat (by omega)), if_neg (by omega)]
  rw [key]; rfl
end LKQ
theorem gatherChains_ok {s : Sg} {n : Nat} {f : Nat → Int} {sd : Int} (hG : GridOK s n) (hS : Stat s) (hC : CB s n 11 f) (hfr : FR n f) (hsd : sd = 0 ∨ sd = 1) :
    okP (Hx_gatherChains sd s) (fun t => Ch [5, 6, 7, 8, 9, 56, 57, 58, 59, 60, 61, 62] s t ∧ LkC t n f sd (Ech n f sd) (Pch n f sd 1 (-10)) (Pch n f sd 2 (-11)) ∧ ClB t (brs n f sd)) := by
  have a11 : alen 11 = 81 := rfl
  unfold Hx_gatherChains
  refine okP_bnd (gather_ok hG ⟨a11, by decide⟩ hC hfr hsd) ?_
  rintro t - ⟨c1, hL⟩
  have hGt : GridOK t n := hG.ch c1 (by decide) (by decide) (by decide) (by decide)
  have hCt : CB t n 11 f := fun c hc => by rw [c1.g 11]; exact hC c hc
  refine okP_bnd (Bl_find_ok hGt (hS.ch c1 (by decide)) hsd ⟨a11, by decide⟩ hCt hfr) ?_
  rintro u - ⟨c2, hB⟩
  have hGu : GridOK u n := hGt.ch c2 (by decide) (by decide) (by decide) (by decide)
  have hLu : LinksOK u n f sd := LkC.ch (E := Eb n f) (P1 := fun x => edg n sd x = 1) (P2 := fun x => edg n sd x = 2) hL c2
  have hw := brs_w (f := f) (sd := sd) ⟨hG.1, hG.2.1⟩
  refine okP_bnd (linkCounting_ok hGu hB hw.1 hw.2 hLu) ?_
  rintro v - ⟨c3, hL3⟩
  refine okP_some ⟨(c1.mo (by decide)).tr ((c2.mo (by decide)).tr (c3.mo (by decide))), hL3, ?_⟩
  obtain ⟨b1, b2, b3⟩ := hB
  refine ⟨by rw [c3.g 56]; exact b1, fun i hi => ?_, fun c hc => by rw [c3.g 62]; exact b3 c hc⟩
  rw [c3.g 57, c3.g 58, c3.g 59, c3.g 60, c3.g 61]
  exact b2 i hi
/-! the reference's marks of chains -/
