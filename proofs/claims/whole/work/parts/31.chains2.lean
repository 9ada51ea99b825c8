/-! ===== chains: what they are asked ===== -/
noncomputable def brs (n : Nat) (f : Nat → Int) (sd : Int) : BL := brl n f sd (n * n)
def Ech (n : Nat) (f : Nat → Int) (sd : Int) : Nat → Nat → Prop := Ecm n f (brs n f sd) (brs n f sd).1
def Pch (n : Nat) (f : Nat → Int) (sd : Int) (v w : Int) : Nat → Prop := Pcm n sd (brs n f sd) v w (brs n f sd).1
noncomputable def evC (n : Nat) (f : Nat → Int) (sd : Int) (k : Nat) : Int := ev (∃ x, Rch (Ech n f sd) k x ∧ Pch n f sd 1 (-10) x) (∃ x, Rch (Ech n f sd) k x ∧ Pch n f sd 2 (-11) x)
theorem brs_w {n : Nat} {f : Nat → Int} {sd : Int} (hn : 2 ≤ n ∧ n ≤ 9) : BW n f sd (brs n f sd) ∧ (brs n f sd).1 ≤ 405 := by
  have h81 := nn_le hn.2
  have h := brl_w (n := n) (f := f) (sd := sd) hn.1 (n * n) (Nat.le_refl _)
  exact ⟨h.1, by have := h.2; unfold brs; omega⟩
theorem Ein_Ech {n : Nat} {f : Nat → Int} {sd : Int} (hn : 2 ≤ n ∧ n ≤ 9) : Ein n f (Ech n f sd) := Ein_Ecm (brs_w hn).1 _ (Nat.le_refl _)
section LKQ
variable {s : Sg} {n : Nat} {f : Nat → Int} {sd : Int} {E : Nat → Nat → Prop} {P1 P2 : Nat → Prop}
theorem LkC.parts (hG : GridOK s n) (hL : LkC s n f sd E P1 P2) : Li_parts s = some ((cnt (fun c => f c = sd ∧ lab E c = c) (n * n) : Nat) : Int) := by
  have h81 := nn_le hG.2.1
  unfold Li_parts Li_parts_l4
  have key : whl (fun σ : Int × Int => Li_parts_t4 σ.1 σ.2 s) (0, 0) = some ((cnt (fun c => f c = sd ∧ lab E c = c) (n * n) : Nat) : Int) := by
    refine whl_up (n * n) (fun i => (((cnt (fun c => f c = sd ∧ lab E c = c) i : Nat) : Int), (i : Int))) _ (fun i hi => ?_) ?_
    · show Li_parts_t4 _ (i : Int) s = _
      unfold Li_parts_t4 Li_parts_b27
      rw [hG.2.2.2.1, ifLt_eq _ _ (R_nat (by omega)) (R_nat (by omega)), if_pos (by omega), hL.top hi hG.2.1, bnd_some, ifEq_eq _ _ (hL.tR (by omega)) (R_nat (by omega))]
      by_cases e : gi s 6 i = (i : Int)
      · rw [if_pos e, cnt_t (p := fun c => f c = sd ∧ lab E c = c) ((hL.self (by omega)).mp e).2]; rfl
      · rw [if_neg e, cnt_f (p := fun c => f c = sd ∧ lab E c = c) (fun q => e ((hL.self (by omega)).mpr ⟨hi, q⟩))]; rfl
    · show Li_parts_t4 _ ((n * n : Nat) : Int) s = _
      unfold Li_parts_t4
      rw [hG.2.2.2.1, ifLt_eq _ _ (R_nat (by omega)) (R_nat (by omega)), if_neg (by omega)]
  rw [key]; rfl
theorem LkC.joined (hG : GridOK s n) (hL : LkC s n f sd E P1 P2) : Li_joined s = some (bI (∃ k, k < n * n ∧ f k = sd ∧ lab E k = k ∧ ev (∃ x, Rch E k x ∧ P1 x) (∃ x, Rch E k x ∧ P2 x) = 3)) := by
  have h81 := nn_le hG.2.1
  have a7 : alen 7 = 81 := rfl
  unfold Li_joined Li_joined_l2
  have s1 : ∀ i : Nat, i < n * n → (f i = sd ∧ lab E i = i ∧ ev (∃ x, Rch E i x ∧ P1 x) (∃ x, Rch E i x ∧ P2 x) = 3) → Li_joined_t2 (i : Int) s = some (.inr (.inl ())) := by
    intro i hi hp
    unfold Li_joined_t2
    rw [hG.2.2.2.1, ifLt_eq _ _ (R_nat (by omega)) (R_nat (by omega)), if_pos (by omega), hL.top hi hG.2.1, bnd_some, ifEq_eq _ _ (hL.tR (by omega)) (R_nat (by omega)), if_pos ((hL.self (by omega)).mpr ⟨hi, hp.1, hp.2.1⟩), Hx_at_n (by omega), bnd_some, (hL.2.2 i hi hp.1 hp.2.1).2, ifEq_eq _ _ (R_ev _ _) R3, if_pos hp.2.2]
  have s2 : ∀ i : Nat, i < n * n → ¬ (f i = sd ∧ lab E i = i ∧ ev (∃ x, Rch E i x ∧ P1 x) (∃ x, Rch E i x ∧ P2 x) = 3) → Li_joined_t2 (i : Int) s = some (.inl ((i + 1 : Nat) : Int)) := by
    intro i hi hp
    unfold Li_joined_t2 Li_joined_b36
    rw [hG.2.2.2.1, ifLt_eq _ _ (R_nat (by omega)) (R_nat (by omega)), if_pos (by omega), hL.top hi hG.2.1, bnd_some, ifEq_eq _ _ (hL.tR (by omega)) (R_nat (by omega))]
    by_cases ht : gi s 6 i = (i : Int)
    · obtain ⟨-, h1, h2⟩ := (hL.self (by omega)).mp ht
      rw [if_pos ht, Hx_at_n (by omega), bnd_some, (hL.2.2 i hi h1 h2).2, ifEq_eq _ _ (R_ev _ _) R3, if_neg (fun q => hp ⟨h1, h2, q⟩)]; rfl
    · rw [if_neg ht]; rfl
  have s3 : Li_joined_t2 ((n * n : Nat) : Int) s = some (.inr (.inr ())) := by
    unfold Li_joined_t2
    rw [hG.2.2.2.1, ifLt_eq _ _ (R_nat (by omega)) (R_nat (by omega)), if_neg (by omega)]
  rcases whl_find (f := fun σ : Int => Li_joined_t2 σ s) (fun i => (i : Int)) (n * n) (fun i => f i = sd ∧ lab E i = i ∧ ev (∃ x, Rch E i x ∧ P1 x) (∃ x, Rch E i x ∧ P2 x) = 3) (fun _ => .inl ()) (.inr ()) s1 s2 s3 with ⟨k, hk, hp, -, e⟩ | ⟨hno, e⟩
  · have e' : whl (fun σ : Int => Li_joined_t2 σ s) 0 = some (.inl ()) := e
    rw [e', bI_t ⟨k, hk, hp⟩]; rfl
  · have e' : whl (fun σ : Int => Li_joined_t2 σ s) 0 = some (.inr ()) := e
    rw [e', bI_f (fun ⟨k, hk, hp⟩ => hno k hk hp)]; rfl
theorem LkC.countingIn {st : BL} {top : Nat} (hG : GridOK s n) (hL : LkC s n f sd E P1 P2) (hB : ClB s st) (hw : BW n f sd st) (hm : st.1 ≤ 405) (ht : top < n * n) : Bl_countingIn (top : Int) s = some ((cnt (fun i => eCt st i = 1 ∧ lab E (eLow st i) = top) st.1 : Nat) : Int) := by
  have h81 := nn_le hG.2.1
  have a61 : alen 61 = 405 := rfl
  have a57 : alen 57 = 405 := rfl
  unfold Bl_countingIn Bl_countingIn_l5
  have key : whl (fun σ : Int × Int => Bl_countingIn_t5 (top : Int) σ.1 σ.2 s) (0, 0) = some ((cnt (fun i => eCt st i = 1 ∧ lab E (eLow st i) = top) st.1 : Nat) : Int) := by
    refine whl_up st.1 (fun i => (((cnt (fun i => eCt st i = 1 ∧ lab E (eLow st i) = top) i : Nat) : Int), (i : Int))) _ (fun i hi => ?_) ?_
    · have hl := hw.low hi
      have hle := lab_le E (eLow st i)
      show Bl_countingIn_t5 (top : Int) ((cnt (fun i => eCt st i = 1 ∧ lab E (eLow st i) = top) i : Nat) : Int) (i : Int) s = _
      unfold Bl_countingIn_t5 Bl_countingIn_b47
      rw [hB.1, ifLt_eq _ _ (R_nat (by omega)) (R_nat (by omega)), if_pos (by omega), Hx_at_n (by omega), bnd_some, (hB.2.1 i hi).2.2.2.2]
      show ifEq (eCt st i) 1 _ _ = _
      rw [ifEq_eq _ _ (hw.ctR hi) R1]
      by_cases e : eCt st i = 1
      · rw [if_pos e, Hx_at_n (by omega), bnd_some, (hB.2.1 i hi).1, hl.1, hL.top hl.2.1 hG.2.1, bnd_some, (hL.2.1 _ (by omega)).1 hl.2.1 hl.2.2, ifEq_eq _ _ (R_nat (by omega)) (R_nat (by omega))]
        by_cases e2 : lab E (eLow st i) = top
        · rw [if_pos (by omega), cnt_t (p := fun i => eCt st i = 1 ∧ lab E (eLow st i) = top) ⟨e, e2⟩]; rfl
        · rw [if_neg (by omega), cnt_f (p := fun i => eCt st i = 1 ∧ lab E (eLow st i) = top) (fun q => e2 q.2)]; rfl
      · rw [if_neg e, cnt_f (p := fun i => eCt st i = 1 ∧ lab E (eLow st i) = top) (fun q => e q.1)]; rfl
    · show Bl_countingIn_t5 (top : Int) _ (st.1 : Int) s = _
      unfold Bl_countingIn_t5
      rw [hB.1, ifLt_eq _ _ (R_nat (by omega)) (R_nat (by omega)), if_neg (by omega)]
  rw [key]; rfl
end LKQ
theorem gatherChains_ok {s : Sg} {n : Nat} {f : Nat → Int} {sd : Int} (hG : GridOK s n) (hS : Stat s) (hC : CB s n 11 f) (hfr : FR n f) (hsd : sd = 0 ∨ sd = 1) :
    okP (Hx_gatherChains sd s) (fun t => Ch [5, 6, 7, 8, 9, 56, 57, 58, 59, 60, 61, 62] s t ∧ LkC t n f sd (Ech n f sd) (Pch n f sd 1 (-10)) (Pch n f sd 2 (-11)) ∧ ClB t (brs n f sd)) := by
  have a11 : alen 11 = 81 := rfl
  unfold Hx_gatherChains
  refine okP_bnd (gather_ok hG ⟨a11, by decide⟩ hC hfr hsd) ?_
  rintro t - ⟨c1, hL⟩
  have hGt : GridOK t n := hG.ch c1 (by decide) (by decide) (by decide) (by decide)
  have hCt : CB t n 11 f := fun c hc => by rw [c1.g 11]; exact hC c hc
  refine okP_bnd (Bl_find_ok hGt (hS.ch c1 (by decide)) hsd ⟨a11, by decide⟩ hCt hfr) ?_
  rintro u - ⟨c2, hB⟩
  have hGu : GridOK u n := hGt.ch c2 (by decide) (by decide) (by decide) (by decide)
  have hLu : LinksOK u n f sd := LkC.ch (E := Eb n f) (P1 := fun x => edg n sd x = 1) (P2 := fun x => edg n sd x = 2) hL c2
  have hw := brs_w (f := f) (sd := sd) ⟨hG.1, hG.2.1⟩
  refine okP_bnd (linkCounting_ok hGu hB hw.1 hw.2 hLu) ?_
  rintro v - ⟨c3, hL3⟩
  refine okP_some ⟨(c1.mo (by decide)).tr ((c2.mo (by decide)).tr (c3.mo (by decide))), hL3, ?_⟩
  obtain ⟨b1, b2, b3⟩ := hB
  refine ⟨by rw [c3.g 56]; exact b1, fun i hi => ?_, fun c hc => by rw [c3.g 62]; exact b3 c hc⟩
  rw [c3.g 57, c3.g 58, c3.g 59, c3.g 60, c3.g 61]
  exact b2 i hi
/-! the reference's marks of chains -/
theorem laysChains_ok {s : Sg} {n : Nat} {f : Nat → Int} {sd : Int} (hM : MB s n f) (hfr : FR n f) (hsd : sd = 0 ∨ sd = 1) :
    okP (Mo_laysChains sd s) (fun t => Ch [94, 8024, 8025, 8026, 8027, 88, 89, 90, 91, 92, 93] s t ∧ MoB t (brs n f sd) ∧ Gm t 94 n (Ech n f sd)) := by
  have h81 := nn_le hM.1.2.1
  have a94 : alen 94 = 81 := rfl
  have hr : n * n ≤ alen 94 ∧ 94 ≠ 81 := ⟨by omega, by omega⟩
  unfold Mo_laysChains
  refine okP_bnd (laysBridges_ok hM hfr hsd) ?_
  rintro s1 - ⟨c1, hB1⟩
  have hM1 : MB s1 n f := hM.ch c1
  have hw := brs_w (f := f) (sd := sd) ⟨hM.1.1, hM.1.2.1⟩
  have hB1 : MoB s1 (brs n f sd) := hB1
  have hE := Ein_Ech (f := f) (sd := sd) ⟨hM.1.1, hM.1.2.1⟩
  have hEb : ∀ u v, Eb n f u v → Ech n f sd u v := fun _ _ e => Or.inl e
  refine okP_bnd (marksSelves_ok hM1.1 hr) ?_
  rintro s2 - ⟨c2, m2⟩
  have hMq0 : Mq n (Ech n f sd) (gi s2 94) := fun c hc => ⟨c, m2 c hc, Nat.le_refl c, Rch.rf _ _⟩
  unfold Mo_laysChains_l15
  refine okP_bnd (P := fun t => Ch [94, 8024, 8025, 8026, 8027, 88, 89, 90, 91, 92, 93] s t ∧ MoB t (brs n f sd) ∧ Gm t 94 n (Ech n f sd)) (okP_whl (fun σ => Ch [94] s1 σ.2 ∧ Mq n (Ech n f sd) (gi σ.2 94) ∧ ((σ.1 = 0 ∧ ∀ x y, Ech n f sd x y → gi σ.2 94 x = gi σ.2 94 y) ∨ σ.1 = 1)) (fun σ => 2 * msum (gi σ.2 94) (n * n) + σ.1.toNat) ⟨c2, hMq0, Or.inr rfl⟩ ?_) (fun v _ hv => okP_some hv)
  rintro ⟨y, t⟩ ⟨k1, k2, k3⟩
  show okP (Mo_laysChains_t15 y t) _
  unfold Mo_laysChains_t15
  have k1 : Ch [94] s1 t := k1
  have hMt : MB t n f := hM1.ch k1
  have hBt : MoB t (brs n f sd) := hB1.ch k1
  rcases k3 with ⟨rfl, k3⟩ | rfl
  · rw [ifEq_eq _ _ R0 R0, if_pos rfl]
    exact okP_some (Or.inr ⟨t, rfl, (c1.mo (by decide)).tr (k1.mo (by decide)), hBt, fun c hc => Mq_lab hE.1 (fun u v e => ⟨(hE.2 u v e).1, (hE.2 u v e).2.1⟩) k2 k3 c hc⟩)
  · rw [ifEq_eq _ _ R1 R0, if_neg (by omega)]
    refine okP_bnd2 (lowersNeighbours_ok hMt.1 hr hMt.2 hfr hE.1 hEb k2) ?_
    rintro y0 t0 - ⟨q1, q2, q3, q4⟩
    have q1 : Ch [94] t t0 := q1
    have q2 : Mq n (Ech n f sd) (gi t0 94) := q2
    have q3 : ∀ c, c < n * n → gi t0 94 c ≤ gi t 94 c := q3
    -- the links, one by one
    let I : Nat → Int → Sg → Prop := fun i w u => Ch [94] t u ∧ Mq n (Ech n f sd) (gi u 94) ∧ (∀ c, c < n * n → gi u 94 c ≤ gi t 94 c) ∧ ((w = 0 ∧ (∀ c, c < n * n → gi u 94 c = gi t 94 c) ∧ (∀ x y, Eb n f x y → gi t 94 x = gi t 94 y) ∧ ∀ j, j < i → eCt (brs n f sd) j = 1 → ∀ o : Nat, eOth (brs n f sd) j = (o : Int) → gi t 94 (eLow (brs n f sd) j) = gi t 94 o) ∨ (w = 1 ∧ ∃ j, j < n * n ∧ gi u 94 j < gi t 94 j))
    have hI0 : I 0 y0 t0 := by
      refine ⟨q1, q2, q3, ?_⟩
      rcases q4 with ⟨e, p1, p2⟩ | ⟨e, j, j1, j2⟩
      · exact Or.inl ⟨e, p1, p2, fun j hj => absurd hj (Nat.not_lt_zero j)⟩
      · exact Or.inr ⟨e, j, j1, j2⟩
    unfold Mo_laysChains_l30
    refine okP_bnd (P := fun o => I (brs n f sd).1 o.1 o.2) (whl_for (fun (i : Nat) (u : Int × Sg) => (u.1, (i : Int), u.2)) (brs n f sd).1 (fun i u => I i u.1 u.2) (t0 := (y0, t0)) (Nat.zero_le _) hI0 ?_ ?_) ?_
    · rintro i ⟨w, u⟩ hi hI
      have d1 : Ch [94] t u := hI.1
      have hBu : MoB u (brs n f sd) := hBt.ch d1
      have hl := hw.1.low hi
      have hm := hw.2
      show okP (Mo_laysChains_t30 w (i : Int) u) _
      -- nothing to do here
      have keep : (eCt (brs n f sd) i ≠ 1 ∨ eOth (brs n f sd) i < 0) → okP (some (.inl (w, (i : Int) + 1, u)) : Option ((Int × Int × Sg) ⊕ (Int × Sg))) (fun o => (∃ t' : Int × Sg, o = .inl (t'.1, ((i + 1 : Nat) : Int), t'.2) ∧ I (i + 1) t'.1 t'.2) ∨ ∃ r, o = .inr r ∧ I (brs n f sd).1 r.1 r.2) := by
        intro hno
        refine okP_some (Or.inl ⟨(w, u), rfl, hI.1, hI.2.1, hI.2.2.1, ?_⟩)
        rcases hI.2.2.2 with ⟨g1, g2, g3, g4⟩ | h
        · refine Or.inl ⟨g1, g2, g3, fun j hj h1 o h2 => ?_⟩
          by_cases e : j = i
          · subst e
            rcases hno with h | h
            · exact absurd h1 h
            · omega
          · exact g4 j (by omega) h1 o h2
        · exact Or.inr h
      unfold Mo_laysChains_t30 Mo_laysChains_b81
      rw [hBu.1, ifLt_eq _ _ (R_nat (by omega)) (R_nat (by omega)), if_pos (by omega), grd_t (by omega), grd_t (by omega), grd_t (by omega), grd_t (by omega)]
      show okP (ifEq (gi u 92 i) 0 _ (ifLt (gi u 89 i) 0 _ (bnd2 (Mo_lowers 94 (gi u 88 i) (gi u 89 i) u) _))) _
      rw [(hBu.2.1 i hi).2.2.2.2, (hBu.2.1 i hi).2.1, (hBu.2.1 i hi).1]
      show okP (ifEq (eCt (brs n f sd) i) 0 _ (ifLt (eOth (brs n f sd) i) 0 _ (bnd2 (Mo_lowers 94 ((brs n f sd).2.1 i).1 (eOth (brs n f sd) i) u) _))) _
      rw [ifEq_eq _ _ (hw.1.ctR hi) R0]
      rcases hw.1.ct hi with e | e
      · rw [if_pos e]
        exact keep (Or.inl (by rw [e]; omega))
      · rw [if_neg (by rw [e]; omega), ifLt_eq _ _ (hw.1.othR hM.1.2.1 hi) R0]
        rcases hw.1.oth hi with ⟨o, eo, ho, fo, -⟩ | eo | eo
        · rw [if_neg (by omega), hl.1, eo]
          have hlink : Ech n f sd (eLow (brs n f sd) i) o := Or.inr ⟨i, hi, e, o, eo, Or.inl ⟨rfl, rfl⟩⟩
          refine okP_bnd2 (Mo_lowers_ok hr.1 hl.2.1 ho hM.1.2.1 hI.2.1 hlink hE.1) ?_
          rintro z v - ⟨r1, r2, r3, r4⟩
          have r3 : ∀ c, c < n * n → gi v 94 c ≤ gi u 94 c := r3
          have hle : ∀ c, c < n * n → gi v 94 c ≤ gi t 94 c := fun c hc => Int.le_trans (r3 c hc) (hI.2.2.1 c hc)
          rcases r4 with ⟨e0, p2, p3⟩ | ⟨e1, j, j1, j2⟩
          · have e0 : z = 0 := e0
            have p3 : ∀ c, gi v 94 c = gi u 94 c := p3
            rw [e0, ifEq_eq _ _ R0 R0, if_pos rfl]
            refine okP_some (Or.inl ⟨(w, v), rfl, hI.1.tr r1, r2, hle, ?_⟩)
            rcases hI.2.2.2 with ⟨g1, g2, g3, g4⟩ | ⟨g1, j, j1, j2⟩
            · refine Or.inl ⟨g1, fun c hc => (p3 c).trans (g2 c hc), g3, fun j hj h1 o' h2 => ?_⟩
              by_cases ej : j = i
              · subst ej
                have : o' = o := by omega
                subst this
                rw [← g2 _ hl.2.1, ← g2 _ ho]
                exact p2
              · exact g4 j (by omega) h1 o' h2
            · exact Or.inr ⟨g1, j, j1, by show gi v 94 j < gi t 94 j; rw [p3 j]; exact j2⟩
          · have e1 : z = 1 := e1
            have j2 : gi v 94 j < gi u 94 j := j2
            have h9 : gi u 94 j ≤ gi t 94 j := hI.2.2.1 j j1
            rw [e1, ifEq_eq _ _ R1 R0, if_neg (by omega)]
            exact okP_some (Or.inl ⟨(1, v), rfl, hI.1.tr r1, r2, hle, Or.inr ⟨rfl, j, j1, by show gi v 94 j < gi t 94 j; omega⟩⟩)
        · rw [if_pos (by omega)]
          exact keep (Or.inr (by omega))
        · rw [if_pos (by omega)]
          exact keep (Or.inr (by omega))
    · rintro ⟨w, u⟩ hI
      have d1 : Ch [94] t u := hI.1
      have hBu : MoB u (brs n f sd) := hBt.ch d1
      have hm := hw.2
      show okP (Mo_laysChains_t30 w ((brs n f sd).1 : Int) u) _
      unfold Mo_laysChains_t30
      rw [hBu.1, ifLt_eq _ _ (R_nat (by omega)) (R_nat (by omega)), if_neg (by omega)]
      exact okP_some ⟨_, rfl, hI⟩
    · rintro ⟨w, u⟩ - hI
      have d1 : Ch [94] t u := hI.1
      have d2 : Mq n (Ech n f sd) (gi u 94) := hI.2.1
      have d3 : ∀ c, c < n * n → gi u 94 c ≤ gi t 94 c := hI.2.2.1
      rcases hI.2.2.2 with ⟨g1, g2, g3, g4⟩ | ⟨g1, j, j1, j2⟩
      · have g1 : w = 0 := g1
        subst g1
        have hcl : ∀ x y, Ech n f sd x y → gi u 94 x = gi u 94 y := by
          rintro x y (e | ⟨i, hi, h1, o, h2, h3⟩)
          · rw [g2 x e.1, g2 y e.2.1]; exact g3 x y e
          · have hl := hw.1.low hi
            have ho : o < n * n := by
              rcases hw.1.oth hi with ⟨o', eo, ho, -⟩ | eo | eo
              · have : o' = o := by omega
                exact this ▸ ho
              · omega
              · omega
            have h4 := g4 i hi h1 o h2
            rcases h3 with ⟨rfl, rfl⟩ | ⟨rfl, rfl⟩
            · rw [g2 _ hl.2.1, g2 _ ho]; exact h4
            · rw [g2 _ hl.2.1, g2 _ ho]; exact h4.symm
        refine okP_some (Or.inl ⟨(0, u), rfl, ⟨k1.tr d1, d2, Or.inl ⟨rfl, hcl⟩⟩, ?_⟩)
        have h9 : msum (gi u 94) (n * n) ≤ msum (gi t 94) (n * n) := msum_le d3
        show 2 * msum (gi u 94) (n * n) + (0 : Int).toNat < 2 * msum (gi t 94) (n * n) + (1 : Int).toNat
        omega
      · have g1 : w = 1 := g1
        subst g1
        refine okP_some (Or.inl ⟨(1, u), rfl, ⟨k1.tr d1, d2, Or.inr rfl⟩, ?_⟩)
        have h0 : 0 ≤ gi u 94 j := by
          obtain ⟨v, v1, -⟩ := d2 j j1
          have v1' : gi u 94 j = (v : Int) := v1
          omega
        have h9 : msum (gi u 94) (n * n) < msum (gi t 94) (n * n) := msum_lt d3 j1 j2 h0
        show 2 * msum (gi u 94) (n * n) + (1 : Int).toNat < 2 * msum (gi t 94) (n * n) + (1 : Int).toNat
        omega
