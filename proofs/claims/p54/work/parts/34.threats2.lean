/-! ===== threats: both programs ===== -/
section THR
variable {s : Sg} {n : Nat} {f : Nat → Int} {sd : Int}
theorem Li_joinsBy_eq {x : Nat} (hG : GridOK s n) (hL : LinksOK s n f sd) (hsd : sd = 0 ∨ sd = 1) (hx : x < n * n) : Li_joinsBy (x : Int) s = some (bI (TE n f sd x 1 ∧ TE n f sd x 2)) := by
  have h81 := nn_le hG.2.1
  have a6 : alen 6 = 81 := rfl
  have a7 : alen 7 = 81 := rfl
  let A : Int → Nat → Prop := fun e j => ∃ y : Nat, nbj n x j = (y : Int) ∧ f y = sd ∧ ∃ z, Rch (Eb n f) y z ∧ edg n sd z = e
  unfold Li_joinsBy
  rw [hL.1, Gr_edges_eq hG hx hsd, bnd_some]
  unfold Li_joinsBy_l15
  have key : whl (fun σ : Int × Int => Li_joinsBy_t15 (x : Int) σ.1 σ.2 s) (edg n sd x, 0) = some (ev (edg n sd x = 1 ∨ ∃ j, j < 6 ∧ A 1 j) (edg n sd x = 2 ∨ ∃ j, j < 6 ∧ A 2 j)) := by
    refine whl_up' 6 (fun i => (ev (edg n sd x = 1 ∨ ∃ j, j < i ∧ A 1 j) (edg n sd x = 2 ∨ ∃ j, j < i ∧ A 2 j), (i : Int))) _ ?_ (fun i hi => ?_) ?_
    · show (ev (edg n sd x = 1 ∨ ∃ j, j < 0 ∧ A 1 j) (edg n sd x = 2 ∨ ∃ j, j < 0 ∧ A 2 j), ((0 : Nat) : Int)) = _
      rw [ors_0, ← edg_ev]; rfl
    · show Li_joinsBy_t15 (x : Int) (ev (edg n sd x = 1 ∨ ∃ j, j < i ∧ A 1 j) (edg n sd x = 2 ∨ ∃ j, j < i ∧ A 2 j)) (i : Int) s = some (Sum.inl (ev (edg n sd x = 1 ∨ ∃ j, j < i + 1 ∧ A 1 j) (edg n sd x = 2 ∨ ∃ j, j < i + 1 ∧ A 2 j), ((i + 1 : Nat) : Int)))
      have h0 := hL.tat hG hx hi
      rw [Gr_near_eq hG hx hi, bnd_some] at h0
      unfold Li_joinsBy_t15 Li_joinsBy_b54
      rw [ifLt_eq _ _ (R_nat (by omega)) R6, if_pos (by omega), Gr_near_eq hG hx hi, bnd_some, h0, bnd_some]
      rcases nbj_rg n x i with e | ⟨y, e, hy, -⟩
      · rw [ors_f _ _ _ _ i (fun ⟨y, q, _⟩ => by omega) (fun ⟨y, q, _⟩ => by omega), e, atv_m (by omega), ifEq_eq _ _ R_n1 R_n1, if_pos rfl]; rfl
      · rw [e, atv_n (by omega), ifEq_eq _ _ (hL.tR (by omega)) R_n1]
        by_cases fy : f y = sd
        · have hin := Eb_in hy (lab_r (Eb n f) y)
          have e1 := (hL.2.1 y (by omega)).1 hy fy
          rw [e1, if_neg (by omega), Hx_at_n (by omega), bnd_some, lett_eq, (hL.2.2 _ hin.1 (hin.2.trans fy) (lab_id Eb_sy y)).2, ors_t]
          have hA : ∀ v : Int, (∃ z, Rch (Eb n f) (lab (Eb n f) y) z ∧ edg n sd z = v) ↔ A v i := by
            intro v
            constructor
            · rintro ⟨z, hr, he⟩
              exact ⟨y, e, fy, z, (lab_r _ y).tr hr, he⟩
            · rintro ⟨y', e', -, z, hr, he⟩
              have : y' = y := by omega
              subst this
              exact ⟨z, ((lab_r _ y').sy Eb_sy).tr hr, he⟩
          rw [ev_congr (hA 1) (hA 2)]; rfl
        · have hA : ∀ v : Int, ¬ A v i := by
            rintro v ⟨y', q, q2, -⟩
            have : y' = y := by omega
            exact fy (this ▸ q2)
          rw [(hL.2.1 y (by omega)).2 (fun q => fy q.2), if_pos rfl, ors_f _ _ _ _ i (hA 1) (hA 2)]; rfl
    · show Li_joinsBy_t15 (x : Int) _ ((6 : Nat) : Int) s = _
      unfold Li_joinsBy_t15
      rw [ifLt_eq _ _ (R_nat (by omega)) R6, if_neg (by omega)]
  rw [key, bnd_some, ifEq_eq _ _ (R_ev _ _) R3]
  show (if ev (TE n f sd x 1) (TE n f sd x 2) = 3 then some (1 : Int) else some 0) = _
  by_cases h : TE n f sd x 1 ∧ TE n f sd x 2
  · rw [bI_t h, if_pos ((ev3 _ _).mpr h)]
  · rw [bI_f h, if_neg (fun q => h ((ev3 _ _).mp q))]
theorem Th_iff {x : Nat} (hx : x < n * n) (hsd : sd = 0 ∨ sd = 1) (hno : ¬ Jn n f sd) : Th n f sd x ↔ f x = -1 ∧ (TE n f sd x 1 ∧ TE n f sd x 2) :=
  ⟨fun h => ⟨h.1, (thr_iff hx h.1 (by omega) hno).mp h.2⟩, fun h => ⟨h.1, (thr_iff hx h.1 (by omega) hno).mpr h.2⟩⟩
theorem countThreats_ok (hG : GridOK s n) (hC : CB s n 11 f) (hfr : FR n f) (hsd : sd = 0 ∨ sd = 1) : okP (Hx_countThreats sd s) (fun o => Ch [5, 6, 7, 8, 9] s o.2 ∧ o.1 = (thc n f sd : Int)) := by
  have h81 := nn_le hG.2.1
  have a11 : alen 11 = 81 := rfl
  unfold Hx_countThreats
  refine okP_bnd (gather_ok hG (r1 := 11) (by decide) hC hfr hsd) ?_
  rintro t - ⟨hCh, hL⟩
  have hGt := hG.ch hCh (by decide) (by decide) (by decide) (by decide)
  have hCt : CB t n 11 f := hC.ch hCh
  rw [Li_joined_eq hGt hL, bnd_some, ifEq_eq _ _ (R_bI _) R0]
  by_cases hj : Jn n f sd
  · rw [bI_t hj, if_neg (by omega)]
    exact okP_some ⟨hCh, by unfold thc; rw [if_pos hj]; rfl⟩
  · rw [bI_f hj, if_pos rfl]
    unfold Hx_countThreats_l31
    have key : whl (fun σ : Int × Int => Hx_countThreats_t31 σ.1 σ.2 t) (0, 0) = some ((cnt (Th n f sd) (n * n) : Nat) : Int) := by
      refine whl_up' (n * n) (fun i => (((cnt (Th n f sd) i : Nat) : Int), (i : Int))) _ rfl (fun i hi => ?_) ?_
      · show Hx_countThreats_t31 _ (i : Int) t = _
        unfold Hx_countThreats_t31 Hx_countThreats_b68 Po_stone
        rw [hGt.2.2.2.1, ifLt_eq _ _ (R_nat (by omega)) (R_nat (by omega)), if_pos (by omega)]
        show bnd (bnd (Hx_at 11 (i : Int) t) _) _ = _
        rw [Hx_at_n (by omega), bnd_some, bnd_some, hCt i hi, ifEq_eq _ _ (hfr.r hi) R_n1]
        by_cases e1 : f i = -1
        · rw [if_pos e1, Li_joinsBy_eq hGt hL hsd hi, bnd_some, ifEq_eq _ _ (R_bI _) R0]
          by_cases e2 : TE n f sd i 1 ∧ TE n f sd i 2
          · rw [bI_t e2, if_neg (by omega), cnt_t ((Th_iff hi hsd hj).mpr ⟨e1, e2⟩)]; rfl
          · rw [bI_f e2, if_pos rfl, cnt_f (fun q => e2 ((Th_iff hi hsd hj).mp q).2)]; rfl
        · rw [if_neg e1, cnt_f (p := Th n f sd) (fun q => e1 q.1)]; rfl
      · show Hx_countThreats_t31 _ ((n * n : Nat) : Int) t = _
        unfold Hx_countThreats_t31
        rw [hGt.2.2.2.1, ifLt_eq _ _ (R_nat (by omega)) (R_nat (by omega)), if_neg (by omega)]
    rw [key]
    exact okP_some ⟨hCh, by unfold thc; rw [if_neg hj]⟩
theorem findThreat_ok {k : Int} (hG : GridOK s n) (hC : CB s n 11 f) (hfr : FR n f) (hsd : sd = 0 ∨ sd = 1) (hk : R k) : okP (Hx_findThreat sd k s) (fun o => Ch [5, 6, 7, 8, 9] s o.2 ∧ o.1 = tho n f sd k) := by
  have h81 := nn_le hG.2.1
  have a11 : alen 11 = 81 := rfl
  unfold Hx_findThreat
  refine okP_bnd (gather_ok hG (r1 := 11) (by decide) hC hfr hsd) ?_
  rintro t - ⟨hCh, hL⟩
  have hGt := hG.ch hCh (by decide) (by decide) (by decide) (by decide)
  have hCt : CB t n 11 f := hC.ch hCh
  rw [Li_joined_eq hGt hL, bnd_some, ifEq_eq _ _ (R_bI _) R0]
  by_cases hj : Jn n f sd
  · rw [bI_t hj, if_neg (by omega)]
    exact okP_some ⟨hCh, by unfold tho; rw [if_pos hj]⟩
  · rw [bI_f hj, if_pos rfl]
    unfold Hx_findThreat_l32
    have stp : ∀ i : Nat, i < n * n → Hx_findThreat_t32 k ((cnt (Th n f sd) i : Nat) : Int) (i : Int) t = @ite _ (Th n f sd i ∧ ((cnt (Th n f sd) i : Nat) : Int) = k) (Classical.propDecidable _) (some (.inr (.inl (i : Int)))) (some (.inl (((cnt (Th n f sd) (i + 1) : Nat) : Int), ((i + 1 : Nat) : Int)))) := by
      intro i hi
      have hle := cnt_le (Th n f sd) i
      unfold Hx_findThreat_t32 Hx_findThreat_b80 Po_stone
      rw [hGt.2.2.2.1, ifLt_eq _ _ (R_nat (by omega)) (R_nat (by omega)), if_pos (by omega)]
      show bnd (bnd (Hx_at 11 (i : Int) t) _) _ = _
      rw [Hx_at_n (by omega), bnd_some, bnd_some, hCt i hi, ifEq_eq _ _ (hfr.r hi) R_n1]
      by_cases e1 : f i = -1
      · rw [if_pos e1, Li_joinsBy_eq hGt hL hsd hi, bnd_some, ifEq_eq _ _ (R_bI _) R0]
        by_cases e2 : TE n f sd i 1 ∧ TE n f sd i 2
        · have hT := (Th_iff hi hsd hj).mpr ⟨e1, e2⟩
          rw [bI_t e2, if_neg (by omega), ifEq_eq _ _ (R_nat (by omega)) hk, cnt_t hT]
          by_cases e3 : ((cnt (Th n f sd) i : Nat) : Int) = k
          · rw [if_pos e3, if_pos ⟨hT, e3⟩]
          · rw [if_neg e3, if_neg (fun q => e3 q.2)]; rfl
        · have hT : ¬ Th n f sd i := fun q => e2 ((Th_iff hi hsd hj).mp q).2
          rw [bI_f e2, if_pos rfl, cnt_f hT, if_neg (fun q => hT q.1)]; rfl
      · have hT : ¬ Th n f sd i := fun q => e1 q.1
        rw [if_neg e1, cnt_f hT, if_neg (fun q => hT q.1)]; rfl
    have s3 : Hx_findThreat_t32 k ((cnt (Th n f sd) (n * n) : Nat) : Int) ((n * n : Nat) : Int) t = some (.inr (.inr ())) := by
      unfold Hx_findThreat_t32
      rw [hGt.2.2.2.1, ifLt_eq _ _ (R_nat (by omega)) (R_nat (by omega)), if_neg (by omega)]
    rcases whl_find (f := fun σ : Int × Int => Hx_findThreat_t32 k σ.1 σ.2 t) (fun i => (((cnt (Th n f sd) i : Nat) : Int), (i : Int))) (n * n) (fun i => Th n f sd i ∧ ((cnt (Th n f sd) i : Nat) : Int) = k) (fun i => .inl (i : Int)) (.inr ()) (fun i hi hp => (stp i hi).trans (if_pos hp)) (fun i hi hp => (stp i hi).trans (if_neg hp)) s3 with ⟨c, hc, hp, hn, e⟩ | ⟨hno, e⟩
    · have e' : whl (fun σ : Int × Int => Hx_findThreat_t32 k σ.1 σ.2 t) (0, 0) = some (.inl (c : Int)) := e
      rw [e']
      exact okP_some ⟨hCh, by unfold tho; rw [if_neg hj, nth_k hc hp.1 hp.2 hn]⟩
    · have e' : whl (fun σ : Int × Int => Hx_findThreat_t32 k σ.1 σ.2 t) (0, 0) = some (.inr ()) := e
      rw [e']
      exact okP_some ⟨hCh, by unfold tho; rw [if_neg hj, nth_no hno]⟩
/-! the reference -/
end THR

