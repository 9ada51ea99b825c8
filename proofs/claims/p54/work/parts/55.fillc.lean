/-! ===== the class: fillings ===== -/
abbrev Ci : List Nat := [5, 6, 7, 8, 9, 78, 79]
section FILC
variable {n : Nat} {f : Nat → Int} {x : Int} {s : Sg}
theorem Fi_nextStone_eq (h : gi s 78 3 = x) : Fi_nextStone s = some (nxs x / 65536 % 2, si s 78 3 (nxs x)) := by
  have hr := nxs_rg x
  have e : iandI ((1103515245 * gi s 78 3) + 12345) 2147483647 = nxs x := by rw [h, iand_any]; rfl
  unfold Fi_nextStone
  rw [lett_eq, e, gi_si_s, grd_t ⟨⟨hr.1, by unfold R; omega⟩, by omega, by unfold R; omega⟩, grd_t ⟨⟨by omega, by unfold R; omega⟩, by omega, R2⟩, ifEq_eq _ _ (by unfold R; omega) R0]
  by_cases q : nxs x / 65536 % 2 = 0
  · rw [if_pos q, q]
  · rw [if_neg q, show nxs x / 65536 % 2 = 1 by omega]
theorem Fi_next_ok (hG : GridOK s n) (hC : CB s n 11 f) (hfr : FR n f) (hx : gi s 78 3 = x) : okP (Fi_next 11 s) (fun o => Ch Ci s o.2 ∧ gi o.2 78 3 = (fil n x f (n * n)).1 ∧ CB o.2 n 79 (fil n x f (n * n)).2 ∧ o.1 = fow n (fil n x f (n * n)).2) := by
  have h81 := nn_le hG.2.1
  have a11 : alen 11 = 81 := rfl
  have a79 : alen 79 = 81 := rfl
  unfold Fi_next Fi_next_l2
  refine okP_bnd (P := fun t => Ch [78, 79] s t ∧ gi t 78 3 = (fil n x f (n * n)).1 ∧ ∀ c, c < n * n → gi t 79 c = (fil n x f (n * n)).2 c) (whl_for (fun (i : Nat) (t : Sg) => ((i : Int), t)) (n * n) (fun i t => Ch [78, 79] s t ∧ gi t 78 3 = (fil n x f i).1 ∧ ∀ c, c < i → gi t 79 c = (fil n x f i).2 c) (i0 := 0) (t0 := s) (Nat.zero_le _) ⟨Ch.rf _ _, hx, fun c hc => absurd hc (Nat.not_lt_zero c)⟩ ?_ ?_) ?_
  · rintro i t hi' ⟨h1, h2, h3⟩
    have hGt := hG.ch h1 (by decide) (by decide) (by decide) (by decide)
    show okP (Fi_next_t2 11 (i : Int) t) _
    unfold Fi_next_t2 Fi_next_b37
    rw [hGt.2.2.2.1, ifLt_eq _ _ (R_nat (by omega)) (R_nat (by omega)), if_pos (by omega), Hx_at_n (by omega), bnd_some, h1.g 11, hC i hi', ifEq_eq _ _ (hfr.r hi') R_n1]
    by_cases q : f i = -1
    · have ef : fil n x f (i + 1) = (nxs (fil n x f i).1, ups (fil n x f i).2 i (nxs (fil n x f i).1 / 65536 % 2)) := by rw [fil_s, if_pos q]
      rw [if_pos q, Fi_nextStone_eq h2]
      show okP (bnd (Hx_set 79 (i : Int) _ _) _) _
      rw [Hx_set_n (by omega), bnd_some, ef]
      refine okP_some (Or.inl ⟨_, rfl, (h1.tr (Ch.si (by decide))).tr (Ch.si (by decide)), by rw [gi_si_o _ _ _ _ (by omega), gi_si_s], fun c hc => ?_⟩)
      show _ = ups (fil n x f i).2 i _ c
      by_cases e : c = i
      · subst e; rw [gi_si_s, ups_s]
      · rw [gi_si_k _ _ _ e, gi_si_o _ _ _ _ (by omega), ups_o e]; exact h3 c (by omega)
    · have ef : fil n x f (i + 1) = fil n x f i := by rw [fil_s, if_neg q]
      rw [if_neg q, Hx_set_n (by omega), bnd_some, ef]
      refine okP_some (Or.inl ⟨_, rfl, h1.tr (Ch.si (by decide)), by rw [gi_si_o _ _ _ _ (by omega)]; exact h2, fun c hc => ?_⟩)
      by_cases e : c = i
      · subst e; rw [gi_si_s, fil_o c c (Or.inr q)]
      · rw [gi_si_k _ _ _ e]; exact h3 c (by omega)
  · rintro t ⟨h1, h2, h3⟩
    have hGt := hG.ch h1 (by decide) (by decide) (by decide) (by decide)
    show okP (Fi_next_t2 11 ((n * n : Nat) : Int) t) _
    unfold Fi_next_t2
    rw [hGt.2.2.2.1, ifLt_eq _ _ (R_nat (by omega)) (R_nat (by omega)), if_neg (by omega)]
    exact okP_some ⟨t, rfl, h1, h2, h3⟩
  · rintro t - ⟨h1, h2, h3⟩
    have hGt := hG.ch h1 (by decide) (by decide) (by decide) (by decide)
    have hfull := fil_full (x := x) hfr
    refine okP_bnd (gather_ok hGt (r1 := 79) (by decide) h3 hfull.fr (Or.inl rfl)) ?_
    rintro u - ⟨k1, k2⟩
    have hGu := hGt.ch k1 (by decide) (by decide) (by decide) (by decide)
    have hC79 : CB u n 79 (fil n x f (n * n)).2 := fun c hc => by rw [k1.g 79]; exact h3 c hc
    have h78 : gi u 78 3 = (fil n x f (n * n)).1 := by rw [k1.g 78]; exact h2
    have hch : Ch Ci s u := (h1.mo (by decide)).tr (k1.mo (by decide))
    rw [Li_joined_eq hGu k2, bnd_some, ifEq_eq _ _ (R_bI _) R0]
    unfold fow
    by_cases q : Jn n (fil n x f (n * n)).2 0
    · rw [bI_t q, if_neg (by omega), if_pos q]
      exact okP_some ⟨hch, h78, hC79, rfl⟩
    · rw [bI_f q, if_pos rfl, if_neg q]
      exact okP_some ⟨hch, h78, hC79, rfl⟩
/-- how many fillings a side wins -/
noncomputable def flc (n : Nat) (x : Int) (f : Nat → Int) (sd : Int) (k : Nat) : Nat := cnt (fun j => fow n (fil n (sds n x f j) f (n * n)).2 = sd) k
theorem fillings_l_ok {sd : Int} {k : Nat} (hG : GridOK s n) (hC : CB s n 11 f) (hfr : FR n f) (hsd : sd = 0 ∨ sd = 1) (hk : k ≤ 100) (hx : gi s 78 3 = x) : okP (Hx_fillings_l33 sd (k : Int) 0 0 s) (fun o => Ch Ci s o.2 ∧ o.1 = .inr (flc n x f sd k : Int)) := by
  unfold Hx_fillings_l33
  refine okP_bnd (P := fun r => Ch Ci s r.2 ∧ r.1 = (flc n x f sd k : Int)) (whl_for (fun (j : Nat) (u : Int × Sg) => (u.1, (j : Int), u.2)) k (fun j u => Ch Ci s u.2 ∧ gi u.2 78 3 = sds n x f j ∧ u.1 = (flc n x f sd j : Int)) (i0 := 0) (t0 := (0, s)) (Nat.zero_le _) ⟨Ch.rf _ _, hx, rfl⟩ ?_ ?_) ?_
  · rintro j ⟨a, u⟩ hj ⟨h1, h2, h3⟩
    have h1 : Ch Ci s u := h1
    have h2 : gi u 78 3 = sds n x f j := h2
    have h3 : a = (flc n x f sd j : Int) := h3
    have hGu := hG.ch h1 (by decide) (by decide) (by decide) (by decide)
    have hCu : CB u n 11 f := hC.ch h1
    show okP (Hx_fillings_t33 sd (k : Int) a (j : Int) u) _
    unfold Hx_fillings_t33 Hx_fillings_b60
    rw [ifLt_eq _ _ (R_nat (by omega)) (R_nat (by omega)), if_pos (by omega)]
    refine okP_bnd2 (Fi_next_ok hGu hCu hfr h2) ?_
    rintro v w - ⟨k1, k2, -, k4⟩
    have k1 : Ch Ci u w := k1
    have k2 : gi w 78 3 = sds n x f (j + 1) := k2
    have k4 : v = fow n (fil n (sds n x f j) f (n * n)).2 := k4
    rw [k4, ifEq_eq _ _ (R_01 (fow_rg _ _)) (R_01 hsd)]
    by_cases q : fow n (fil n (sds n x f j) f (n * n)).2 = sd
    · rw [if_pos q]
      refine okP_some (Or.inl ⟨(a + 1, w), rfl, h1.tr k1, k2, ?_⟩)
      show a + 1 = _
      unfold flc at h3 ⊢
      rw [cnt_t (p := fun j => fow n (fil n (sds n x f j) f (n * n)).2 = sd) q, h3]; rfl
    · rw [if_neg q]
      refine okP_some (Or.inl ⟨(a, w), rfl, h1.tr k1, k2, ?_⟩)
      show a = _
      unfold flc at h3 ⊢
      rw [cnt_f (p := fun j => fow n (fil n (sds n x f j) f (n * n)).2 = sd) q, h3]
  · rintro ⟨a, u⟩ ⟨h1, h2, h3⟩
    show okP (Hx_fillings_t33 sd (k : Int) a (k : Int) u) _
    unfold Hx_fillings_t33
    rw [ifLt_eq _ _ (R_nat (by omega)) (R_nat (by omega)), if_neg (by omega)]
    exact okP_some ⟨(a, u), rfl, h1, h3⟩
  · rintro ⟨a, u⟩ - ⟨h1, h2⟩
    have h2 : a = (flc n x f sd k : Int) := h2
    rw [h2]
    exact okP_some ⟨h1, rfl⟩
theorem countIdle_ok {g : Nat → Int} (hG : GridOK s n) (hC : CB s n 11 f) (hfr : FR n f) (hC79 : CB s n 79 g) (hg : Full n g) : okP (Fi_countIdle 11 (fow n g) s) (fun o => Ch [5, 6, 7, 8, 9] s o.2 ∧ o.1 = (cnt (idl n f g) (n * n) : Int)) := by
  have h81 := nn_le hG.2.1
  have a11 : alen 11 = 81 := rfl
  have a79 : alen 79 = 81 := rfl
  have hw := fow_rg n g
  have h1w : 1 - fow n g = 0 ∨ 1 - fow n g = 1 := by omega
  unfold Fi_countIdle
  rw [Hx_otherSide_eq hw, bnd_some]
  refine okP_bnd (gather_ok hG (r1 := 79) (by decide) hC79 hg.fr h1w) ?_
  rintro t - ⟨h1, h2⟩
  have hGt := hG.ch h1 (by decide) (by decide) (by decide) (by decide)
  have hCt : CB t n 11 f := hC.ch h1
  have h79 : CB t n 79 g := hC79.ch h1
  unfold Fi_countIdle_l23
  have key : whl (fun σ : Int × Int => Fi_countIdle_t23 11 (fow n g) σ.1 σ.2 t) (0, 0) = some ((cnt (idl n f g) (n * n) : Nat) : Int) := by
    refine whl_up' (n * n) (fun i => (((cnt (idl n f g) i : Nat) : Int), (i : Int))) _ rfl (fun i hi' => ?_) ?_
    · show Fi_countIdle_t23 11 (fow n g) ((cnt (idl n f g) i : Nat) : Int) (i : Int) t = _
      have hidl := idl_iff hG.1 hg hi'
      have fin0 : fow n (ups g i (1 - g i)) = fow n g → Fi_countIdle_b65 11 (fow n g) ((cnt (idl n f g) i : Nat) : Int) (i : Int) 0 t = some (Sum.inl (((cnt (idl n f g) (i + 1) : Nat) : Int), ((i + 1 : Nat) : Int))) := by
        intro hq
        unfold Fi_countIdle_b65 Fi_countIdle_b85
        rw [Hx_at_n (by omega), bnd_some, hCt i hi', ifEq_eq _ _ (hfr.r hi') R_n1, ifEq_eq _ _ R0 R0, if_pos (show (0 : Int) = 0 from rfl)]
        by_cases q : f i = -1
        · rw [if_pos q, cnt_t (p := idl n f g) ⟨q, hq⟩]; rfl
        · rw [if_neg q, cnt_f (p := idl n f g) (fun z => q z.1)]; rfl
      have fin1 : fow n (ups g i (1 - g i)) ≠ fow n g → Fi_countIdle_b65 11 (fow n g) ((cnt (idl n f g) i : Nat) : Int) (i : Int) 1 t = some (Sum.inl (((cnt (idl n f g) (i + 1) : Nat) : Int), ((i + 1 : Nat) : Int))) := by
        intro hq
        unfold Fi_countIdle_b65 Fi_countIdle_b85
        rw [Hx_at_n (by omega), bnd_some, hCt i hi', ifEq_eq _ _ (hfr.r hi') R_n1, ifEq_eq _ _ R1 R0, if_neg (show ¬ (1 : Int) = 0 by omega), cnt_f (p := idl n f g) (fun z => hq z.2)]
        by_cases q : f i = -1
        · rw [if_pos q]; rfl
        · rw [if_neg q]; rfl
      unfold Fi_countIdle_t23 Fi_countIdle_b64
      rw [hGt.2.2.2.1, ifLt_eq _ _ (R_nat (by omega)) (R_nat (by omega)), if_pos (by omega), Hx_at_n (by omega), bnd_some, h79 i hi', ifEq_eq _ _ (hg.fr.r hi') (R_01 hw)]
      by_cases q : g i = fow n g
      · rw [if_pos q, Li_joinsBy_eq hGt h2 h1w hi', bnd_some, ifEq_eq _ _ (R_bI _) R0]
        by_cases q2 : TE n g (1 - fow n g) i 1 ∧ TE n g (1 - fow n g) i 2
        · rw [bI_t q2, if_neg (by omega)]
          exact fin1 (fun z => hidl.mp z ⟨q, q2⟩)
        · rw [bI_f q2, if_pos rfl]
          exact fin0 (hidl.mpr (fun z => q2 z.2))
      · rw [if_neg q]
        exact fin0 (hidl.mpr (fun z => q z.1))
    · show Fi_countIdle_t23 11 (fow n g) _ ((n * n : Nat) : Int) t = _
      unfold Fi_countIdle_t23
      rw [hGt.2.2.2.1, ifLt_eq _ _ (R_nat (by omega)) (R_nat (by omega)), if_neg (by omega)]
  rw [key]
  exact okP_some ⟨h1, rfl⟩
end FILC

