/-! ===== the class: the end of the game ===== -/
noncomputable def ix (f : Nat → Int) (c : Nat) : Nat := cnt (fun x => f x = -1) c
noncomputable def bdm (f : Nat → Int) (rem blk : Nat) (c : Nat) : Int := if f c = -1 then (if rem.testBit (ix f c) = true then -1 else if blk.testBit (ix f c) = true then 0 else 1) else f c
noncomputable def ow (n : Nat) (f : Nat → Int) (x : Nat) : Int := @ite _ (Jn n (bdm f 0 x) 0) (Classical.propDecidable _) 0 1
def EB (s : Sg) (n : Nat) (f : Nat → Int) : Prop := gi s 74 5 = (Fc n f : Int) ∧ (∀ c, c < n * n → f c = -1 → gi s 76 (ix f c) = (c : Int)) ∧ (∀ c, c < n * n → f c ≠ -1 → gi s 75 c = f c) ∧ ∀ x, x < 64 → gi s 77 x = -1 ∨ gi s 77 x = ow n f x
abbrev Ce : List Nat := [5, 6, 7, 8, 9, 74, 75, 76, 77]
section GAMEC
variable {n : Nat} {f : Nat → Int} {p : Int} {s : Sg}
theorem ix_lt {c c' : Nat} (h : c < c') (fc : f c = -1) : ix f c < ix f c' := by
  have h1 := cnt_t (p := fun x => f x = -1) fc
  have h2 := cnt_upto (p := fun x => f x = -1) (N := c') (M := c + 1) h
  unfold ix
  omega
theorem ix_inj {c c' : Nat} (fc : f c = -1) (fc' : f c' = -1) (h : ix f c = ix f c') : c = c' := by
  rcases Nat.lt_trichotomy c c' with q | q | q
  · have := ix_lt q fc; omega
  · exact q
  · have := ix_lt q fc'; omega
theorem ix_m {c : Nat} (hc : c < n * n) (fc : f c = -1) : ix f c < Fc n f := ix_lt hc fc
theorem ix_ex {i : Nat} (h : i < Fc n f) : ∃ c, c < n * n ∧ f c = -1 ∧ ix f c = i := by
  obtain ⟨c, h1, h2, h3⟩ := cnt_hit (p := fun x => f x = -1) (k := i) (N := n * n) h
  exact ⟨c, h1, h2, h3⟩
theorem ow_rg (n : Nat) (f : Nat → Int) (x : Nat) : ow n f x = 0 ∨ ow n f x = 1 := by
  unfold ow
  split
  · exact Or.inl rfl
  · exact Or.inr rfl
theorem FR.bd (h : FR n f) (rem blk : Nat) : FR n (bdm f rem blk) := by
  intro c hc
  unfold bdm
  split
  · split
    · exact Or.inl rfl
    · split
      · exact Or.inr (Or.inl rfl)
      · exact Or.inr (Or.inr rfl)
  · exact h c hc
theorem Fc_congr {g : Nat → Int} (h : ∀ c, c < n * n → f c = g c) : Fc n f = Fc n g := cnt_congr fun i hi' => by rw [h i hi']
theorem cv_congr : ∀ (k : Nat) (f g : Nat → Int) (p : Int), (∀ c, c < n * n → f c = g c) → cv n k f p = cv n k g p
  | 0, f, g, p, h => by
    unfold cv
    by_cases q : Jn n f 0
    · rw [if_pos q, if_pos ((Jn_congr h).mp q)]
    · rw [if_neg q, if_neg (fun k => q ((Jn_congr h).mpr k))]
  | k + 1, f, g, p, h => by
    have hc : ∀ c, cv n k (ups f c p) (1 - p) = cv n k (ups g c p) (1 - p) := fun c => cv_congr k _ _ _ fun x hx => by
      unfold ups
      split
      · rfl
      · exact h x hx
    unfold cv
    by_cases q : ∃ c, c < n * n ∧ f c = -1 ∧ cv n k (ups f c p) (1 - p) = p
    · obtain ⟨c, h1, h2, h3⟩ := q
      rw [if_pos ⟨c, h1, h2, h3⟩, if_pos ⟨c, h1, by rw [← h c h1]; exact h2, by rw [← hc c]; exact h3⟩]
    · rw [if_neg q, if_neg (fun ⟨c, h1, h2, h3⟩ => q ⟨c, h1, by rw [h c h1]; exact h2, by rw [hc c]; exact h3⟩)]
theorem En_begin_ok (hG : GridOK s n) (hC : CB s n 11 f) (hfr : FR n f) (hF : Fc n f ≤ 6) : okP (En_begin 11 s) (fun t => Ch [74, 75, 76, 77] s t ∧ EB t n f) := by
  have h81 := nn_le hG.2.1
  have a11 : alen 11 = 81 := rfl
  have a75 : alen 75 = 81 := rfl
  have a76 : alen 76 = 6 := rfl
  unfold En_begin
  rw [lett_eq]
  unfold En_begin_l7
  refine okP_bnd (P := fun t => Ch [74, 75, 76, 77] s t ∧ gi t 74 5 = (Fc n f : Int) ∧ (∀ c, c < n * n → f c = -1 → gi t 76 (ix f c) = (c : Int)) ∧ ∀ c, c < n * n → gi t 75 c = f c) (whl_for (fun (i : Nat) (t : Sg) => ((i : Int), t)) (n * n) (fun i t => Ch [74, 75, 76, 77] s t ∧ gi t 74 5 = (ix f i : Int) ∧ (∀ c, c < i → f c = -1 → gi t 76 (ix f c) = (c : Int)) ∧ ∀ c, c < i → gi t 75 c = f c) (i0 := 0) (t0 := si s 74 5 0) (Nat.zero_le _) ⟨Ch.si (by decide), gi_si_s _ _ _ _, fun c hc => absurd hc (Nat.not_lt_zero c), fun c hc => absurd hc (Nat.not_lt_zero c)⟩ ?_ ?_) ?_
  · rintro i t hi' ⟨h1, h2, h3, h4⟩
    have hGt := hG.ch h1 (by decide) (by decide) (by decide) (by decide)
    have hle := cnt_le (fun x => f x = -1) i
    have h2' : gi t 74 5 = ((cnt (fun x => f x = -1) i : Nat) : Int) := h2
    show okP (En_begin_t7 11 (i : Int) t) _
    unfold En_begin_t7 En_begin_b71
    rw [hGt.2.2.2.1, ifLt_eq _ _ (R_nat (by omega)) (R_nat (by omega)), if_pos (by omega), Hx_at_n (by omega), bnd_some, h1.g 11, hC i hi', Hx_set_n (by omega), bnd_some, Hx_at_n (by omega), bnd_some, gi_si_o _ _ _ _ (show (11 : Nat) ≠ 75 by omega), h1.g 11, hC i hi', ifEq_eq _ _ (hfr.r hi') R_n1, gi_si_o _ _ _ _ (show (74 : Nat) ≠ 75 by omega), h2', ifLt_eq _ _ (R_nat (by omega)) R6]
    have hC1 : Ch [74, 75, 76, 77] s (si t 75 i (f i)) := h1.tr (Ch.si (by decide))
    have h75 : ∀ c, c < i + 1 → gi (si t 75 i (f i)) 75 c = f c := by
      intro c hc
      by_cases e : c = i
      · subst e; rw [gi_si_s]
      · rw [gi_si_k _ _ _ e]; exact h4 c (by omega)
    by_cases q : f i = -1
    · have hm := ix_m hi' q
      have hix : ix f i = cnt (fun x => f x = -1) i := rfl
      rw [if_pos q, if_pos (by omega), Hx_set_n (by omega), bnd_some, lett_eq, gi_si_o _ _ _ _ (show (74 : Nat) ≠ 76 by omega), gi_si_o _ _ _ _ (show (74 : Nat) ≠ 75 by omega), h2']
      refine okP_some (Or.inl ⟨_, rfl, (hC1.tr (Ch.si (by decide))).tr (Ch.si (by decide)), ?_, fun c hc fc => ?_, fun c hc => ?_⟩)
      · rw [gi_si_s]
        show _ = ((cnt (fun x => f x = -1) (i + 1) : Nat) : Int)
        rw [cnt_t (p := fun x => f x = -1) q]; rfl
      · rw [gi_si_o _ _ _ _ (show (76 : Nat) ≠ 74 by omega)]
        by_cases e : c = i
        · subst e
          show gi (si _ 76 (ix f c) _) 76 (ix f c) = _
          rw [gi_si_s]
        · have : ix f c < ix f i := ix_lt (by omega) fc
          rw [gi_si_k _ _ _ (show ix f c ≠ cnt (fun x => f x = -1) i by omega), gi_si_o _ _ _ _ (show (76 : Nat) ≠ 75 by omega)]
          exact h3 c (by omega) fc
      · rw [gi_si_o _ _ _ _ (show (75 : Nat) ≠ 74 by omega), gi_si_o _ _ _ _ (show (75 : Nat) ≠ 76 by omega)]
        exact h75 c hc
    · rw [if_neg q]
      refine okP_some (Or.inl ⟨_, rfl, hC1, ?_, fun c hc fc => ?_, h75⟩)
      · rw [gi_si_o _ _ _ _ (show (74 : Nat) ≠ 75 by omega), h2']
        show _ = ((cnt (fun x => f x = -1) (i + 1) : Nat) : Int)
        rw [cnt_f (p := fun x => f x = -1) q]
      · rw [gi_si_o _ _ _ _ (show (76 : Nat) ≠ 75 by omega)]
        by_cases e : c = i
        · subst e; exact absurd fc q
        · exact h3 c (by omega) fc
  · rintro t ⟨h1, h2, h3, h4⟩
    have hGt := hG.ch h1 (by decide) (by decide) (by decide) (by decide)
    show okP (En_begin_t7 11 ((n * n : Nat) : Int) t) _
    unfold En_begin_t7
    rw [hGt.2.2.2.1, ifLt_eq _ _ (R_nat (by omega)) (R_nat (by omega)), if_neg (by omega)]
    exact okP_some ⟨t, rfl, h1, h2, h3, h4⟩
  · rintro t - ⟨h1, h2, h3, h4⟩
    unfold En_begin_l79
    refine okP_bnd (P := fun u => Ch [77] t u ∧ ∀ x, x < 64 → gi u 77 x = -1) (whl_for (fun (i : Nat) (u : Sg) => ((i : Int), u)) 64 (fun i u => Ch [77] t u ∧ ∀ x, x < i → gi u 77 x = -1) (i0 := 0) (t0 := t) (Nat.zero_le _) ⟨Ch.rf _ _, fun x hx => absurd hx (Nat.not_lt_zero x)⟩ ?_ ?_) ?_
    · rintro i u hi' ⟨k1, k2⟩
      show okP (En_begin_t79 (i : Int) u) _
      unfold En_begin_t79
      rw [ifLt_eq _ _ (R_nat (by omega)) (by unfold R; omega), if_pos (by omega), grd_t ⟨by omega, by omega⟩, lett_eq]
      refine okP_some (Or.inl ⟨si u 77 i (-1), rfl, k1.tr (Ch.si (by decide)), fun x hx => ?_⟩)
      by_cases e : x = i
      · subst e; rw [gi_si_s]
      · rw [gi_si_k _ _ _ e]; exact k2 x (by omega)
    · rintro u ⟨k1, k2⟩
      show okP (En_begin_t79 ((64 : Nat) : Int) u) _
      unfold En_begin_t79
      rw [ifLt_eq _ _ (R_nat (by omega)) (by unfold R; omega), if_neg (by omega)]
      exact okP_some ⟨u, rfl, k1, k2⟩
    · rintro u - ⟨k1, k2⟩
      exact okP_some ⟨h1.tr (k1.mo (by decide)), by rw [k1.g 74]; exact h2, fun c hc fc => by rw [k1.g 76]; exact h3 c hc fc, fun c hc _ => by rw [k1.g 75]; exact h4 c hc, fun x hx => Or.inl (k2 x hx)⟩
theorem En_owner_ok {x : Nat} (hG : GridOK s n) (hfr : FR n f) (hF : Fc n f ≤ 6) (hE : EB s n f) (hx : x < 64) : okP (En_owner (x : Int) s) (fun o => Ch Ce s o.2 ∧ EB o.2 n f ∧ o.1 = ow n f x) := by
  have h81 := nn_le hG.2.1
  have a75 : alen 75 = 81 := rfl
  have a76 : alen 76 = 6 := rfl
  have a77 : alen 77 = 64 := rfl
  obtain ⟨e1, e2, e3, e4⟩ := hE
  have hR : R (gi s 77 x) := by
    rcases e4 x hx with q | q
    · rw [q]; exact R_n1
    · rw [q]; exact R_01 (ow_rg n f x)
  unfold En_owner
  rw [Hx_at_n (by omega), bnd_some, ifEq_eq _ _ hR R_n1]
  by_cases hc : gi s 77 x = -1
  · rw [if_pos hc]
    unfold En_owner_l14
    refine okP_bnd (P := fun t => Ch [75] s t ∧ (∀ c, c < n * n → f c ≠ -1 → gi t 75 c = f c) ∧ ∀ c, c < n * n → f c = -1 → gi t 75 c = if x.testBit (ix f c) = true then 0 else 1) (whl_for (fun (i : Nat) (t : Sg) => ((i : Int), t)) (Fc n f) (fun i t => Ch [75] s t ∧ (∀ c, c < n * n → f c ≠ -1 → gi t 75 c = f c) ∧ ∀ c, c < n * n → f c = -1 → ix f c < i → gi t 75 c = if x.testBit (ix f c) = true then 0 else 1) (i0 := 0) (t0 := s) (Nat.zero_le _) ⟨Ch.rf _ _, e3, fun c _ _ h => absurd h (Nat.not_lt_zero _)⟩ ?_ ?_) ?_
    · rintro i t hi' ⟨h1, h2, h3⟩
      obtain ⟨c, hcn, fc, hic⟩ := ix_ex hi'
      have h76 : gi t 76 i = (c : Int) := by rw [h1.g 76, ← hic]; exact e2 c hcn fc
      have hput : ∀ v : Int, v = (if x.testBit i = true then 0 else 1) → okP (En_owner_b47 (x : Int) (i : Int) (c : Int) v t) (fun o => (∃ t', o = .inl (((i + 1 : Nat) : Int), t') ∧ Ch [75] s t' ∧ (∀ c, c < n * n → f c ≠ -1 → gi t' 75 c = f c) ∧ ∀ c, c < n * n → f c = -1 → ix f c < i + 1 → gi t' 75 c = if x.testBit (ix f c) = true then 0 else 1) ∨ ∃ r, o = .inr r ∧ Ch [75] s r ∧ (∀ c, c < n * n → f c ≠ -1 → gi r 75 c = f c) ∧ ∀ c, c < n * n → f c = -1 → gi r 75 c = if x.testBit (ix f c) = true then 0 else 1) := by
        intro v hv
        unfold En_owner_b47
        rw [Hx_set_n (by omega), bnd_some]
        refine okP_some (Or.inl ⟨_, rfl, h1.tr (Ch.si (by decide)), fun y hy fy => ?_, fun y hy fy hiy => ?_⟩)
        · rw [gi_si_k _ _ _ (show y ≠ c from fun q => by subst q; exact fy fc)]; exact h2 y hy fy
        · by_cases q : y = c
          · subst q; rw [gi_si_s, hic]; exact hv
          · have : ix f y ≠ i := fun k => q (ix_inj fy fc (k.trans hic.symm))
            rw [gi_si_k _ _ _ q]; exact h3 y hy fy (by omega)
      show okP (En_owner_t14 (x : Int) (i : Int) t) _
      unfold En_owner_t14
      rw [h1.g 74, e1, ifLt_eq _ _ (R_nat (by omega)) (R_nat (by omega)), if_pos (by omega), Hx_at_n (by omega), bnd_some, h76, ishl_1 i (by omega), iand_nat (by omega), ifEq_eq _ _ (R_nat (by have := Nat.and_le_left (n := x) (m := 2 ^ i); omega)) R0]
      by_cases q : x.testBit i = true
      · rw [if_neg (fun k => by
          have := and_bit.mp (show x &&& 2 ^ i = 0 by omega)
          rw [this] at q; cases q)]
        exact hput 0 (by rw [if_pos q])
      · have q' : x.testBit i = false := by
          cases h : x.testBit i
          · rfl
          · exact absurd h q
        rw [if_pos (by rw [and_bit.mpr q']; rfl)]
        exact hput 1 (by rw [if_neg q])
    · rintro t ⟨h1, h2, h3⟩
      show okP (En_owner_t14 (x : Int) ((Fc n f : Nat) : Int) t) _
      unfold En_owner_t14
      rw [h1.g 74, e1, ifLt_eq _ _ (R_nat (by omega)) (R_nat (by omega)), if_neg (by omega)]
      exact okP_some ⟨t, rfl, h1, h2, fun c hcn fc => h3 c hcn fc (ix_m hcn fc)⟩
    · rintro t - ⟨h1, h2, h3⟩
      have hGt := hG.ch h1 (by decide) (by decide) (by decide) (by decide)
      have hfb := hfr.bd 0 x
      have hcb : CB t n 75 (bdm f 0 x) := by
        intro c hcn
        unfold bdm
        by_cases q : f c = -1
        · rw [if_pos q, if_neg (by simp)]; exact h3 c hcn q
        · rw [if_neg q]; exact h2 c hcn q
      refine okP_bnd (gather_ok hGt (r1 := 75) (by decide) hcb hfb (Or.inl rfl)) ?_
      rintro u - ⟨k1, k2⟩
      have hGu := hGt.ch k1 (by decide) (by decide) (by decide) (by decide)
      have fin : ∀ v : Int, v = ow n f x → okP (En_owner_b88 (x : Int) (x : Int) v u) (fun o => Ch Ce s o.2 ∧ EB o.2 n f ∧ o.1 = ow n f x) := by
        intro v hv
        unfold En_owner_b88 En_owner_b91
        rw [Hx_set_n (by omega), bnd_some, Hx_at_n (by omega), bnd_some, gi_si_s]
        refine okP_some ⟨((h1.mo (by decide)).tr (k1.mo (by decide))).tr (Ch.si (by decide)), ⟨?_, fun c hcn fc => ?_, fun c hcn fc => ?_, fun y hy => ?_⟩, hv⟩
        · rw [gi_si_o _ _ _ _ (by omega), k1.g 74, h1.g 74]; exact e1
        · rw [gi_si_o _ _ _ _ (by omega), k1.g 76, h1.g 76]; exact e2 c hcn fc
        · rw [gi_si_o _ _ _ _ (by omega), k1.g 75]; exact h2 c hcn fc
        · by_cases q : y = x
          · subst q; rw [gi_si_s]; exact Or.inr hv
          · rw [gi_si_k _ _ _ q, k1.g 77, h1.g 77]; exact e4 y hy
      rw [Li_joined_eq hGu k2, bnd_some, ifEq_eq _ _ (R_bI _) R0]
      by_cases q : Jn n (bdm f 0 x) 0
      · rw [bI_t q, if_neg (by omega)]
        exact fin 0 (by unfold ow; rw [if_pos q])
      · rw [bI_f q, if_pos rfl]
        exact fin 1 (by unfold ow; rw [if_neg q])
  · rw [if_neg hc]
    unfold En_owner_b91
    rw [Hx_at_n (by omega), bnd_some]
    exact okP_some ⟨Ch.rf _ _, ⟨e1, e2, e3, e4⟩, (e4 x hx).resolve_left hc⟩
end GAMEC

