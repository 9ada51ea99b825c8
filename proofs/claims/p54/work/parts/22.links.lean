/-! ===== the groups of a side: Li_flood, Li_gather ===== -/
section FLOOD
variable {n : Nat} {f : Nat → Int} {sd : Int} {top r1 : Nat} {s0 : Sg}
/-- within a flood: m cells wait or have waited -/
def Fl (n : Nat) (f : Nat → Int) (top : Nat) (s0 : Sg) (m : Nat) (s1 : Sg) : Prop :=
  Ch [6, 9] s0 s1 ∧ (∀ i, i < m → ∃ v : Nat, v < n * n ∧ gi s1 9 i = (v : Int) ∧ Rch (Eb n f) top v ∧ gi s1 6 v = (top : Int)) ∧
  (∀ c, c < 81 → (gi s1 6 c = (top : Int) ∧ gi s0 6 c = -1 ∧ ∃ i, i < m ∧ gi s1 9 i = (c : Int)) ∨ (gi s1 6 c = gi s0 6 c ∧ ∀ i, i < m → gi s1 9 i ≠ (c : Int))) ∧
  m + cnt (fun c => gi s1 6 c = -1) 81 = cnt (fun c => gi s0 6 c = -1) 81
theorem Fl_add {m : Nat} {s1 : Sg} (hn : n ≤ 9) (h : Fl n f top s0 m s1) {y : Nat} (hy : y < n * n) (hr : Rch (Eb n f) top y) (h1 : gi s1 6 y = -1) : m < 81 ∧ Fl n f top s0 (m + 1) (si (si s1 6 y (top : Int)) 9 m (y : Int)) := by
  have h81 := nn_le hn
  obtain ⟨g1, g2, g3, g4⟩ := h
  have hpos : 0 < cnt (fun c => gi s1 6 c = -1) 81 := cnt_pos (j := y) (by omega) h1
  have hle := cnt_le (fun c => gi s0 6 c = -1) 81
  have hm : m < 81 := by omega
  have e6 : ∀ c, gi (si (si s1 6 y (top : Int)) 9 m (y : Int)) 6 c = if c = y then (top : Int) else gi s1 6 c := fun c => by
    rw [gi_si_o _ _ _ _ (by omega), gi_si_r]
  have e9 : ∀ i, gi (si (si s1 6 y (top : Int)) 9 m (y : Int)) 9 i = if i = m then (y : Int) else gi s1 9 i := fun i => by
    rw [gi_si_r, gi_si_o _ _ _ _ (by omega)]
  refine ⟨hm, g1.tr ((Ch.si (by decide)).tr (Ch.si (by decide))), fun i hi => ?_, fun c hc => ?_, ?_⟩
  · rw [e9 i]
    by_cases him : i = m
    · refine ⟨y, hy, by rw [if_pos him], hr, by rw [e6, if_pos rfl]⟩
    · obtain ⟨v, k1, k2, k3, k4⟩ := g2 i (by omega)
      refine ⟨v, k1, by rw [if_neg him]; exact k2, k3, ?_⟩
      rw [e6]
      by_cases hv : v = y
      · rw [if_pos hv]
      · rw [if_neg hv]; exact k4
  · rw [e6 c]
    by_cases hcy : c = y
    · subst hcy
      rw [if_pos rfl]
      refine Or.inl ⟨rfl, ?_, m, by omega, by rw [e9, if_pos rfl]⟩
      rcases g3 c hc with ⟨k1, k2, -⟩ | ⟨k1, -⟩
      · exact k2
      · rw [← k1]; exact h1
    · rw [if_neg hcy]
      rcases g3 c hc with ⟨k1, k2, i, k3, k4⟩ | ⟨k1, k2⟩
      · exact Or.inl ⟨k1, k2, i, by omega, by rw [e9, if_neg (by omega)]; exact k4⟩
      · refine Or.inr ⟨k1, fun i hi => ?_⟩
        rw [e9]
        by_cases him : i = m
        · rw [if_pos him]; omega
        · rw [if_neg him]; exact k2 i (by omega)
  · have hc := cnt_add (p := fun c => gi (si (si s1 6 y (top : Int)) 9 m (y : Int)) 6 c = -1) (q := fun c => gi s1 6 c = -1) (j := y) (N := 81) (by rw [e6, if_pos rfl]; omega) h1 (by omega) (fun i hi hne => by rw [e6, if_neg hne])
    omega
theorem flood_in (hG : GridOK s0 n) (hr1 : alen r1 = 81 ∧ r1 ∉ [5, 6, 7, 8, 9]) (hf : ∀ c, c < n * n → gi s0 r1 c = f c) (hfr : ∀ c, c < n * n → f c = -1 ∨ f c = 0 ∨ f c = 1) (hT : ∀ c, c < 81 → gi s0 6 c = -1 ∨ ∃ v : Nat, gi s0 6 c = (v : Int) ∧ v < 81) (hsd : sd = 0 ∨ sd = 1) (h5 : gi s0 5 5 = sd) {x m0 : Nat} {s1 : Sg} (htop : top < n * n) (hx : x < n * n) (hxr : Rch (Eb n f) top x) (hfx : f x = sd) (x3 x5 : Int) (hF : Fl n f top s0 m0 s1) :
    okP (Li_flood_l70 r1 (top : Int) x3 (m0 : Int) x5 (x : Int) 0 s1) (fun o => ∃ (m' : Nat) (s' : Sg), o = .inl (x3, (m' : Int), x5 + 1, s') ∧ Fl n f top s0 m' s' ∧ m0 ≤ m' ∧ (∀ i, i < m0 → gi s' 9 i = gi s1 9 i) ∧ (∀ c, c < 81 → gi s1 6 c ≠ -1 → gi s' 6 c ≠ -1) ∧ ∀ y, Adj n x y → f y = sd → gi s' 6 y ≠ -1) := by
  have h81 := nn_le hG.2.1
  have a6 : alen 6 = 81 := rfl
  have a9 : alen 9 = 81 := rfl
  have hm81 : ∀ (m : Nat) (s' : Sg), Fl n f top s0 m s' → m ≤ 81 := fun m s' h => by
    have := cnt_le (fun c => gi s0 6 c = -1) 81
    have := h.2.2.2
    omega
  unfold Li_flood_l70
  refine okP_bnd (P := fun o => ∃ (m' : Nat) (s' : Sg), o = ((m' : Int), s') ∧ Fl n f top s0 m' s' ∧ m0 ≤ m' ∧ (∀ i, i < m0 → gi s' 9 i = gi s1 9 i) ∧ (∀ c, c < 81 → gi s1 6 c ≠ -1 → gi s' 6 c ≠ -1) ∧ ∀ y, Adj n x y → f y = sd → gi s' 6 y ≠ -1)
    (whl_for (fun (j : Nat) (t : Nat × Sg) => ((t.1 : Int), (j : Int), t.2)) 6 (fun j t => Fl n f top s0 t.1 t.2 ∧ m0 ≤ t.1 ∧ (∀ i, i < m0 → gi t.2 9 i = gi s1 9 i) ∧ (∀ c, c < 81 → gi s1 6 c ≠ -1 → gi t.2 6 c ≠ -1) ∧ ∀ j', j' < j → ∀ y : Nat, nbj n x j' = (y : Int) → f y = sd → gi t.2 6 y ≠ -1) (t0 := (m0, s1)) (Nat.zero_le 6) ⟨hF, Nat.le_refl _, fun _ _ => rfl, fun _ _ h => h, fun _ h => absurd h (Nat.not_lt_zero _)⟩ ?_ ?_) ?_
  · rintro j ⟨m, s⟩ hj ⟨k1, k2, k3, k4, k5⟩
    have hm := hm81 m s k1
    have hG' : GridOK s n := hG.ch k1.1 (by decide) (by decide) (by decide) (by decide)
    show okP (Li_flood_t70 r1 (top : Int) x3 (m : Int) x5 (x : Int) (j : Int) s) _
    unfold Li_flood_t70 Li_flood_b146
    rw [ifLt_eq _ _ (R_nat (by omega)) (by unfold R; omega), if_pos (by omega), Gr_near_eq hG' hx hj, bnd_some]
    have keep : (∀ y : Nat, nbj n x j = (y : Int) → f y = sd → gi s 6 y ≠ -1) → okP (some (.inl ((m : Int), (j : Int) + 1, s)) : Option ((Int × Int × Sg) ⊕ (Int × Sg))) (fun o => (∃ t' : Nat × Sg, o = .inl ((t'.1 : Int), ((j + 1 : Nat) : Int), t'.2) ∧ Fl n f top s0 t'.1 t'.2 ∧ m0 ≤ t'.1 ∧ (∀ i, i < m0 → gi t'.2 9 i = gi s1 9 i) ∧ (∀ c, c < 81 → gi s1 6 c ≠ -1 → gi t'.2 6 c ≠ -1) ∧ ∀ j', j' < j + 1 → ∀ y : Nat, nbj n x j' = (y : Int) → f y = sd → gi t'.2 6 y ≠ -1) ∨ ∃ r, o = .inr r ∧ ∃ (m' : Nat) (s' : Sg), r = ((m' : Int), s') ∧ Fl n f top s0 m' s' ∧ m0 ≤ m' ∧ (∀ i, i < m0 → gi s' 9 i = gi s1 9 i) ∧ (∀ c, c < 81 → gi s1 6 c ≠ -1 → gi s' 6 c ≠ -1) ∧ ∀ y, Adj n x y → f y = sd → gi s' 6 y ≠ -1) := by
      intro hk
      refine okP_some (Or.inl ⟨(m, s), rfl, k1, k2, k3, k4, fun j' hj' y e1 e2 => ?_⟩)
      by_cases e : j' = j
      · subst e; exact hk y e1 e2
      · exact k5 j' (by omega) y e1 e2
    rcases nbj_rg n x j with hv | ⟨y, hv, hy, hA⟩
    · rw [hv, ifEq_eq _ _ R_n1 R_n1, if_pos rfl]
      exact keep (fun y e1 => by rw [hv] at e1; omega)
    · have hy81 : y < 81 := by omega
      have hfy : gi s r1 y = f y := by rw [k1.1.g r1 (by intro q; exact hr1.2 (by revert q; simp; omega)) (ne80 hr1.1)]; exact hf y hy
      have h5' : gi s 5 5 = sd := by rw [k1.1.g 5]; exact h5
      rw [hv, ifEq_eq _ _ (R_nat (by omega)) R_n1, if_neg (by omega), Hx_at_n (by omega), bnd_some, hfy, h5', ifEq_eq _ _ (by rcases hfr y hy with h | h | h <;> rw [h] <;> unfold R <;> omega) (by unfold R; omega)]
      by_cases hfs : f y = sd
      · rw [if_pos hfs, Hx_at_n (by omega), bnd_some]
        have hRt : R (gi s 6 y) := by
          rcases k1.2.2.1 y hy81 with ⟨q, -⟩ | ⟨q, -⟩
          · rw [q]; exact R_nat (by omega)
          · rw [q]
            rcases hT y hy81 with h | ⟨v, h, hv2⟩
            · rw [h]; exact R_n1
            · rw [h]; exact R_nat (by omega)
        rw [ifEq_eq _ _ hRt R_n1]
        by_cases ht : gi s 6 y = -1
        · have hE : Eb n f x y := ⟨hx, hy, by rw [hfx, hfs], by rw [hfx]; omega, hA⟩
          obtain ⟨hm2, hF2⟩ := Fl_add hG.2.1 k1 hy (hxr.st hE) ht
          rw [if_pos ht, Hx_set_n (by omega), bnd_some, Hx_set_n (by omega), bnd_some]
          refine okP_some (Or.inl ⟨(m + 1, si (si s 6 y (top : Int)) 9 m (y : Int)), rfl, hF2, by show m0 ≤ m + 1; omega, fun i hi => ?_, fun c hc hc1 => ?_, fun j' hj' y' e1 e2 => ?_⟩)
          · show gi (si (si s 6 y (top : Int)) 9 m (y : Int)) 9 i = _
            rw [gi_si_k _ _ _ (by omega : i ≠ m), gi_si_o _ _ _ _ (by omega)]
            exact k3 i hi
          · show gi (si (si s 6 y (top : Int)) 9 m (y : Int)) 6 c ≠ -1
            rw [gi_si_o _ _ _ _ (by omega), gi_si_r]
            by_cases e : c = y
            · rw [if_pos e]; omega
            · rw [if_neg e]; exact k4 c hc hc1
          · show gi (si (si s 6 y (top : Int)) 9 m (y : Int)) 6 y' ≠ -1
            rw [gi_si_o _ _ _ _ (by omega), gi_si_r]
            by_cases e : y' = y
            · rw [if_pos e]; omega
            · rw [if_neg e]
              by_cases ej : j' = j
              · subst ej
                rw [hv] at e1
                omega
              · exact k5 j' (by omega) y' e1 e2
        · rw [if_neg ht]
          exact keep (fun y' e1 _ => by
            rw [hv] at e1
            have : y' = y := by omega
            rw [this]; exact ht)
      · rw [if_neg hfs]
        exact keep (fun y' e1 e2 => by
          rw [hv] at e1
          have : y' = y := by omega
          rw [this] at e2
          exact absurd e2 hfs)
  · rintro ⟨m, s⟩ ⟨k1, k2, k3, k4, k5⟩
    show okP (Li_flood_t70 r1 (top : Int) x3 (m : Int) x5 (x : Int) ((6 : Nat) : Int) s) _
    unfold Li_flood_t70
    rw [ifLt_eq _ _ (by unfold R; omega) (by unfold R; omega), if_neg (by omega)]
    refine okP_some ⟨_, rfl, m, s, rfl, k1, k2, k3, k4, fun y hA hy => ?_⟩
    obtain ⟨j, hj, e⟩ := nbj_of hA
    exact k5 j hj y e hy
  · rintro o - ⟨m', s', rfl, h⟩
    exact okP_some ⟨m', s', rfl, h⟩
theorem flood_ok (hG : GridOK s0 n) (hr1 : alen r1 = 81 ∧ r1 ∉ [5, 6, 7, 8, 9]) (hf : ∀ c, c < n * n → gi s0 r1 c = f c) (hfr : ∀ c, c < n * n → f c = -1 ∨ f c = 0 ∨ f c = 1) (hT : ∀ c, c < 81 → gi s0 6 c = -1 ∨ ∃ v : Nat, gi s0 6 c = (v : Int) ∧ v < 81) (hsd : sd = 0 ∨ sd = 1) (h5 : gi s0 5 5 = sd) (htop : top < n * n) (hft : f top = sd) (hU : ∀ c, Rch (Eb n f) top c → gi s0 6 c = -1) :
    okP (Li_flood r1 (top : Int) s0) (fun s' => Ch [6, 7, 8, 9] s0 s' ∧ (∀ c, c < 81 → (Rch (Eb n f) top c → gi s' 6 c = (top : Int)) ∧ (¬ Rch (Eb n f) top c → gi s' 6 c = gi s0 6 c)) ∧
      gi s' 8 top = (cnt (fun c => Rch (Eb n f) top c) (n * n) : Int) ∧ gi s' 7 top = ev (∃ c, Rch (Eb n f) top c ∧ edg n sd c = 1) (∃ c, Rch (Eb n f) top c ∧ edg n sd c = 2) ∧ ∀ c, c ≠ top → gi s' 8 c = gi s0 8 c ∧ gi s' 7 c = gi s0 7 c) := by
  have h81 := nn_le hG.2.1
  have a6 : alen 6 = 81 := rfl
  have a9 : alen 9 = 81 := rfl
  have a7 : alen 7 = 81 := rfl
  have a8 : alen 8 = 81 := rfl
  unfold Li_flood
  rw [Hx_set_n (by omega), bnd_some]
  have e0 : Hx_set 9 0 (top : Int) (si s0 6 top (top : Int)) = some (si (si s0 6 top (top : Int)) 9 0 (top : Int)) := Hx_set_n (c := 0) (by omega)
  rw [e0, bnd_some]
  have hF0 : Fl n f top s0 0 s0 := ⟨Ch.rf _ _, fun i hi => absurd hi (Nat.not_lt_zero i), fun c hc => Or.inr ⟨rfl, fun i hi => absurd hi (Nat.not_lt_zero i)⟩, by omega⟩
  obtain ⟨-, hF1⟩ := Fl_add hG.2.1 hF0 htop (Rch.rf _ _) (hU top (Rch.rf _ _))
  have hm81 : ∀ (m : Nat) (s' : Sg), Fl n f top s0 m s' → m ≤ 81 := fun m s' h => by
    have := cnt_le (fun c => gi s0 6 c = -1) 81
    have := h.2.2.2
    omega
  unfold Li_flood_l26
  refine okP_bnd (P := fun o => ∃ (m : Nat) (s' : Sg), o = (ev (∃ i, i < m ∧ edg n sd (gi s' 9 i).toNat = 1) (∃ i, i < m ∧ edg n sd (gi s' 9 i).toNat = 2), (m : Int), s') ∧ Fl n f top s0 m s' ∧ 1 ≤ m ∧ gi s' 9 0 = (top : Int) ∧ ∀ i, i < m → ∀ y, Adj n (gi s' 9 i).toNat y → f y = sd → gi s' 6 y ≠ -1)
    (okP_whl (fun σ => ∃ (m nx : Nat) (s' : Sg), σ = (ev (∃ i, i < nx ∧ edg n sd (gi s' 9 i).toNat = 1) (∃ i, i < nx ∧ edg n sd (gi s' 9 i).toNat = 2), (m : Int), (nx : Int), s') ∧ Fl n f top s0 m s' ∧ 1 ≤ m ∧ nx ≤ m ∧ gi s' 9 0 = (top : Int) ∧ ∀ i, i < nx → ∀ y, Adj n (gi s' 9 i).toNat y → f y = sd → gi s' 6 y ≠ -1) (fun σ => 81 - σ.2.2.1.toNat) ⟨1, 0, _, ?_, hF1, Nat.le_refl 1, by omega, by rw [gi_si_s], fun i hi => absurd hi (Nat.not_lt_zero i)⟩ ?_) ?_
  · rw [show ev (∃ i, i < 0 ∧ edg n sd (gi (si (si s0 6 top (top : Int)) 9 0 (top : Int)) 9 i).toNat = 1) (∃ i, i < 0 ∧ edg n sd (gi (si (si s0 6 top (top : Int)) 9 0 (top : Int)) 9 i).toNat = 2) = 0 from (ev_congr ⟨fun ⟨i, hi, _⟩ => absurd hi (Nat.not_lt_zero i), fun q => q.elim⟩ ⟨fun ⟨i, hi, _⟩ => absurd hi (Nat.not_lt_zero i), fun q => q.elim⟩).trans ev_ff]
    rfl
  · rintro σ ⟨m, nx, s', rfl, hF, hm1, hnm, h90, hcl⟩
    have hm := hm81 m s' hF
    show okP (Li_flood_t26 r1 (top : Int) _ (m : Int) (nx : Int) s') _
    unfold Li_flood_t26
    rw [ifLt_eq _ _ (R_nat (by omega)) (R_nat (by omega)), ifLt_eq _ _ (R_nat (by omega)) (by unfold R; omega)]
    by_cases hlt : nx < m
    · rw [if_pos (by omega), if_pos (by omega)]
      obtain ⟨v, v1, v2, v3, v4⟩ := hF.2.1 nx hlt
      have hG' : GridOK s' n := hG.ch hF.1 (by decide) (by decide) (by decide) (by decide)
      have h5' : gi s' 5 5 = sd := by rw [hF.1.g 5]; exact h5
      rw [Hx_at_n (by omega), bnd_some, v2, h5', Gr_edges_eq hG' v1 hsd, bnd_some, lett_eq]
      have hfv : f v = sd := by rw [(Eb_in htop v3).2]; exact hft
      refine okP_mono (flood_in hG hr1 hf hfr hT hsd h5 htop v1 v3 hfv _ _ hF) ?_
      rintro o ⟨m', s2, rfl, hF2, hmm, hpre, hmono, hadj⟩
      refine Or.inl ⟨_, rfl, ⟨m', nx + 1, s2, ?_, hF2, by omega, by omega, by rw [hpre 0 (by omega)]; exact h90, fun i hi y hA hy => ?_⟩, ?_⟩
      · rw [edg_ev n sd v, ev_or]
        congr 1
        refine ev_congr ⟨?_, ?_⟩ ⟨?_, ?_⟩
        · rintro (⟨i, hi, h⟩ | h)
          · exact ⟨i, by omega, by rw [hpre i (by omega)]; exact h⟩
          · exact ⟨nx, by omega, by rw [hpre nx hlt, v2]; exact h⟩
        · rintro ⟨i, hi, h⟩
          rw [hpre i (by omega)] at h
          by_cases e : i = nx
          · subst e; rw [v2] at h; exact Or.inr h
          · exact Or.inl ⟨i, by omega, h⟩
        · rintro (⟨i, hi, h⟩ | h)
          · exact ⟨i, by omega, by rw [hpre i (by omega)]; exact h⟩
          · exact ⟨nx, by omega, by rw [hpre nx hlt, v2]; exact h⟩
        · rintro ⟨i, hi, h⟩
          rw [hpre i (by omega)] at h
          by_cases e : i = nx
          · subst e; rw [v2] at h; exact Or.inr h
          · exact Or.inl ⟨i, by omega, h⟩
      · rw [hpre i (by omega)] at hA
        by_cases e : i = nx
        · subst e
          rw [v2] at hA
          exact hadj y hA hy
        · exact hmono y (by have := adj_lt hA; omega) (hcl i (by omega) y hA hy)
      · show 81 - ((nx : Int) + 1).toNat < 81 - (nx : Int).toNat
        omega
    · rw [if_neg (by omega)]
      have e : nx = m := by omega
      subst e
      exact okP_some (Or.inr ⟨_, rfl, nx, s', rfl, hF, hm1, h90, hcl⟩)
  · rintro o - ⟨m, s', rfl, hF, hm1, h90, hcl⟩
    show okP (Li_flood_b158 (top : Int) _ (m : Int) s') _
    unfold Li_flood_b158
    rw [Hx_set_n (by omega), bnd_some, Hx_set_n (by omega), bnd_some]
    have hin : ∀ c, c < 81 → gi s' 6 c = (top : Int) → gi s0 6 c = -1 → ∃ i, i < m ∧ gi s' 9 i = (c : Int) := by
      intro c hc h1 h2
      rcases hF.2.2.1 c hc with ⟨-, -, q⟩ | ⟨q, -⟩
      · exact q
      · rw [h1, h2] at q; omega
    have hreach : ∀ c, Rch (Eb n f) top c → gi s' 6 c = (top : Int) := by
      intro c hc
      have key : c < n * n ∧ f c = sd ∧ Rch (Eb n f) top c ∧ gi s' 6 c = (top : Int) := by
        refine hc (fun z => z < n * n ∧ f z = sd ∧ Rch (Eb n f) top z ∧ gi s' 6 z = (top : Int)) ⟨htop, hft, Rch.rf _ _, ?_⟩ ?_
        · obtain ⟨v, v1, v2, v3, v4⟩ := hF.2.1 0 (by omega)
          rw [h90] at v2
          have e : v = top := by omega
          rw [e] at v4
          exact v4
        · rintro u v ⟨hu1, hu2, hu3, hu4⟩ hE
          have hfv : f v = sd := by rw [← hE.2.2.1]; exact hu2
          have hrv := hu3.st hE
          refine ⟨hE.2.1, hfv, hrv, ?_⟩
          obtain ⟨i, hi, hiu⟩ := hin u (by omega) hu4 (hU u hu3)
          have hne := hcl i hi v (by rw [hiu]; exact hE.2.2.2.2) hfv
          rcases hF.2.2.1 v (by have := hE.2.1; omega) with ⟨q, -⟩ | ⟨q, -⟩
          · exact q
          · rw [q] at hne
            exact absurd (hU v hrv) hne
      exact key.2.2.2
    have hnot : ∀ c, c < 81 → ¬ Rch (Eb n f) top c → gi s' 6 c = gi s0 6 c := by
      intro c hc h1
      rcases hF.2.2.1 c hc with ⟨-, -, i, hi, e⟩ | ⟨q, -⟩
      · obtain ⟨v, v1, v2, v3, v4⟩ := hF.2.1 i hi
        have e2 : v = c := by rw [e] at v2; omega
        exact absurd (e2 ▸ v3) h1
      · exact q
    have hmc : m = cnt (fun c => Rch (Eb n f) top c) (n * n) := by
      have e1 := hF.2.2.2
      have e2 := cnt_split (fun c => gi s0 6 c = -1) (fun c => Rch (Eb n f) top c) 81
      have e3 : cnt (fun c => gi s0 6 c = -1 ∧ Rch (Eb n f) top c) 81 = cnt (fun c => Rch (Eb n f) top c) 81 := cnt_congr fun i hi => ⟨fun q => q.2, fun q => ⟨hU i q, q⟩⟩
      have e4 : cnt (fun c => gi s0 6 c = -1 ∧ ¬ Rch (Eb n f) top c) 81 = cnt (fun c => gi s' 6 c = -1) 81 := by
        refine cnt_congr fun i hi => ⟨fun q => by rw [hnot i hi q.2]; exact q.1, fun q => ?_⟩
        by_cases hr : Rch (Eb n f) top i
        · rw [hreach i hr] at q; omega
        · exact ⟨by rw [← hnot i hi hr]; exact q, hr⟩
      have e5 : cnt (fun c => Rch (Eb n f) top c) 81 = cnt (fun c => Rch (Eb n f) top c) (n * n) := cnt_cut h81 fun i hi q => by
        have := (Eb_in htop q).1
        omega
      omega
    have hev : ∀ v : Int, (∃ i, i < m ∧ edg n sd (gi s' 9 i).toNat = v) ↔ ∃ c, Rch (Eb n f) top c ∧ edg n sd c = v := by
      intro v
      constructor
      · rintro ⟨i, hi, h⟩
        obtain ⟨w, w1, w2, w3, w4⟩ := hF.2.1 i hi
        refine ⟨w, w3, ?_⟩
        rw [w2] at h
        exact h
      · rintro ⟨c, hc, h⟩
        obtain ⟨i, hi, e⟩ := hin c (by have := (Eb_in htop hc).1; omega) (hreach c hc) (hU c hc)
        exact ⟨i, hi, by rw [e]; exact h⟩
    refine okP_some ⟨?_, fun c hc => ⟨fun h => ?_, fun h => ?_⟩, ?_, ?_, fun c hc => ⟨?_, ?_⟩⟩
    · exact (hF.1.mo (by decide)).tr ((Ch.si (by decide)).tr (Ch.si (by decide)))
    · rw [gi_si_o _ _ _ _ (by omega), gi_si_o _ _ _ _ (by omega)]; exact hreach c h
    · rw [gi_si_o _ _ _ _ (by omega), gi_si_o _ _ _ _ (by omega)]; exact hnot c hc h
    · rw [gi_si_s, hmc]
    · rw [gi_si_o _ _ _ _ (by omega), gi_si_s]
      exact ev_congr (hev 1) (hev 2)
    · rw [gi_si_k _ _ _ hc, gi_si_o _ _ _ _ (by omega)]
      exact hF.1.g 8
    · rw [gi_si_o _ _ _ _ (by omega), gi_si_k _ _ _ hc]
      exact hF.1.g 7
end FLOOD
/-- what stands in the links behind a gathering -/
def LinksOK (s : Sg) (n : Nat) (f : Nat → Int) (sd : Int) : Prop := gi s 5 5 = sd ∧
  (∀ c, c < 81 → (c < n * n → f c = sd → gi s 6 c = (lab (Eb n f) c : Int)) ∧ (¬ (c < n * n ∧ f c = sd) → gi s 6 c = -1)) ∧
  ∀ c, c < n * n → f c = sd → lab (Eb n f) c = c → gi s 8 c = (cnt (fun x => Rch (Eb n f) c x) (n * n) : Int) ∧ gi s 7 c = ev (∃ x, Rch (Eb n f) c x ∧ edg n sd x = 1) (∃ x, Rch (Eb n f) c x ∧ edg n sd x = 2)
theorem gather_ok {s : Sg} {n r1 : Nat} {f : Nat → Int} {sd : Int} (hG : GridOK s n) (hr1 : alen r1 = 81 ∧ r1 ∉ [5, 6, 7, 8, 9]) (hf : ∀ c, c < n * n → gi s r1 c = f c) (hfr : ∀ c, c < n * n → f c = -1 ∨ f c = 0 ∨ f c = 1) (hsd : sd = 0 ∨ sd = 1) :
    okP (Li_gather r1 sd s) (fun s' => Ch [5, 6, 7, 8, 9] s s' ∧ LinksOK s' n f sd) := by
  have h81 := nn_le hG.2.1
  have a6 : alen 6 = 81 := rfl
  unfold Li_gather
  rw [lett_eq]
  unfold Li_gather_l7
  refine okP_bnd (P := fun s' => Ch [5, 6] s s' ∧ gi s' 5 5 = sd ∧ ∀ c, c < 81 → gi s' 6 c = -1) (whl_for (fun (i : Nat) (t : Sg) => ((i : Int), t)) 81 (fun i t => Ch [5, 6] s t ∧ gi t 5 5 = sd ∧ ∀ c, c < i → gi t 6 c = -1) (t0 := si s 5 5 sd) (Nat.zero_le 81) ⟨Ch.si (by decide), gi_si_s _ _ _ _, fun c hc => absurd hc (Nat.not_lt_zero c)⟩ ?_ ?_) ?_
  · rintro i t hi ⟨k1, k2, k3⟩
    show okP (Li_gather_t7 r1 (i : Int) t) _
    unfold Li_gather_t7
    rw [ifLt_eq _ _ (R_nat (by omega)) (by unfold R; omega), if_pos (by omega), Hx_set_n (by omega), bnd_some]
    refine okP_some (Or.inl ⟨_, rfl, k1.tr (Ch.si (by decide)), by rw [gi_si_o _ _ _ _ (by omega)]; exact k2, fun c hc => ?_⟩)
    rw [gi_si_r]
    by_cases e : c = i
    · rw [if_pos e]
    · rw [if_neg e]; exact k3 c (by omega)
  · rintro t ⟨k1, k2, k3⟩
    show okP (Li_gather_t7 r1 ((81 : Nat) : Int) t) _
    unfold Li_gather_t7
    rw [ifLt_eq _ _ (by unfold R; omega) (by unfold R; omega), if_neg (by omega)]
    exact okP_some ⟨_, rfl, k1, k2, k3⟩
  · rintro s1 - ⟨j1, j2, j3⟩
    unfold Li_gather_l30
    have hG1 : GridOK s1 n := hG.ch j1 (by decide) (by decide) (by decide) (by decide)
    -- the parts whose lowest cell is below i are marked
    refine okP_bnd (P := fun s' => Ch [5, 6, 7, 8, 9] s s' ∧ LinksOK s' n f sd) (whl_for (fun (i : Nat) (t : Sg) => ((i : Int), t)) (n * n)
      (fun i t => Ch [5, 6, 7, 8, 9] s t ∧ gi t 5 5 = sd ∧ (∀ c, c < 81 → (c < n * n → f c = sd → lab (Eb n f) c < i → gi t 6 c = (lab (Eb n f) c : Int)) ∧ (¬ (c < n * n ∧ f c = sd ∧ lab (Eb n f) c < i) → gi t 6 c = -1)) ∧
        ∀ c, c < n * n → f c = sd → lab (Eb n f) c = c → c < i → gi t 8 c = (cnt (fun x => Rch (Eb n f) c x) (n * n) : Int) ∧ gi t 7 c = ev (∃ x, Rch (Eb n f) c x ∧ edg n sd x = 1) (∃ x, Rch (Eb n f) c x ∧ edg n sd x = 2)) (t0 := s1) (Nat.zero_le _)
      ⟨j1.mo (by decide), j2, fun c hc => ⟨fun _ _ h => absurd h (Nat.not_lt_zero _), fun _ => j3 c hc⟩, fun c _ _ _ h => absurd h (Nat.not_lt_zero _)⟩ ?_ ?_) (fun v _ hv => okP_some hv)
    · rintro i t hi ⟨k1, k2, k3, k4⟩
      have hGt : GridOK t n := hG.ch k1 (by decide) (by decide) (by decide) (by decide)
      have hN : gi t 1 4 = ((n * n : Nat) : Int) := hGt.2.2.2.1
      have hft : ∀ c, c < n * n → gi t r1 c = f c := fun c hc => by rw [k1.g r1 hr1.2 (ne80 hr1.1)]; exact hf c hc
      have hRf : R (f i) := by rcases hfr i hi with h | h | h <;> rw [h] <;> unfold R <;> omega
      have hRs : R sd := by unfold R; omega
      have hi81 : i < 81 := by omega
      show okP (Li_gather_t30 r1 (i : Int) t) _
      unfold Li_gather_t30 Li_gather_b71
      rw [hN, ifLt_eq _ _ (R_nat (by omega)) (R_nat (by omega)), if_pos (by omega), Hx_at_n (by omega), bnd_some, hft i hi, k2, ifEq_eq _ _ hRf hRs]
      by_cases hfi : f i = sd
      · rw [if_pos hfi, Hx_at_n (by omega), bnd_some]
        have hli := lab_le (Eb n f) i
        by_cases hlt : lab (Eb n f) i < i
        · have ht := (k3 i hi81).1 hi hfi hlt
          rw [ht, ifEq_eq _ _ (R_nat (by omega)) R_n1, if_neg (by omega)]
          refine okP_some (Or.inl ⟨t, rfl, k1, k2, fun c hc => ⟨fun h1 h2 h3 => ?_, fun h => ?_⟩, fun c h1 h2 h3 h4 => ?_⟩)
          · refine (k3 c hc).1 h1 h2 ?_
            by_cases e : lab (Eb n f) c = i
            · have := lab_id (E := Eb n f) Eb_sy c
              rw [e] at this
              omega
            · omega
          · refine (k3 c hc).2 fun q => h ⟨q.1, q.2.1, by omega⟩
          · refine k4 c h1 h2 h3 ?_
            by_cases e : c = i
            · subst e; omega
            · omega
        · have hle : lab (Eb n f) i = i := by omega
          have ht := (k3 i hi81).2 (fun q => hlt q.2.2)
          rw [ht, ifEq_eq _ _ R_n1 R_n1, if_pos rfl]
          have hrl : ∀ c, Rch (Eb n f) i c → lab (Eb n f) c = i := fun c hc => by rw [← lab_eq Eb_sy hc]; exact hle
          have hU : ∀ c, Rch (Eb n f) i c → gi t 6 c = -1 := fun c hc => (k3 c (by have := (Eb_in hi hc).1; omega)).2 fun q => by rw [hrl c hc] at q; omega
          have hT : ∀ c, c < 81 → gi t 6 c = -1 ∨ ∃ v : Nat, gi t 6 c = (v : Int) ∧ v < 81 := by
            intro c hc
            by_cases q : c < n * n ∧ f c = sd ∧ lab (Eb n f) c < i
            · exact Or.inr ⟨_, (k3 c hc).1 q.1 q.2.1 q.2.2, by omega⟩
            · exact Or.inl ((k3 c hc).2 q)
          refine okP_bnd (flood_ok hGt hr1 hft hfr hT hsd k2 hi hfi hU) ?_
          rintro t' - ⟨g1, g2, g3, g4, g5⟩
          refine okP_some (Or.inl ⟨t', rfl, k1.tr (g1.mo (by decide)), by rw [g1.g 5]; exact k2, fun c hc => ⟨fun h1 h2 h3 => ?_, fun h => ?_⟩, fun c h1 h2 h3 h4 => ?_⟩)
          · by_cases hr : Rch (Eb n f) i c
            · rw [(g2 c hc).1 hr, hrl c hr]
            · rw [(g2 c hc).2 hr]
              refine (k3 c hc).1 h1 h2 ?_
              by_cases e : lab (Eb n f) c = i
              · exact absurd ((lab_iff Eb_sy).mp (hle.trans e.symm)) hr
              · omega
          · have hr : ¬ Rch (Eb n f) i c := fun hr => by
              have h9 := Eb_in hi hr
              exact h ⟨h9.1, h9.2.trans hfi, by rw [hrl c hr]; omega⟩
            rw [(g2 c hc).2 hr]
            exact (k3 c hc).2 fun q => h ⟨q.1, q.2.1, by omega⟩
          · by_cases e : c = i
            · subst e
              exact ⟨g3, g4⟩
            · rw [(g5 c e).1, (g5 c e).2]
              exact k4 c h1 h2 h3 (by omega)
      · rw [if_neg hfi]
        refine okP_some (Or.inl ⟨t, rfl, k1, k2, fun c hc => ⟨fun h1 h2 h3 => ?_, fun h => ?_⟩, fun c h1 h2 h3 h4 => ?_⟩)
        · refine (k3 c hc).1 h1 h2 ?_
          by_cases e : lab (Eb n f) c = i
          · have h9 := (Eb_in h1 (lab_r (Eb n f) c)).2
            rw [e] at h9
            exact absurd (h9.trans h2) hfi
          · omega
        · exact (k3 c hc).2 fun q => h ⟨q.1, q.2.1, by omega⟩
        · refine k4 c h1 h2 h3 ?_
          by_cases e : c = i
          · subst e; exact absurd h2 hfi
          · omega
    · rintro t ⟨k1, k2, k3, k4⟩
      have hGt : GridOK t n := hG.ch k1 (by decide) (by decide) (by decide) (by decide)
      show okP (Li_gather_t30 r1 ((n * n : Nat) : Int) t) _
      unfold Li_gather_t30
      rw [hGt.2.2.2.1, ifLt_eq _ _ (R_nat (by omega)) (R_nat (by omega)), if_neg (by omega)]
      refine okP_some ⟨_, rfl, k1, k2, fun c hc => ⟨fun h1 h2 => (k3 c hc).1 h1 h2 ?_, fun h => (k3 c hc).2 fun q => h ⟨q.1, q.2.1⟩⟩, fun c h1 h2 h3 => k4 c h1 h2 h3 h1⟩
      have := lab_le (Eb n f) c
      omega

