/-! ===== the reference: fillings ===== -/
/-- as Ch; the seed may change too -/
def Cl (L : List Nat) (s s' : Sg) : Prop := (∀ o k, ky o k ∉ L → gi s' o k = gi s o k) ∧ (∀ b j, ¬ (b = 80 ∧ j = 33) → gl s' b j = gl s b j) ∧ s'.2.2 = s.2.2
theorem Ch.cl {L : List Nat} {s s' : Sg} (h : Ch L s s') : Cl L s s' := ⟨h.1, fun b j _ => by unfold gl; rw [h.2], by rw [h.2]⟩
theorem Cl.tr {L : List Nat} {s s1 s2 : Sg} (h1 : Cl L s s1) (h2 : Cl L s1 s2) : Cl L s s2 := ⟨fun o k ho => (h2.1 o k ho).trans (h1.1 o k ho), fun b j hb => (h2.2.1 b j hb).trans (h1.2.1 b j hb), h2.2.2.trans h1.2.2⟩
theorem Cl.mo {L M : List Nat} {s s' : Sg} (h : Cl L s s') (hm : ∀ x ∈ L, x ∈ M) : Cl M s s' := ⟨fun o k ho => h.1 o k (fun q => ho (hm _ q)), h.2⟩
theorem Cl.g {L : List Nat} {s s' : Sg} (h : Cl L s s') (o : Nat) {k : Nat} (ho : o ∉ L := by decide) (h8 : o ≠ 80 := by decide) : gi s' o k = gi s o k := h.1 o k (by rw [ky_o h8]; exact ho)
theorem Cl.g8 {L : List Nat} {s s' : Sg} (h : Cl L s s') (k : Nat) (ho : 8000 + k ∉ L := by decide) : gi s' 80 k = gi s 80 k := h.1 80 k (by rw [ky_80]; exact ho)
theorem Cl.sl (L : List Nat) (s : Sg) (v : Int) : Cl L s (sl s 80 33 v) := ⟨fun _ _ _ => rfl, fun b j hb => by rw [gl_sl, if_neg hb], rfl⟩
theorem Ch.l {L : List Nat} {s s' : Sg} (h : Ch L s s') (b j : Nat) : gl s' b j = gl s b j := by unfold gl; rw [h.2]
section FILM
variable {n : Nat} {f : Nat → Int} {x : Int} {s : Sg}
theorem goesAside_ok (s : Sg) : okP (Mo_goesAside s) (fun t => Ch [82] s t ∧ ∀ k, k < 286 → gi t 82 k = gi s 81 k) := by
  unfold Mo_goesAside Mo_goesAside_l2
  refine okP_bnd (P := fun t => Ch [82] s t ∧ ∀ k, k < 286 → gi t 82 k = gi s 81 k) (whl_for (fun (i : Nat) (t : Sg) => ((i : Int), t)) 286 (fun i t => Ch [82] s t ∧ ∀ k, k < i → gi t 82 k = gi s 81 k) (i0 := 0) (t0 := s) (Nat.zero_le _) ⟨Ch.rf _ _, fun k hk => absurd hk (Nat.not_lt_zero k)⟩ ?_ ?_) ?_
  · rintro i t hi' ⟨h1, h2⟩
    show okP (Mo_goesAside_t2 (i : Int) t) _
    unfold Mo_goesAside_t2
    rw [ifLt_eq _ _ (R_nat (by omega)) (by unfold R; omega), if_pos (by omega), grd_t ⟨by omega, by omega⟩, grd_t ⟨by omega, by omega⟩, lett_eq]
    refine okP_some (Or.inl ⟨si t 82 i (gi t 81 i), rfl, h1.tr (Ch.si (by decide)), fun k hk => ?_⟩)
    by_cases e : k = i
    · subst e; rw [gi_si_s, h1.g 81]
    · rw [gi_si_k _ _ _ e]; exact h2 k (by omega)
  · rintro t ⟨h1, h2⟩
    show okP (Mo_goesAside_t2 ((286 : Nat) : Int) t) _
    unfold Mo_goesAside_t2
    rw [ifLt_eq _ _ (R_nat (by omega)) (by unfold R; omega), if_neg (by omega)]
    exact okP_some ⟨t, rfl, h1, h2⟩
  · rintro t - h
    exact okP_some h
theorem comesBack_ok (v : Int) (s : Sg) : okP (Mo_comesBack v s) (fun o => Ch [81] s o.2 ∧ o.1 = v ∧ ∀ k, k < 286 → gi o.2 81 k = gi s 82 k) := by
  unfold Mo_comesBack Mo_comesBack_l2
  refine okP_bnd (P := fun t => Ch [81] s t ∧ ∀ k, k < 286 → gi t 81 k = gi s 82 k) (whl_for (fun (i : Nat) (t : Sg) => ((i : Int), t)) 286 (fun i t => Ch [81] s t ∧ ∀ k, k < i → gi t 81 k = gi s 82 k) (i0 := 0) (t0 := s) (Nat.zero_le _) ⟨Ch.rf _ _, fun k hk => absurd hk (Nat.not_lt_zero k)⟩ ?_ ?_) ?_
  · rintro i t hi' ⟨h1, h2⟩
    show okP (Mo_comesBack_t2 v (i : Int) t) _
    unfold Mo_comesBack_t2
    rw [ifLt_eq _ _ (R_nat (by omega)) (by unfold R; omega), if_pos (by omega), grd_t ⟨by omega, by omega⟩, grd_t ⟨by omega, by omega⟩, lett_eq]
    refine okP_some (Or.inl ⟨si t 81 i (gi t 82 i), rfl, h1.tr (Ch.si (by decide)), fun k hk => ?_⟩)
    by_cases e : k = i
    · subst e; rw [gi_si_s, h1.g 82]
    · rw [gi_si_k _ _ _ e]; exact h2 k (by omega)
  · rintro t ⟨h1, h2⟩
    show okP (Mo_comesBack_t2 v ((286 : Nat) : Int) t) _
    unfold Mo_comesBack_t2
    rw [ifLt_eq _ _ (R_nat (by omega)) (by unfold R; omega), if_neg (by omega)]
    exact okP_some ⟨t, rfl, h1, h2⟩
  · rintro t - ⟨h1, h2⟩
    exact okP_some ⟨h1, rfl, h2⟩
theorem fills_ok (hM : MB s n f) (hfr : FR n f) (hx : gl s 80 33 = x) (hxr : 0 ≤ x ∧ x < 2147483648) : okP (Mo_fills s) (fun t => Cl [81] s t ∧ MB t n (fil n x f (n * n)).2 ∧ gl t 80 33 = (fil n x f (n * n)).1) := by
  have h81 := nn_le hM.1.2.1
  unfold Mo_fills Mo_fills_l2
  refine okP_bnd (P := fun t => Cl [81] s t ∧ MB t n (fil n x f (n * n)).2 ∧ gl t 80 33 = (fil n x f (n * n)).1) (whl_for (fun (i : Nat) (t : Sg) => ((i : Int), t)) (n * n) (fun i t => Cl [81] s t ∧ MB t n (fil n x f i).2 ∧ gl t 80 33 = (fil n x f i).1) (i0 := 0) (t0 := s) (Nat.zero_le _) ⟨(Ch.rf _ _).cl, hM, hx⟩ ?_ ?_) ?_
  · rintro i t hi' ⟨h1, h2, h3⟩
    have hsi : (fil n x f i).2 i = f i := fil_o i i (Or.inl (Nat.le_refl i))
    have hrg := fil_rg (n := n) (f := f) hxr i
    have hnx := nxs_rg (fil n x f i).1
    show okP (Mo_fills_t2 (i : Int) t) _
    unfold Mo_fills_t2
    rw [Mo_cells_eq h2.1, bnd_some, ifLt_eq _ _ (R_nat (by omega)) (R_nat (by omega)), if_pos (by omega), h2.st hi', bnd_some, hsi, ifEq_eq _ _ (hfr.r hi') R_n1]
    by_cases q : f i = -1
    · have ef : fil n x f (i + 1) = (nxs (fil n x f i).1, ups (fil n x f i).2 i (nxs (fil n x f i).1 / 65536 % 2)) := by rw [fil_s, if_pos q]
      have en : (1103515245 * (fil n x f i).1 + 12345) % 2147483648 = nxs (fil n x f i).1 := rfl
      have hput : ∀ v : Int, v = nxs (fil n x f i).1 / 65536 % 2 → okP (Mo_fills_b71 (i : Int) (5 + (i : Int)) v (sl t 80 33 (nxs (fil n x f i).1))) (fun o => (∃ t', o = .inl (((i + 1 : Nat) : Int), t') ∧ Cl [81] s t' ∧ MB t' n (fil n x f (i + 1)).2 ∧ gl t' 80 33 = (fil n x f (i + 1)).1) ∨ ∃ r, o = .inr r ∧ Cl [81] s r ∧ MB r n (fil n x f (n * n)).2 ∧ gl r 80 33 = (fil n x f (n * n)).1) := by
        intro v hv
        have e5 : (5 + (i : Int)).toNat = 5 + i := by omega
        have hMl : MB (sl t 80 33 (nxs (fil n x f i).1)) n (fil n x f i).2 := h2
        unfold Mo_fills_b71 Mo_fills_b72
        rw [grd_t ⟨by omega, by omega⟩, lett_eq, e5, ef]
        refine okP_some (Or.inl ⟨_, rfl, (h1.tr (Cl.sl _ _ _)).tr (Ch.si (by decide)).cl, ?_, ?_⟩)
        · rw [hv]; exact hMl.ups i _
        · rw [gl_si, gl_sl, if_pos ⟨rfl, rfl⟩]
      rw [if_pos q, h3, grd_t (by unfold RL64; omega), lett_eq, en, gl_sl, if_pos ⟨rfl, rfl⟩, grd_t (by unfold RL64; omega), grd_t (by unfold RL64; omega), grd_t (by unfold RL64; omega), ifEq_eq _ _ (lcmp_R _ _) R0]
      unfold lcmpI
      rw [if_neg (show ¬ nxs (fil n x f i).1 / 65536 % 2 < 0 by omega)]
      by_cases q2 : nxs (fil n x f i).1 / 65536 % 2 = 0
      · rw [if_pos q2, if_pos rfl]; exact hput 0 q2.symm
      · rw [if_neg q2, if_neg (by omega)]; exact hput 1 (by omega)
    · have ef : fil n x f (i + 1) = fil n x f i := by rw [fil_s, if_neg q]
      rw [if_neg q]
      unfold Mo_fills_b72
      exact okP_some (Or.inl ⟨t, rfl, h1, by rw [ef]; exact h2, by rw [ef]; exact h3⟩)
  · rintro t ⟨h1, h2, h3⟩
    show okP (Mo_fills_t2 ((n * n : Nat) : Int) t) _
    unfold Mo_fills_t2
    rw [Mo_cells_eq h2.1, bnd_some, ifLt_eq _ _ (R_nat (by omega)) (R_nat (by omega)), if_neg (by omega)]
    exact okP_some ⟨t, rfl, h1, h2, h3⟩
  · rintro t - h
    exact okP_some h
theorem MB.same {t : Sg} (h : MB s n f) (e : ∀ k, k < 286 → gi t 81 k = gi s 81 k) : MB t n f := by
  have h81 := nn_le h.1.2.1
  exact ⟨⟨h.1.1, h.1.2.1, by rw [e 0 (by omega)]; exact h.1.2.2⟩, fun c hc => by rw [e (5 + c) (by omega)]; exact h.2 c hc⟩
end FILM
