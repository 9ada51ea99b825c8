/-! ===== the checks of arguments ===== -/
section CHK
variable {s : Sg} {b : Bd} {n : Nat}
theorem RL_R {x : Int} (h : R x) : RL64 x := by
  unfold R at h
  unfold RL64
  omega
theorem RL_n {k : Nat} (h : k ≤ 2147483647) : RL64 (k : Int) := RL_R (R_nat h)
theorem rqC_t (hC : CQ s b) {c : Nat} (hc : c < b.n * b.n) : Hx_requireCell (c : Int) s = some (.inr 0, s) := by
  have h81 := nn_le hC.1.2.1
  unfold Hx_requireCell
  rw [hC.1.2.2.2.1, ifLt_eq _ _ (R_nat (by omega)) R0, if_neg (by omega), ifLt_eq _ _ (R_nat (by omega)) (R_nat (by omega)), if_pos (by omega)]
theorem rqC_f (hC : CQ s b) {x : Int} (hx : R x) (h : ∀ c : Nat, x = (c : Int) → ¬ c < b.n * b.n) : Hx_requireCell x s = some (.inl 1, s) := by
  have h81 := nn_le hC.1.2.1
  unfold Hx_requireCell
  rw [hC.1.2.2.2.1, ifLt_eq _ _ hx R0]
  by_cases q : x < 0
  · rw [if_pos q]; rfl
  · rw [if_neg q, ifLt_eq _ _ hx (R_nat (by omega)), if_neg]
    · rfl
    · intro z
      exact h x.toNat (by omega) (by omega)
theorem rqS_t {x : Int} (h : x = 0 ∨ x = 1) : Hx_requireSide x s = some (.inr 0, s) := by
  unfold Hx_requireSide
  rw [ifEq_eq _ _ (R_01 h) R0, ifEq_eq _ _ (R_01 h) R1]
  rcases h with rfl | rfl <;> rfl
theorem rqS_f {x : Int} (hx : R x) (h : ¬ (x = 0 ∨ x = 1)) : Hx_requireSide x s = some (.inl 0, s) := by
  unfold Hx_requireSide
  rw [ifEq_eq _ _ hx R0, ifEq_eq _ _ hx R1, if_neg (fun q => h (Or.inl q)), if_neg (fun q => h (Or.inr q))]
theorem rqR_t {x l m : Int} (hx : R x) (hl : R l) (hm : R m) (h : l ≤ x ∧ x ≤ m) : Hx_requireRange x l m s = some (.inr 0, s) := by
  unfold Hx_requireRange
  rw [ifLt_eq _ _ hx hl, if_neg (by omega), ifLt_eq _ _ hm hx, if_neg (by omega)]
theorem rqR_f {x l m : Int} (hx : R x) (hl : R l) (hm : R m) (h : ¬ (l ≤ x ∧ x ≤ m)) : Hx_requireRange x l m s = some (.inl 0, s) := by
  unfold Hx_requireRange
  rw [ifLt_eq _ _ hx hl]
  by_cases q : x < l
  · rw [if_pos q]; rfl
  · rw [if_neg q, ifLt_eq _ _ hm hx, if_pos (by omega)]; rfl
theorem wrong_0 : Mo_wrong 0 s = some (0, si s 80 0 0) := by
  unfold Mo_wrong Mo_wrong_b10
  rw [ifEq_eq _ _ R0 R0, if_pos rfl, lett_eq, grd_t (show b01 0 from Or.inl rfl)]
theorem wrong_1 : Mo_wrong 1 s = some (1, si s 80 0 1) := by
  unfold Mo_wrong Mo_wrong_b10
  rw [ifEq_eq _ _ R1 R0, if_neg (by omega), lett_eq, grd_t (show b01 1 from Or.inr rfl)]
theorem thr_0 (k : Int) : Mo_throwsIf 0 k s = some (0, s) := by
  unfold Mo_throwsIf
  rw [ifEq_eq _ _ R0 R0, if_pos rfl, grd_t (show b01 0 from Or.inl rfl)]
theorem thr_1 (k : Int) : Mo_throwsIf 1 k s = some (1, si s 80 0 k) := by
  unfold Mo_throwsIf
  rw [ifEq_eq _ _ R1 R0, if_neg (by omega), lett_eq, grd_t (show b01 1 from Or.inr rfl)]
theorem isCell_t (hM : MoN s n) {c : Nat} (hc : c < n * n) : Mo_isCell (c : Int) s = some 1 := by
  have h81 := nn_le hM.2.1
  unfold Mo_isCell
  rw [grd_t (R_nat (by omega)), Mo_cells_eq hM, bnd_some, grd_t (show R _ from by unfold R; omega), Mo_in_eq (RL_n (by omega)) (RL_R R0) (RL_R (by unfold R; omega)), if_pos (by omega), bnd_some, grd_t (show b01 1 from Or.inr rfl)]
theorem isCell_f (hM : MoN s n) {x : Int} (hx : R x) (h : ∀ c : Nat, x = (c : Int) → ¬ c < n * n) : Mo_isCell x s = some 0 := by
  have h81 := nn_le hM.2.1
  unfold Mo_isCell
  rw [grd_t hx, Mo_cells_eq hM, bnd_some, grd_t (show R _ from by unfold R; omega), Mo_in_eq (RL_R hx) (RL_R R0) (RL_R (by unfold R; omega)), if_neg, bnd_some, grd_t (show b01 0 from Or.inl rfl)]
  intro z
  exact h x.toNat (by omega) (by omega)
theorem noCell_t (hM : MoN s n) {c : Nat} (hc : c < n * n) : Mo_noCell (c : Int) s = some (0, si s 80 0 0) := by
  unfold Mo_noCell Mo_noCell_b14
  rw [isCell_t hM hc, bnd_some, ifEq_eq _ _ R1 R0, if_neg (by omega), wrong_0, bnd2_some, grd_t (show b01 0 from Or.inl rfl)]
theorem noCell_f (hM : MoN s n) {x : Int} (hx : R x) (h : ∀ c : Nat, x = (c : Int) → ¬ c < n * n) : Mo_noCell x s = some (1, si s 80 0 1) := by
  unfold Mo_noCell Mo_noCell_b14
  rw [isCell_f hM hx h, bnd_some, ifEq_eq _ _ R0 R0, if_pos rfl, wrong_1, bnd2_some, grd_t (show b01 1 from Or.inr rfl)]
theorem isSide_t {x : Int} (h : x = 0 ∨ x = 1) : Mo_isSide x s = some 1 := by
  unfold Mo_isSide Mo_isSide_b9
  rw [ifEq_eq _ _ (R_01 h) R0, ifEq_eq _ _ (R_01 h) R1]
  rcases h with rfl | rfl <;> rfl
theorem isSide_f {x : Int} (hx : R x) (h : ¬ (x = 0 ∨ x = 1)) : Mo_isSide x s = some 0 := by
  unfold Mo_isSide
  rw [ifEq_eq _ _ hx R0, ifEq_eq _ _ hx R1, if_neg (fun q => h (Or.inl q)), if_neg (fun q => h (Or.inr q))]
theorem noSide_t {x : Int} (h : x = 0 ∨ x = 1) : Mo_noSide x s = some (0, si s 80 0 0) := by
  unfold Mo_noSide Mo_noSide_b13
  rw [isSide_t h, bnd_some, ifEq_eq _ _ R1 R0, if_neg (by omega), wrong_0, bnd2_some, grd_t (show b01 0 from Or.inl rfl)]
theorem noSide_f {x : Int} (hx : R x) (h : ¬ (x = 0 ∨ x = 1)) : Mo_noSide x s = some (1, si s 80 0 1) := by
  unfold Mo_noSide Mo_noSide_b13
  rw [isSide_f hx h, bnd_some, ifEq_eq _ _ R0 R0, if_pos rfl, wrong_1, bnd2_some, grd_t (show b01 1 from Or.inr rfl)]
theorem in_t {x l m : Int} (hx : R x) (hl : R l) (hm : R m) (h : l ≤ x ∧ x ≤ m) : Mo_in x l m s = some 1 := by
  rw [Mo_in_eq (RL_R hx) (RL_R hl) (RL_R hm), if_pos h]
theorem in_f {x l m : Int} (hx : R x) (hl : R l) (hm : R m) (h : ¬ (l ≤ x ∧ x ≤ m)) : Mo_in x l m s = some 0 := by
  rw [Mo_in_eq (RL_R hx) (RL_R hl) (RL_R hm), if_neg h]
theorem sweeps_t {x : Int} (hx : R x) (h : 0 ≤ x ∧ x ≤ 100) : Mo_areSweeps x s = some 1 := by
  unfold Mo_areSweeps
  rw [grd_t hx, in_t hx R0 (by unfold R; omega) h, bnd_some, grd_t (show b01 1 from Or.inr rfl)]
theorem sweeps_f {x : Int} (hx : R x) (h : ¬ (0 ≤ x ∧ x ≤ 100)) : Mo_areSweeps x s = some 0 := by
  unfold Mo_areSweeps
  rw [grd_t hx, in_f hx R0 (by unfold R; omega) h, bnd_some, grd_t (show b01 0 from Or.inl rfl)]
/-- a cell or none -/
theorem cell_dec {N : Nat} (x : Int) : (∃ c : Nat, x = (c : Int) ∧ c < N) ∨ ∀ c : Nat, x = (c : Int) → ¬ c < N := by
  by_cases h : ∃ c : Nat, x = (c : Int) ∧ c < N
  · exact Or.inl h
  · exact Or.inr fun c e l => h ⟨c, e, l⟩
end CHK
/-! ===== what a call of each program answers ===== -/
def Rs (cI cX c v : Int) (r : Nat ⊕ Int) : Prop := (c = 0 ∧ r = .inr v ∧ R v) ∨ (r = .inl 0 ∧ c = cI ∧ cI ≠ 0) ∨ (r = .inl 1 ∧ c = cX ∧ cX ≠ 0)
def CPost (cI cX c v : Int) (X : Xs) (s : Sg) (o : (Nat ⊕ Int) × Sg) : Prop := CF s o.2 ∧ CI X o.2 ∧ Rs cI cX c v o.1
def MPost (c v : Int) (X : Xs) (s : Sg) (o : Int × Sg) : Prop := MF s o.2 ∧ MI X o.2 ∧ gi o.2 80 0 = c ∧ (c = 0 → o.1 = v)
def LPost (c v : Int) (X : Xs) (s : Sg) (o : Int × Sg) : Prop := CF s o.2 ∧ CI X o.2 ∧ o.1 = c ∧ (c = 0 → gl o.2 100 0 = v ∧ R v)
section PST
variable {s : Sg} {X : Xs} {cI cX c v : Int} {β : Type}
theorem CI_sl_ (k : CI X s) (b j : Nat) (w : Int) : CI X (sl s b j w) := k.eq (s' := sl s b j w) rfl
theorem CI.sl (k : CI X s) (b j : Nat) (w : Int) : CI X (sl s b j w) := CI_sl_ k b j w
theorem la_ok {m : Option ((Nat ⊕ Int) × Sg)} (h : okP m (CPost cI cX c v X s)) : okP (hcat m cI cX fun y1 s2 => grd (R y1) <| grd (0 ≤ 0 ∧ 0 < 1) <| lett (sl s2 100 0 y1) fun s5 => some (0, s5)) (LPost c v X s) := by
  obtain ⟨⟨r, t⟩, e, h1, h2, h3⟩ := h
  rw [e]
  rcases h3 with ⟨e1, e2, e3⟩ | ⟨e1, e2, e3⟩ | ⟨e1, e2, e3⟩
  · have e2 : r = .inr v := e2
    subst e2
    show okP (grd (R v) <| grd (0 ≤ 0 ∧ 0 < 1) <| lett (sl t 100 0 v) fun s5 => some (0, s5)) _
    rw [grd_t e3, grd_t ⟨by omega, by omega⟩, lett_eq]
    exact okP_some ⟨h1, h2.sl _ _ _, e1.symm, fun _ => ⟨by show gl (sl t 100 0 v) 100 0 = v; rw [gl_sl, if_pos ⟨rfl, rfl⟩], e3⟩⟩
  · have e1 : r = .inl 0 := e1
    subst e1
    show okP (if cI = 0 then none else some (cI, t)) _
    rw [if_neg e3]
    exact okP_some ⟨h1, h2, e2.symm, fun q => absurd (e2.symm.trans q) e3⟩
  · have e1 : r = .inl 1 := e1
    subst e1
    show okP (if cX = 0 then none else some (cX, t)) _
    rw [if_neg e3]
    exact okP_some ⟨h1, h2, e2.symm, fun q => absurd (e2.symm.trans q) e3⟩
theorem lcmp_z (x : Int) : lcmpI x x = 0 := by
  unfold lcmpI
  rw [if_neg (by omega), if_pos rfl]
/-- the answers of both are the same -/
theorem law_tail {X' : Xs} {s0 s1 : Sg} {m : Option (Int × Sg)} {K : Sg → Option β} {Q : β → Prop} (hc : R c) (hC : CI X' s1) (hF : CF s0 s1) (hg : c = 0 → gl s1 100 0 = v ∧ R v) (hm : okP m (MPost c v X' s1)) (k : ∀ s2, CI X' s2 → MI X' s2 → (∀ j, gi s2 1200 j = gi s0 1200 j) → okP (K s2) Q) :
    okP (bnd2 m fun y36 s37 => bnd (Mo_thrown s37) fun y38 => ifEq y38 c (ifEq c 0 (grd (0 ≤ 0 ∧ 0 < 1) <| grd (R y36) <| grd (RL64 (gl s37 100 0) ∧ RL64 y36) <| ifEq (lcmpI (gl s37 100 0) y36) 0 (K s37) none) (K s37)) none) Q := by
  refine okP_bnd2 hm ?_
  rintro y t - ⟨h1, h2, h3, h4⟩
  have h1 : MF s1 t := h1
  have h2 : MI X' t := h2
  have h3 : gi t 80 0 = c := h3
  have h4 : c = 0 → y = v := h4
  unfold Mo_thrown
  rw [bnd_some, h3, ifEq_eq _ _ hc hc, if_pos rfl, ifEq_eq _ _ hc R0]
  have kk : okP (K t) Q := k t (hC.mf h1) h2 fun j => (h1.1 1200 j (by omega)).trans (hF 1200 j (by omega))
  by_cases q : c = 0
  · obtain ⟨g1, g2⟩ := hg q
    have g3 : gl t 100 0 = v := (h1.2.1 100 0 (by omega)).trans g1
    rw [if_pos q, grd_t ⟨by omega, by omega⟩, h4 q, g3, grd_t g2, grd_t ⟨RL_R g2, RL_R g2⟩, lcmp_z, ifEq_eq _ _ R0 R0, if_pos rfl]
    exact kk
  · rw [if_neg q]
    exact kk
/-- a question leaves everything -/
theorem qC {m : Option ((Nat ⊕ Int) × Sg)} (hC : CI X s) (h : okP m (fun o => Ch LC s o.2 ∧ o.1 = .inr v)) (hv : R v) : okP m (CPost cI cX 0 v X s) :=
  okP_mono h fun o ⟨h1, h2⟩ => ⟨h1.cf, hC.ch h1, Or.inl ⟨rfl, h2, hv⟩⟩
theorem eI (hC : CI X s) (w : Int) : okP (some ((.inl 0 : Nat ⊕ Int), s)) (CPost 1 cX 1 w X s) := okP_some ⟨CF.rf s, hC, Or.inr (Or.inl ⟨rfl, rfl, by omega⟩)⟩
theorem eI2 (hC : CI X s) (w : Int) : okP (some ((.inl 0 : Nat ⊕ Int), s)) (CPost 2 cX 2 w X s) := okP_some ⟨CF.rf s, hC, Or.inr (Or.inl ⟨rfl, rfl, by omega⟩)⟩
theorem eX (hC : CI X s) (w : Int) : okP (some ((.inl 1 : Nat ⊕ Int), s)) (CPost cI 1 1 w X s) := okP_some ⟨CF.rf s, hC, Or.inr (Or.inr ⟨rfl, rfl, by omega⟩)⟩
theorem eX2 (hC : CI X s) (w : Int) : okP (some ((.inl 1 : Nat ⊕ Int), s)) (CPost cI 2 2 w X s) := okP_some ⟨CF.rf s, hC, Or.inr (Or.inr ⟨rfl, rfl, by omega⟩)⟩
theorem MI.e0 (hX : XsOK X) (hM : MI X s) (w : Int) : MI X (si s 80 0 w) := hM.ch hX (L := [8000]) (Ch.s8 (by decide))
theorem mf0 (s : Sg) (w : Int) : MF s (si s 80 0 w) := (Ch.s8 (L := [8000]) (by decide)).mf
theorem eM (hX : XsOK X) (hM : MI X s) {c : Int} (hc : c ≠ 0) (y w : Int) : okP (some (y, si s 80 0 c)) (MPost c w X s) := okP_some ⟨mf0 s c, hM.e0 hX c, gi_si_s _ _ _ _, fun q => absurd q hc⟩
theorem eM' (hX : XsOK X) (hM : MI X s) {c : Int} (hc : c ≠ 0) (y w : Int) : okP (some (y, si (si s 80 0 0) 80 0 c)) (MPost c w X s) := okP_some ⟨(mf0 s 0).tr (mf0 _ c), (hM.e0 hX 0).e0 hX c, gi_si_s _ _ _ _, fun q => absurd q hc⟩
theorem qM {m : Option (Int × Sg)} (hX : XsOK X) (hM : MI X s) (h : okP m (fun o => Ch LM s o.2 ∧ gi o.2 80 0 = 0 ∧ o.1 = v)) : okP m (MPost 0 v X s) :=
  okP_mono h fun o ⟨h1, h2, h3⟩ => ⟨h1.mf, hM.ch hX h1, h2, fun _ => h3⟩
/-- behind the check: only other places than the flag change -/
theorem qM0 {m : Option (Int × Sg)} (hX : XsOK X) (hM : MI X s) {L : List Nat} (h : okP m (fun o => Ch L (si s 80 0 0) o.2 ∧ o.1 = v)) (hL : ∀ x ∈ L, x ∈ LM := by decide) (h0 : 8000 ∉ L := by decide) : okP m (MPost 0 v X s) :=
  qM hX hM (okP_mono h fun o ⟨h1, h2⟩ => ⟨(Ch.s8 (by decide)).tr (h1.mo hL), by rw [h1.g8 0 h0]; exact gi_si_s _ _ _ _, h2⟩)
theorem MPb (hX : XsOK X) (hM : MI X s) : MP (si s 80 0 0) X.b := (hM.e0 hX 0).1
end PST
