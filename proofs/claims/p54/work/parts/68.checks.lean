/-! ===== the checks of arguments ===== -/
section CHK
variable {s : Sg} {b : Bd} {n : Nat}
theorem RL_R {x : Int} (h : R x) : RL64 x := by
  unfold R at h
  unfold RL64
  omega
theorem RL_n {k : Nat} (h : k ≤ 2147483647) : RL64 (k : Int) := RL_R (R_nat h)
theorem rqC_t (hC : CQ s b) {c : Nat} (hc : c < b.n * b.n) : Hx_requireCell (c : Int) s = some (.inr 0, s) := by
  have h81 := nn_le hC.1.2.1
  unfold Hx_requireCell
  rw [hC.1.2.2.2.1, ifLt_eq _ _ (R_nat (by omega)) R0, if_neg (by omega), ifLt_eq _ _ (R_nat (by omega)) (R_nat (by omega)), if_pos (by omega)]
theorem rqS_t {x : Int} (h : x = 0 ∨ x = 1) : Hx_requireSide x s = some (.inr 0, s) := by
  unfold Hx_requireSide
  rw [ifEq_eq _ _ (R_01 h) R0, ifEq_eq _ _ (R_01 h) R1]
  rcases h with rfl | rfl <;> rfl
theorem rqR_t {x l m : Int} (hx : R x) (hl : R l) (hm : R m) (h : l ≤ x ∧ x ≤ m) : Hx_requireRange x l m s = some (.inr 0, s) := by
  unfold Hx_requireRange
  rw [ifLt_eq _ _ hx hl, if_neg (by omega), ifLt_eq _ _ hm hx, if_neg (by omega)]
/-- a cell or none -/
theorem cell_dec {N : Nat} (x : Int) : (∃ c : Nat, x = (c : Int) ∧ c < N) ∨ ∀ c : Nat, x = (c : Int) → ¬ c < N := by
  by_cases h : ∃ c : Nat, x = (c : Int) ∧ c < N
  · exact Or.inl h
  · exact Or.inr fun c e l => h ⟨c, e, l⟩
end CHK
/-! ===== what a call of each program answers ===== -/
def Rs (cI cX c v : Int) (r : Nat ⊕ Int) : Prop := (c = 0 ∧ r = .inr v ∧ R v) ∨ (r = .inl 0 ∧ c = cI ∧ cI ≠ 0) ∨ (r = .inl 1 ∧ c = cX ∧ cX ≠ 0)
def CPost (cI cX c v : Int) (X : Xs) (s : Sg) (o : (Nat ⊕ Int) × Sg) : Prop := CF s o.2 ∧ CI X o.2 ∧ Rs cI cX c v o.1
def MPost (c v : Int) (X : Xs) (s : Sg) (o : Int × Sg) : Prop := MF s o.2 ∧ MI X o.2 ∧ gi o.2 80 0 = c ∧ (c = 0 → o.1 = v)
def LPost (c v : Int) (X : Xs) (s : Sg) (o : Int × Sg) : Prop := CF s o.2 ∧ CI X o.2 ∧ o.1 = c ∧ (c = 0 → gl o.2 100 0 = v ∧ R v)
section PST
variable {s : Sg} {X : Xs} {cI cX c v : Int} {β : Type}
theorem CI_sl_ (k : CI X s) (b j : Nat) (w : Int) : CI X (sl s b j w) := k.eq (s' := sl s b j w) rfl
theorem CI.sl (k : CI X s) (b j : Nat) (w : Int) : CI X (sl s b j w) := CI_sl_ k b j w
theorem lcmp_z (x : Int) : lcmpI x x = 0 := by
  unfold lcmpI
  rw [if_neg (by omega), if_pos rfl]
/-- a question leaves everything -/
theorem qC {m : Option ((Nat ⊕ Int) × Sg)} (hC : CI X s) (h : okP m (fun o => Ch LC s o.2 ∧ o.1 = .inr v)) (hv : R v) : okP m (CPost cI cX 0 v X s) :=
  okP_mono h fun o ⟨h1, h2⟩ => ⟨h1.cf, hC.ch h1, Or.inl ⟨rfl, h2, hv⟩⟩
theorem eI (hC : CI X s) (w : Int) : okP (some ((.inl 0 : Nat ⊕ Int), s)) (CPost 1 cX 1 w X s) := okP_some ⟨CF.rf s, hC, Or.inr (Or.inl ⟨rfl, rfl, by omega⟩)⟩
theorem eI2 (hC : CI X s) (w : Int) : okP (some ((.inl 0 : Nat ⊕ Int), s)) (CPost 2 cX 2 w X s) := okP_some ⟨CF.rf s, hC, Or.inr (Or.inl ⟨rfl, rfl, by omega⟩)⟩
theorem eX (hC : CI X s) (w : Int) : okP (some ((.inl 1 : Nat ⊕ Int), s)) (CPost cI 1 1 w X s) := okP_some ⟨CF.rf s, hC, Or.inr (Or.inr ⟨rfl, rfl, by omega⟩)⟩
theorem eX2 (hC : CI X s) (w : Int) : okP (some ((.inl 1 : Nat ⊕ Int), s)) (CPost cI 2 2 w X s) := okP_some ⟨CF.rf s, hC, Or.inr (Or.inr ⟨rfl, rfl, by omega⟩)⟩
theorem MI.e0 (hX : XsOK X) (hM : MI X s) (w : Int) : MI X (si s 80 0 w) := hM.ch hX (L := [8000]) (Ch.s8 (by decide))
theorem mf0 (s : Sg) (w : Int) : MF s (si s 80 0 w) := (Ch.s8 (L := [8000]) (by decide)).mf
theorem eM (hX : XsOK X) (hM : MI X s) {c : Int} (hc : c ≠ 0) (y w : Int) : okP (some (y, si s 80 0 c)) (MPost c w X s) := okP_some ⟨mf0 s c, hM.e0 hX c, gi_si_s _ _ _ _, fun q => absurd q hc⟩
theorem eM' (hX : XsOK X) (hM : MI X s) {c : Int} (hc : c ≠ 0) (y w : Int) : okP (some (y, si (si s 80 0 0) 80 0 c)) (MPost c w X s) := okP_some ⟨(mf0 s 0).tr (mf0 _ c), (hM.e0 hX 0).e0 hX c, gi_si_s _ _ _ _, fun q => absurd q hc⟩
theorem qM {m : Option (Int × Sg)} (hX : XsOK X) (hM : MI X s) (h : okP m (fun o => Ch LM s o.2 ∧ gi o.2 80 0 = 0 ∧ o.1 = v)) : okP m (MPost 0 v X s) :=
  okP_mono h fun o ⟨h1, h2, h3⟩ => ⟨h1.mf, hM.ch hX h1, h2, fun _ => h3⟩
/-- behind the check: only other places than the flag change -/
theorem qM0 {m : Option (Int × Sg)} (hX : XsOK X) (hM : MI X s) {L : List Nat} (h : okP m (fun o => Ch L (si s 80 0 0) o.2 ∧ o.1 = v)) (hL : ∀ x ∈ L, x ∈ LM := by decide) (h0 : 8000 ∉ L := by decide) : okP m (MPost 0 v X s) :=
  qM hX hM (okP_mono h fun o ⟨h1, h2⟩ => ⟨(Ch.s8 (by decide)).tr (h1.mo hL), by rw [h1.g8 0 h0]; exact gi_si_s _ _ _ _, h2⟩)
theorem MPb (hX : XsOK X) (hM : MI X s) : MP (si s 80 0 0) X.b := (hM.e0 hX 0).1
end PST

