/-! ===== the text is scanned ===== -/
section SCN
variable {L : Nat} {B : Nat → Int} {s : Sg}
theorem whl_inl {σ ρ : Type} {f : σ → Option (σ ⊕ ρ)} {a b : σ} {Q : ρ → Prop} (h : f a = some (.inl b)) (k : okP (whl f b) Q) : okP (whl f a) Q := by
  obtain ⟨r, e, q⟩ := k
  obtain ⟨n, e2⟩ := whl_iff.mp e
  exact ⟨r, whl_iff.mpr ⟨n + 1, by unfold itr; rw [h]; exact e2⟩, q⟩
theorem whl_inr {σ ρ : Type} {f : σ → Option (σ ⊕ ρ)} {a : σ} {r : ρ} {Q : ρ → Prop} (h : f a = some (.inr r)) (k : Q r) : okP (whl f a) Q := ⟨r, whl_iff.mpr ⟨1, by unfold itr; rw [h]⟩, k⟩
/-- one round, then the rest -/
theorem whl_rd {σ ρ : Type} {f : σ → Option (σ ⊕ ρ)} {a : σ} {Q : ρ → Prop} (h : okP (f a) (fun o => (∃ b, o = .inl b ∧ okP (whl f b) Q) ∨ ∃ r, o = .inr r ∧ Q r)) : okP (whl f a) Q := by
  obtain ⟨o, e, q⟩ := h
  rcases q with ⟨b, rfl, k⟩ | ⟨r, rfl, k⟩
  · exact whl_inl e k
  · exact whl_inr e k
def IsE (L : Nat) (B : Nat → Int) (l h : Int) (q e : Nat) : Prop := q ≤ e ∧ (∀ i, q ≤ i → i < e → i < L ∧ l ≤ B i ∧ B i ≤ h) ∧ ¬ (e < L ∧ l ≤ B e ∧ B e ≤ h)
theorem IsE_ex (L : Nat) (B : Nat → Int) (l h : Int) : ∀ (d q : Nat), L - q = d → ∃ e, IsE L B l h q e
  | 0, q, hd => ⟨q, Nat.le_refl _, fun i h1 h2 => by omega, fun z => by omega⟩
  | d + 1, q, hd => by
    by_cases z : q < L ∧ l ≤ B q ∧ B q ≤ h
    · obtain ⟨e, h1, h2, h3⟩ := IsE_ex L B l h d (q + 1) (by omega)
      refine ⟨e, by omega, fun i k1 k2 => ?_, h3⟩
      by_cases y : i = q
      · subst y; exact z
      · exact h2 i (by omega) k2
    · exact ⟨q, Nat.le_refl _, fun i h1 h2 => by omega, z⟩
/-- where a run of bytes ends -/
noncomputable def rE (L : Nat) (B : Nat → Int) (l h : Int) (q : Nat) : Nat := (IsE_ex L B l h _ q rfl).choose
theorem rE_s (L : Nat) (B : Nat → Int) (l h : Int) (q : Nat) : IsE L B l h q (rE L B l h q) := (IsE_ex L B l h _ q rfl).choose_spec
theorem rE_u {l h : Int} {q e : Nat} (k : IsE L B l h q e) : rE L B l h q = e := by
  obtain ⟨h1, h2, h3⟩ := rE_s L B l h q
  obtain ⟨k1, k2, k3⟩ := k
  rcases Nat.lt_trichotomy (rE L B l h q) e with z | z | z
  · exact absurd (k2 _ h1 z) h3
  · exact z
  · exact absurd (h2 _ k1 z) k3
theorem rE_ge (l h : Int) (q : Nat) : q ≤ rE L B l h q := (rE_s L B l h q).1
theorem rE_le {l h : Int} {q : Nat} (hq : q ≤ L) : rE L B l h q ≤ L := by
  obtain ⟨h1, h2, h3⟩ := rE_s L B l h q
  rcases Nat.lt_or_ge L (rE L B l h q) with z | z
  · exact absurd (h2 L hq z).1 (Nat.lt_irrefl _)
  · exact z
theorem rE_gt {l h : Int} {q : Nat} (k : q < L ∧ l ≤ B q ∧ B q ≤ h) : q + 1 ≤ rE L B l h q := by
  obtain ⟨h1, h2, h3⟩ := rE_s L B l h q
  rcases Nat.eq_or_lt_of_le h1 with z | z
  · rw [← z] at h3
    exact absurd k h3
  · exact z
noncomputable def sk (L : Nat) (B : Nat → Int) (q : Nat) : Nat := rE L B 32 32 q
def byt (L : Nat) (B : Nat → Int) (q : Nat) : Int := if q < L then B q else -1
def InC (s : Sg) (L : Nat) (B : Nat → Int) : Prop := gi s 48 1 = (L : Int) ∧ L ≤ 400 ∧ (∀ i, i < L → gi s 49 i = B i) ∧ ∀ i, i < L → 1 ≤ B i ∧ B i ≤ 255
def InM (s : Sg) (L : Nat) (B : Nat → Int) : Prop := gi s 80 8 = (L : Int) ∧ L ≤ 400 ∧ (∀ i, i < L → gi s 86 i = sx (B i)) ∧ ∀ i, i < L → 1 ≤ B i ∧ B i ≤ 255
theorem InC.ch {t : Sg} {M : List Nat} (h : InC s L B) (hc : Ch M s t) (h1 : 48 ∉ M := by decide) (h2 : 49 ∉ M := by decide) : InC t L B := ⟨(hc.g 48 h1).trans h.1, h.2.1, fun i hi' => (hc.g 49 h2).trans (h.2.2.1 i hi'), h.2.2.2⟩
theorem InM.ch {t : Sg} {M : List Nat} (h : InM s L B) (hc : Ch M s t) (h1 : 8008 ∉ M := by decide) (h2 : 86 ∉ M := by decide) : InM t L B := ⟨(hc.g8 8 h1).trans h.1, h.2.1, fun i hi' => (hc.g 86 h2).trans (h.2.2.1 i hi'), h.2.2.2⟩
theorem byt_R (h : ∀ i, i < L → 1 ≤ B i ∧ B i ≤ 255) (q : Nat) : -1 ≤ byt L B q ∧ byt L B q ≤ 255 := by
  unfold byt
  split
  · have := h q ‹_›
    omega
  · omega
theorem get_eq {q : Nat} (hI : InC s L B) (hq : q ≤ 100000) : By_get 48 (q : Int) s = some (byt L B q) := by
  have a49 : alen (48 + 1) = 400 := rfl
  have h4 := hI.2.1
  unfold By_get By_get_b21 By_get_b26 byt
  rw [ifLt_eq _ _ (R_nat (by omega)) R0, if_neg (by omega), hI.1, ifLt_eq _ _ (R_nat (by omega)) (R_nat (by omega))]
  by_cases z : q < L
  · rw [if_pos (by omega), a49, ifLt_eq _ _ (R_nat (by omega)) (R_nat (by omega)), if_pos (by omega), ifEq_t R0 R0 rfl, grd_t ⟨by omega, by omega⟩, if_pos z]
    exact congrArg some (hI.2.2.1 q z)
  · rw [if_neg (by omega), if_neg z, ifEq_f R1 R0 (by omega)]
theorem runEnd_eq {l h : Int} {q : Nat} (hI : InC s L B) (hq : q ≤ L) (hl : R l) (hh : R h) : Re_runEnd (q : Int) l h s = some ((rE L B l h q : Nat) : Int) := by
  have h4 := hI.2.1
  obtain ⟨e1, e2, e3⟩ := rE_s L B l h q
  have e4 : rE L B l h q ≤ L := rE_le hq
  have hb := byt_R hI.2.2.2
  have key : okP (whl (fun σ : Int => Re_runEnd_t3 l h σ s) (q : Int)) (fun r => r = ((rE L B l h q : Nat) : Int)) := by
    refine whl_for (fun (i : Nat) (_ : Unit) => (i : Int)) (rE L B l h q) (fun i _ => q ≤ i) (i0 := q) (t0 := ()) e1 (Nat.le_refl _) ?_ ?_
    · rintro i ⟨⟩ hi' hqi
      obtain ⟨k1, k2, k3⟩ := e2 i hqi hi'
      have hbi : byt L B i = B i := if_pos k1
      have hR := hb i
      show okP (Re_runEnd_t3 l h (i : Int) s) _
      unfold Re_runEnd_t3
      rw [hI.1, ifLt_eq _ _ (R_nat (by omega)) (R_nat (by omega)), if_pos (by omega), get_eq hI (by omega), bnd_some, ifLt_eq _ _ (by unfold R; omega) hl, if_neg (by omega), bnd_some, ifLt_eq _ _ hh (by unfold R; omega), if_neg (by omega)]
      exact okP_some (Or.inl ⟨(), rfl, by omega⟩)
    · rintro ⟨⟩ -
      show okP (Re_runEnd_t3 l h ((rE L B l h q : Nat) : Int) s) _
      unfold Re_runEnd_t3
      rw [hI.1, ifLt_eq _ _ (R_nat (by omega)) (R_nat (by omega))]
      by_cases z : rE L B l h q < L
      · have hbi : byt L B (rE L B l h q) = B (rE L B l h q) := if_pos z
        have hR := hb (rE L B l h q)
        rw [if_pos (by omega), get_eq hI (by omega), bnd_some, ifLt_eq _ _ (by unfold R; omega) hl]
        by_cases y : byt L B (rE L B l h q) < l
        · rw [if_pos y]
          exact okP_some ⟨_, rfl, rfl⟩
        · rw [if_neg y, bnd_some, ifLt_eq _ _ hh (by unfold R; omega), if_pos]
          · exact okP_some ⟨_, rfl, rfl⟩
          · rcases Int.lt_or_le h (byt L B (rE L B l h q)) with w | w
            · exact w
            · exact absurd ⟨z, by omega, by omega⟩ e3
      · rw [if_neg (by omega)]
        exact okP_some ⟨_, rfl, rfl⟩
  obtain ⟨r, e, rfl⟩ := key
  unfold Re_runEnd Re_runEnd_l3
  rw [e, bnd_some]
/-! numbers -/
def vC (B : Nat → Int) (q : Nat) : Nat → Int
  | 0 => 0
  | i + 1 => min 1000 (10 * vC B q i + B (q + i) - 48)
def vM (B : Nat → Int) (q : Nat) : Nat → Int
  | 0 => 0
  | i + 1 => if 99999999 < vM B q i then vM B q i else 10 * vM B q i + B (q + i) - 48
theorem vv (q : Nat) : ∀ i, (∀ j, j < i → 48 ≤ B (q + j) ∧ B (q + j) ≤ 57) → ((0 ≤ vC B q i ∧ vC B q i < 1000 ∧ vC B q i = vM B q i) ∨ (vC B q i = 1000 ∧ 1000 ≤ vM B q i)) ∧ vM B q i ≤ 999999999
  | 0, _ => ⟨Or.inl ⟨Int.le_refl _, by show (0 : Int) < 1000; omega, rfl⟩, by show (0 : Int) ≤ 999999999; omega⟩
  | i + 1, h => by
    have ih := vv q i (fun j hj => h j (by omega))
    have hd := h i (by omega)
    have e1 : vC B q (i + 1) = min 1000 (10 * vC B q i + B (q + i) - 48) := rfl
    have e2 : vM B q (i + 1) = if 99999999 < vM B q i then vM B q i else 10 * vM B q i + B (q + i) - 48 := rfl
    rw [e1, e2]
    split <;> omega
noncomputable def num (L : Nat) (B : Nat → Int) (q : Nat) : Int := vC B q (rE L B 48 57 q - q)
theorem num_d (q : Nat) : ∀ j, j < rE L B 48 57 q - q → 48 ≤ B (q + j) ∧ B (q + j) ≤ 57 := fun j hj => ((rE_s L B 48 57 q).2.1 (q + j) (by omega) (by omega)).2
theorem num_rg (q : Nat) : 0 ≤ num L B q ∧ num L B q ≤ 1000 := by
  have := (vv (B := B) q _ (num_d (L := L) q)).1
  unfold num
  omega
theorem readNumber_eq {q : Nat} (hI : InC s L B) (hq : q ≤ L) (h5 : gi s 52 5 = (q : Int)) (h6 : gi s 52 6 = ((rE L B 48 57 q : Nat) : Int)) : Re_readNumber s = some (num L B q) := by
  have h4 := hI.2.1
  obtain ⟨e1, e2, e3⟩ := rE_s L B 48 57 q
  have e4 : rE L B 48 57 q ≤ L := rE_le hq
  have key : okP (whl (fun σ : Int × Int => Re_readNumber_t7 σ.1 σ.2 s) (0, (q : Int))) (fun r => r = num L B q) := by
    refine whl_for (fun (i : Nat) (t : Int) => (t, ((q + i : Nat) : Int))) (rE L B 48 57 q - q) (fun i t => t = vC B q i) (i0 := 0) (t0 := 0) (Nat.zero_le _) rfl ?_ ?_
    · rintro i t hi' rfl
      have hd := num_d (L := L) (B := B) q i hi'
      have hv := (vv (B := B) q i (fun j hj => num_d (L := L) q j (by omega))).1
      have hbi : byt L B (q + i) = B (q + i) := if_pos (by omega)
      show okP (Re_readNumber_t7 (vC B q i) ((q + i : Nat) : Int) s) _
      unfold Re_readNumber_t7
      rw [h6, ifLt_eq _ _ (R_nat (by omega)) (R_nat (by omega)), if_pos (by omega), get_eq hI (by omega), bnd_some, hbi, grd_t ⟨by unfold R; omega, by unfold R; omega⟩, lett_eq]
      exact okP_some (Or.inl ⟨vC B q (i + 1), rfl, rfl⟩)
    · rintro t rfl
      show okP (Re_readNumber_t7 (vC B q (rE L B 48 57 q - q)) ((q + (rE L B 48 57 q - q) : Nat) : Int) s) _
      unfold Re_readNumber_t7
      rw [h6, ifLt_eq _ _ (R_nat (by omega)) (R_nat (by omega)), if_neg (by omega)]
      exact okP_some ⟨_, rfl, rfl⟩
  obtain ⟨r, e, rfl⟩ := key
  unfold Re_readNumber Re_readNumber_l7
  rw [h5, lett_eq, e, bnd_some]
/-! tokens -/
def ltr (L : Nat) (B : Nat → Int) (q : Nat) : Prop := q < L ∧ 97 ≤ B q ∧ B q ≤ 122
def dgt (L : Nat) (B : Nat → Int) (q : Nat) : Prop := q < L ∧ 48 ≤ B q ∧ B q ≤ 57
def Tok (s : Sg) (L : Nat) (B : Nat → Int) (q : Nat) : Prop := gi s 52 5 = (q : Int) ∧
  (ltr L B q → gi s 52 4 = 1 ∧ gi s 52 6 = ((rE L B 97 122 q : Nat) : Int)) ∧
  (dgt L B q → gi s 52 4 = 2 ∧ gi s 52 6 = ((rE L B 48 57 q : Nat) : Int) ∧ gi s 52 7 = num L B q) ∧
  (L ≤ q → gi s 52 4 = 0 ∧ gi s 52 6 = (q : Int)) ∧
  (q < L → ¬ ltr L B q → ¬ dgt L B q → B q = 59 → gi s 52 4 = 3 ∧ gi s 52 6 = ((q + 1 : Nat) : Int)) ∧
  (q < L → ¬ ltr L B q → ¬ dgt L B q → B q ≠ 59 → gi s 52 4 = 4 ∧ gi s 52 6 = ((q + 1 : Nat) : Int))
/-- only the token is another -/
def AF (s t : Sg) : Prop := Ch [52] s t ∧ ∀ k, 8 ≤ k → gi t 52 k = gi s 52 k
theorem AF.tr {a b c : Sg} (h1 : AF a b) (h2 : AF b c) : AF a c := ⟨h1.1.tr h2.1, fun k hk => (h2.2 k hk).trans (h1.2 k hk)⟩
theorem AF.si {k : Nat} {v : Int} (hk : k < 8) : AF s (si s 52 k v) := ⟨Ch.si (by decide), fun j hj => gi_si_k _ _ _ (by omega)⟩
theorem advance_ok {p : Nat} (hI : InC s L B) (hp : p ≤ L) (h6 : gi s 52 6 = (p : Int)) : okP (Re_advance s) (fun t => AF s t ∧ Tok t L B (sk L B p)) := by
  have h4 := hI.2.1
  have R32 : R 32 := by unfold R; omega
  have R97 : R 97 := by unfold R; omega
  have R122 : R 122 := by unfold R; omega
  have R48 : R 48 := by unfold R; omega
  have R57 : R 57 := by unfold R; omega
  have R59 : R 59 := by unfold R; omega
  have hq : sk L B p ≤ L := rE_le hp
  have hbr := byt_R hI.2.2.2 (sk L B p)
  have hbR : R (byt L B (sk L B p)) := by unfold R; omega
  have f0 : AF s (si s 52 5 ((sk L B p : Nat) : Int)) := AF.si (by omega)
  unfold Re_advance
  rw [h6, runEnd_eq hI hp R32 R32, bnd_some, lett_eq, gi_si_s]
  show okP (bnd (By_get 48 ((sk L B p : Nat) : Int) (si s 52 5 ((sk L B p : Nat) : Int))) _) _
  have hI0 := hI.ch f0.1
  rw [get_eq hI0 (by omega), bnd_some]
  generalize hs0 : si s 52 5 ((rE L B 32 32 p : Nat) : Int) = s0
  have hs0' : si s 52 5 ((sk L B p : Nat) : Int) = s0 := hs0
  rw [hs0'] at f0 hI0
  have e5 : gi s0 52 5 = ((sk L B p : Nat) : Int) := by rw [← hs0']; exact gi_si_s _ _ _ _
  generalize sk L B p = q at *
  rw [ifLt_eq _ _ hbR R97]
  have rest : ¬ ltr L B q → okP (Re_advance_b64 (byt L B q) s0) (fun t => AF s t ∧ Tok t L B q) := by
    intro nl
    unfold Re_advance_b64
    have rest2 : ¬ dgt L B q → okP (Re_advance_b108 (byt L B q) s0) (fun t => AF s t ∧ Tok t L B q) := by
      intro nd
      unfold Re_advance_b108 Re_advance_b129 Re_advance_b151
      rw [ifEq_eq _ _ hbR R_n1]
      by_cases z : q < L
      · have hb : byt L B q = B q := if_pos z
        have hb1 := hI.2.2.2 q z
        rw [if_neg (by omega), ifEq_eq _ _ hbR R59]
        by_cases y : byt L B q = 59
        · rw [if_pos y, lett_eq, ifEq_f hbR R_n1 (by omega), gi_si_k _ _ _ (show (5 : Nat) ≠ 4 by omega), e5, lett_eq]
          refine okP_some ⟨f0.tr ((AF.si (by omega)).tr (AF.si (by omega))), ?_, fun w => absurd w nl, fun w => absurd w nd, fun w => absurd w (by omega), fun _ _ _ _ => ⟨?_, ?_⟩, fun _ _ _ w => absurd (hb.symm.trans y) w⟩
          · rw [gi_si_k _ _ _ (by omega), gi_si_k _ _ _ (by omega)]; exact e5
          · rw [gi_si_k _ _ _ (by omega)]; exact gi_si_s _ _ _ _
          · exact gi_si_s _ _ _ _
        · rw [if_neg y, lett_eq, ifEq_f hbR R_n1 (by omega), gi_si_k _ _ _ (show (5 : Nat) ≠ 4 by omega), e5, lett_eq]
          refine okP_some ⟨f0.tr ((AF.si (by omega)).tr (AF.si (by omega))), ?_, fun w => absurd w nl, fun w => absurd w nd, fun w => absurd w (by omega), fun _ _ _ w => absurd (hb.trans w) y, fun _ _ _ _ => ⟨?_, ?_⟩⟩
          · rw [gi_si_k _ _ _ (by omega), gi_si_k _ _ _ (by omega)]; exact e5
          · rw [gi_si_k _ _ _ (by omega)]; exact gi_si_s _ _ _ _
          · exact gi_si_s _ _ _ _
      · have hb : byt L B q = -1 := if_neg z
        rw [if_pos hb, lett_eq, ifEq_t hbR R_n1 hb, gi_si_k _ _ _ (show (5 : Nat) ≠ 4 by omega), e5, lett_eq]
        refine okP_some ⟨f0.tr ((AF.si (by omega)).tr (AF.si (by omega))), ?_, fun w => absurd w nl, fun w => absurd w nd, fun _ => ⟨?_, ?_⟩, fun w => absurd w z, fun w => absurd w z⟩
        · rw [gi_si_k _ _ _ (by omega), gi_si_k _ _ _ (by omega)]; exact e5
        · rw [gi_si_k _ _ _ (by omega)]; exact gi_si_s _ _ _ _
        · exact gi_si_s _ _ _ _
    have nd48 : ∀ w : ¬ (48 ≤ byt L B q ∧ byt L B q ≤ 57), ¬ dgt L B q := fun w ⟨z1, z2, z3⟩ => w (by
      have hb : byt L B q = B q := if_pos z1
      omega)
    rw [ifLt_eq _ _ hbR R48]
    by_cases y1 : byt L B q < 48
    · rw [if_pos y1]; exact rest2 (nd48 (by omega))
    · rw [if_neg y1, ifLt_eq _ _ R57 hbR]
      by_cases y2 : 57 < byt L B q
      · rw [if_pos y2]; exact rest2 (nd48 (by omega))
      · have z : q < L := by
          rcases Nat.lt_or_ge q L with z | z
          · exact z
          · have hb : byt L B q = -1 := if_neg (by omega)
            omega
        have hb : byt L B q = B q := if_pos z
        have hd : dgt L B q := ⟨z, by omega, by omega⟩
        have f1 : AF s0 (si s0 52 4 2) := AF.si (by omega)
        have f2 : AF (si s0 52 4 2) (si (si s0 52 4 2) 52 6 ((rE L B 48 57 q : Nat) : Int)) := AF.si (by omega)
        have e5' : gi (si (si s0 52 4 2) 52 6 ((rE L B 48 57 q : Nat) : Int)) 52 5 = (q : Int) := by rw [gi_si_k _ _ _ (by omega), gi_si_k _ _ _ (by omega)]; exact e5
        rw [if_neg y2, lett_eq, gi_si_k _ _ _ (show (5 : Nat) ≠ 4 by omega), e5, runEnd_eq (hI0.ch f1.1) hq R48 R57, bnd_some, lett_eq, readNumber_eq ((hI0.ch f1.1).ch f2.1) hq e5' (gi_si_s _ _ _ _), bnd_some, lett_eq]
        refine okP_some ⟨((f0.tr f1).tr f2).tr (AF.si (by omega)), ?_, fun w => absurd w nl, fun _ => ⟨?_, ?_, gi_si_s _ _ _ _⟩, fun w => absurd w (by omega), fun _ _ w => absurd hd w, fun _ _ w => absurd hd w⟩
        · rw [gi_si_k _ _ _ (by omega)]; exact e5'
        · rw [gi_si_k _ _ _ (by omega), gi_si_k _ _ _ (by omega)]; exact gi_si_s _ _ _ _
        · rw [gi_si_k _ _ _ (by omega)]; exact gi_si_s _ _ _ _
  by_cases y1 : byt L B q < 97
  · rw [if_pos y1]
    refine rest fun ⟨z1, z2, z3⟩ => ?_
    have hb : byt L B q = B q := if_pos z1
    omega
  · rw [if_neg y1, ifLt_eq _ _ R122 hbR]
    by_cases y2 : 122 < byt L B q
    · rw [if_pos y2]
      refine rest fun ⟨z1, z2, z3⟩ => ?_
      have hb : byt L B q = B q := if_pos z1
      omega
    · have z : q < L := by
        rcases Nat.lt_or_ge q L with z | z
        · exact z
        · have hb : byt L B q = -1 := if_neg (by omega)
          omega
      have hb : byt L B q = B q := if_pos z
      have hl : ltr L B q := ⟨z, by omega, by omega⟩
      have hnd : ¬ dgt L B q := fun ⟨_, _, w⟩ => by omega
      have f1 : AF s0 (si s0 52 4 1) := AF.si (by omega)
      rw [if_neg y2, lett_eq, gi_si_k _ _ _ (show (5 : Nat) ≠ 4 by omega), e5, runEnd_eq (hI0.ch f1.1) hq R97 R122, bnd_some, lett_eq]
      refine okP_some ⟨(f0.tr f1).tr (AF.si (by omega)), ?_, fun _ => ⟨?_, gi_si_s _ _ _ _⟩, fun w => absurd w hnd, fun w => absurd w (by omega), fun _ w => absurd hl w, fun _ w => absurd hl w⟩
      · rw [gi_si_k _ _ _ (by omega), gi_si_k _ _ _ (by omega)]; exact e5
      · rw [gi_si_k _ _ _ (by omega)]; exact gi_si_s _ _ _ _
/-! words -/
def wd (L : Nat) (B : Nat → Int) (w q : Nat) : Prop := ltr L B q ∧ rE L B 97 122 q = q + wlen w ∧ ∀ i, i < wlen w → B (q + i) = wch w i
theorem wlen6 : ∀ w, w < 6 → wlen w ≤ 5 ∧ wlen w = wlen w ∧ ∀ i, i < wlen w → wch w i = wch w i ∧ 97 ≤ wch w i ∧ wch w i ≤ 122 := by decide +kernel
theorem isWord_eq {w q : Nat} (hw : w < 6) (hI : InC s L B) (hT : Tok s L B q) (hq : q ≤ L) : Re_isWord w s = some (bI (wd L B w q)) := by
  have h4 := hI.2.1
  have hl := (wlen6 w hw).1
  have hsl : slen w = (wlen w : Int) := rfl
  obtain ⟨t5, t1, t2, t3, t4, t6⟩ := hT
  unfold Re_isWord
  by_cases z : ltr L B q
  · obtain ⟨k1, k2⟩ := t1 z
    have e4 : rE L B 97 122 q ≤ L := rE_le hq
    have e1 := rE_ge (L := L) (B := B) 97 122 q
    rw [k1, ifEq_t R1 R1 rfl, k2, t5, hsl, ifEq_eq _ _ (by unfold R; omega) (R_nat (by omega))]
    by_cases y : rE L B 97 122 q = q + wlen w
    · rw [if_pos (by omega)]
      unfold Re_isWord_l28
      have hb := byt_R hI.2.2.2
      have hwR : ∀ i, i < wlen w → R (wch w i) := fun i hi' => by
        have := ((wlen6 w hw).2.2 i hi').2
        unfold R; omega
      have step : ∀ i : Nat, i < wlen w → Re_isWord_t28 w (i : Int) s = if byt L B (q + i) = wch w i then some (.inl ((i : Int) + 1)) else some (.inr (.inl ())) := fun i hi' => by
        have ea : (q : Int) + (i : Int) = ((q + i : Nat) : Int) := by omega
        have hbi := hb (q + i)
        unfold Re_isWord_t28
        rw [hsl, ifLt_eq _ _ (R_nat (by omega)) (R_nat (by omega)), if_pos (by omega), t5, ea, get_eq hI (by omega), bnd_some, grd_t ⟨by omega, by omega⟩]
        show ifEq _ (wch w i) _ _ = _
        rw [ifEq_eq _ _ (by unfold R; omega) (hwR i hi')]
      have last : Re_isWord_t28 w ((wlen w : Nat) : Int) s = some (.inr (.inr ())) := by
        unfold Re_isWord_t28
        rw [hsl, ifLt_eq _ _ (R_nat (by omega)) (R_nat (by omega)), if_neg (by omega)]
      have hbB : ∀ i, i < wlen w → byt L B (q + i) = B (q + i) := fun i hi' => if_pos (by omega)
      rcases whl_find (f := fun σ : Int => Re_isWord_t28 w σ s) (fun i => (i : Int)) (wlen w) (fun i => byt L B (q + i) ≠ wch w i) (fun _ => .inl ()) (.inr ()) (fun i hi' hp => by show Re_isWord_t28 w (i : Int) s = _; rw [step i hi', if_neg hp]) (fun i hi' hp => by show Re_isWord_t28 w (i : Int) s = _; rw [step i hi', if_pos (Classical.not_not.mp hp)]; rfl) last with ⟨k, hk, hp, -, e⟩ | ⟨hno, e⟩
      · have e' : whl (fun σ : Int => Re_isWord_t28 w σ s) 0 = some (.inl ()) := e
        rw [e', bI_f (fun h => hp ((hbB k hk).trans (h.2.2 k hk)))]
        rfl
      · have e' : whl (fun σ : Int => Re_isWord_t28 w σ s) 0 = some (.inr ()) := e
        rw [e', bI_t ⟨z, y, fun i hi' => (hbB i hi').symm.trans (Classical.not_not.mp (hno i hi'))⟩]
        rfl
    · rw [if_neg (by omega), bI_f (fun h => y h.2.1)]
  · have k1 : R (gi s 52 4) ∧ gi s 52 4 ≠ 1 := by
      by_cases a : L ≤ q
      · rw [(t3 a).1]; exact ⟨R0, by omega⟩
      · by_cases d : dgt L B q
        · rw [(t2 d).1]; exact ⟨by unfold R; omega, by omega⟩
        · by_cases e : B q = 59
          · rw [(t4 (by omega) z d e).1]; exact ⟨by unfold R; omega, by omega⟩
          · rw [(t6 (by omega) z d e).1]; exact ⟨by unfold R; omega, by omega⟩
    rw [ifEq_f k1.1 R1 k1.2, bI_f (fun h => z h.1)]
end SCN

