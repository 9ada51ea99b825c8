/-! ===== the flow ===== -/
def wtI (f : Nat → Int) (sd : Int) (c : Nat) : Int := if f c = sd then 3 else if f c = -1 then 1 else 0
def Fw (f : Nat → Int) (sd : Int) (L : Nat → Int) (p : Int × Int) (y : Int) : Int × Int := if y = -1 then p else (p.1 + wtI f sd y.toNat * L y.toNat, p.2 + wtI f sd y.toNat)
def nlv (n : Nat) (f : Nat → Int) (sd : Int) (L : Nat → Int) (c : Nat) : Int × Int := fo (Fw f sd L) (rnd n c) (if edg n sd c = 2 then 1000000 else 0, if edg n sd c = 0 then 0 else 1) 6
def nlc (n : Nat) (f : Nat → Int) (sd : Int) (L : Nat → Int) (c : Nat) : Int := if (nlv n f sd L c).2 = 0 then L c else (nlv n f sd L c).1 / (nlv n f sd L c).2
def swp (n : Nat) (f : Nat → Int) (sd : Int) (L : Nat → Int) : Nat → Nat → Int
  | 0 => L
  | i + 1 => if wtI f sd i = 0 then swp n f sd L i else ups (swp n f sd L i) i (nlc n f sd (swp n f sd L i) i)
def sws (n : Nat) (f : Nat → Int) (sd : Int) : Nat → Nat → Int
  | 0 => fun _ => 500000
  | k + 1 => swp n f sd (sws n f sd k) (n * n)
def cur (n : Nat) (f : Nat → Int) (sd : Int) (L : Nat → Int) : Nat → Int
  | 0 => 0
  | i + 1 => cur n f sd L i + (if edg n sd i = 1 then wtI f sd i * L i else 0)
section FLW
variable {n : Nat} {f : Nat → Int} {sd : Int} {L : Nat → Int}
theorem wtI_rg (f : Nat → Int) (sd : Int) (c : Nat) : wtI f sd c = 0 ∨ wtI f sd c = 1 ∨ wtI f sd c = 3 := by
  unfold wtI
  split
  · exact Or.inr (Or.inr rfl)
  · split
    · exact Or.inr (Or.inl rfl)
    · exact Or.inl rfl
def Lv (L : Nat → Int) : Prop := ∀ c, 0 ≤ L c ∧ L c ≤ 1000000
theorem Fw_m (f : Nat → Int) (sd : Int) (L : Nat → Int) (p : Int × Int) : Fw f sd L p (-1) = p := if_pos rfl
theorem wL_rg (hL : Lv L) (c : Nat) : 0 ≤ wtI f sd c * L c ∧ wtI f sd c * L c ≤ 1000000 * wtI f sd c := by
  have := hL c
  rcases wtI_rg f sd c with e | e | e <;> rw [e] <;> omega
theorem nlv_fo (hL : Lv L) (a : Nat → Int) (c : Nat) : ∀ j, 0 ≤ (fo (Fw f sd L) a (if edg n sd c = 2 then 1000000 else 0, if edg n sd c = 0 then 0 else 1) j).1 ∧ (fo (Fw f sd L) a (if edg n sd c = 2 then 1000000 else 0, if edg n sd c = 0 then 0 else 1) j).1 ≤ 1000000 * (fo (Fw f sd L) a (if edg n sd c = 2 then 1000000 else 0, if edg n sd c = 0 then 0 else 1) j).2 ∧ (fo (Fw f sd L) a (if edg n sd c = 2 then 1000000 else 0, if edg n sd c = 0 then 0 else 1) j).2 ≤ 1 + 3 * (j : Int) := by
  intro j
  induction j with
  | zero =>
    show 0 ≤ (if edg n sd c = 2 then (1000000 : Int) else 0) ∧ (if edg n sd c = 2 then (1000000 : Int) else 0) ≤ 1000000 * (if edg n sd c = 0 then (0 : Int) else 1) ∧ (if edg n sd c = 0 then (0 : Int) else 1) ≤ 1 + 3 * ((0 : Nat) : Int)
    rcases edg_rg n sd c with e | e | e <;> rw [e] <;> decide
  | succ j ih =>
    show 0 ≤ (Fw f sd L (fo (Fw f sd L) a _ j) (a j)).1 ∧ (Fw f sd L (fo (Fw f sd L) a _ j) (a j)).1 ≤ 1000000 * (Fw f sd L (fo (Fw f sd L) a _ j) (a j)).2 ∧ (Fw f sd L (fo (Fw f sd L) a _ j) (a j)).2 ≤ 1 + 3 * ((j + 1 : Nat) : Int)
    generalize fo (Fw f sd L) a (if edg n sd c = 2 then 1000000 else 0, if edg n sd c = 0 then 0 else 1) j = p at ih
    unfold Fw
    split
    · omega
    · have h1 := wL_rg (f := f) (sd := sd) hL (a j).toNat
      have h2 := wtI_rg f sd (a j).toNat
      show 0 ≤ p.1 + wtI f sd (a j).toNat * L (a j).toNat ∧ p.1 + wtI f sd (a j).toNat * L (a j).toNat ≤ 1000000 * (p.2 + wtI f sd (a j).toNat) ∧ p.2 + wtI f sd (a j).toNat ≤ 1 + 3 * ((j + 1 : Nat) : Int)
      generalize wtI f sd (a j).toNat * L (a j).toNat = u at *
      omega
theorem nlv_rg (hL : Lv L) (c : Nat) : 0 ≤ (nlv n f sd L c).1 ∧ (nlv n f sd L c).1 ≤ 1000000 * (nlv n f sd L c).2 ∧ (nlv n f sd L c).2 ≤ 19 := nlv_fo hL (rnd n c) c 6
theorem nlc_rg (hL : Lv L) (c : Nat) : 0 ≤ nlc n f sd L c ∧ nlc n f sd L c ≤ 1000000 := by
  unfold nlc
  split
  · exact hL c
  · rename_i h
    obtain ⟨h1, h2, h3⟩ := nlv_rg (n := n) (f := f) (sd := sd) hL c
    have hp : 0 < (nlv n f sd L c).2 := by omega
    refine ⟨Int.ediv_nonneg h1 (by omega), ?_⟩
    refine Int.le_trans (Int.ediv_le_ediv hp h2) ?_
    rw [Int.mul_ediv_cancel _ (by omega)]
    exact Int.le_refl _
theorem swp_rg (hL : Lv L) : ∀ i, Lv (swp n f sd L i)
  | 0 => hL
  | i + 1 => by
    have ih := swp_rg hL i
    unfold swp
    split
    · exact ih
    · intro c
      unfold ups
      split
      · exact nlc_rg ih i
      · exact ih c
theorem sws_rg (n : Nat) (f : Nat → Int) (sd : Int) : ∀ k, Lv (sws n f sd k)
  | 0 => fun _ => ⟨by show (0 : Int) ≤ 500000; omega, by show (500000 : Int) ≤ 1000000; omega⟩
  | k + 1 => swp_rg (sws_rg n f sd k) (n * n)
theorem sws_fix {k : Nat} (h : sws n f sd (k + 1) = sws n f sd k) : ∀ j, sws n f sd (k + j) = sws n f sd k
  | 0 => rfl
  | j + 1 => by
    have e : sws n f sd (k + (j + 1)) = swp n f sd (sws n f sd (k + j)) (n * n) := rfl
    rw [e, sws_fix h j]
    exact h
theorem cur_rg (hL : Lv L) : ∀ i, 0 ≤ cur n f sd L i ∧ cur n f sd L i ≤ 3000000 * (i : Int)
  | 0 => ⟨Int.le_refl _, Int.le_refl _⟩
  | i + 1 => by
    have ih := cur_rg hL i
    have h1 := wL_rg (f := f) (sd := sd) hL i
    have h2 := wtI_rg f sd i
    unfold cur
    split <;> omega
end FLW

