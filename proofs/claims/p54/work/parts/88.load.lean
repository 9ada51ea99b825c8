/-! ===== a text is loaded ===== -/
section LOD
variable {X : Xs} {s t : Sg}
/-- behind a load: no input is left -/
def Xs.wl (X : Xs) (b : Bd) (h : Nat) (er sm : Int) : Xs := Xs.mk b h X.H X.S 0 X.ib X.ol X.ob er sm
theorem XsOK.wl (hX : XsOK X) {b : Bd} {h : Nat} {er sm : Int} (hb : BdOK b) (hH : ∀ i, i < h → BdOK (X.H i) ∧ (X.H i).n = b.n) (he : 0 ≤ er ∧ er ≤ 1000) (hm : -1 ≤ sm ∧ sm ≤ 1000) : XsOK (X.wl b h er sm) :=
  ⟨hb, hH, hX.2.2.1, Nat.zero_le _, fun i hi' => absurd hi' (Nat.not_lt_zero i), hX.2.2.2.2.2.1, hX.2.2.2.2.2.2.1, he, hm⟩
theorem CI.wl {b : Bd} {h : Nat} {er sm : Int} {L : List Nat} (hC : CI X s) (hc : Ch L s t) (hQ : CQ t b) (hH : HC t h X.H) (h48 : gi t 48 1 = 0) (h8 : gi t 52 8 = er) (h0 : er = 0 → sm = -1) (h10 : er ≠ 0 → gi t 52 10 = sm) (hL : ∀ x ∈ [42, 43, 44, 45, 46, 47, 50, 51], x ∉ L := by decide) : CI (X.wl b h er sm) t := by
  obtain ⟨-, ⟨a3, a4⟩, -⟩ := hC.2.2.2
  exact ⟨hQ, hH, hC.2.2.1.ch hc (fun x hx => hL x (by revert x; decide)), ⟨h48, fun i hi' => absurd hi' (Nat.not_lt_zero i)⟩, ⟨(hc.g 50 (hL 50 (by decide))).trans a3, fun i hi' => (hc.g 51 (hL 51 (by decide))).trans (a4 i hi')⟩, h8, h0, h10⟩
theorem MI.wl {b : Bd} {h : Nat} {er sm : Int} {L : List Nat} (hX : XsOK X) (hM : MI X s) (hc : Ch L s t) (hQ : MP t b) (hH : HM t h X.H) (h8 : gi t 80 8 = 0) (h12 : gi t 80 12 = er) (h15 : gi t 80 15 = sm) (hL : ∀ x ∈ [83, 84, 99, 8035], x ∉ L := by decide) : MI (X.wl b h er sm) t := by
  obtain ⟨-, ⟨a3, a4⟩, -⟩ := hM.2.2.2
  exact ⟨hQ, hH, hM.2.2.1.ch hX.2.2.1 hc (hL 83 (by decide)) (hL 84 (by decide)), ⟨h8, fun i hi' => absurd hi' (Nat.not_lt_zero i)⟩, ⟨(hc.g8 35 (hL 8035 (by decide))).trans a3, fun i hi' => (hc.g 99 (hL 99 (by decide))).trans (a4 i hi')⟩, h12, h15⟩
end LOD
/-! ===== the start ===== -/
def X0 : Xs := Xs.mk (bgn 2) 0 (fun _ => bgn 2) (fun _ => none) 0 (fun _ => 0) 0 (fun _ => 0) 0 (-1)
theorem X0_ok : XsOK X0 := ⟨bgn_ok (by omega), fun i hi' => absurd hi' (Nat.not_lt_zero i), fun j b e => (nomatch (show (none : Option Bd) = some b from e)), Nat.zero_le _, fun i hi' => absurd hi' (Nat.not_lt_zero i), Nat.zero_le _, fun i hi' => absurd hi' (Nat.not_lt_zero i), ⟨Int.le_refl _, by decide⟩, ⟨Int.le_refl _, by decide⟩⟩
def LInv (s : Sg) : Prop := ∃ X, XsOK X ∧ X.h ≤ 8 ∧ CI X s ∧ MI X s ∧ ∀ k, R (gi s 1200 k)
section STA
variable {L : Nat} {xs : Nat → Int32} {z : Int32}
theorem S_z {a : Nat} (h : a < 1000) (k : Nat) : gi (sgS L xs z) a k = 0 := if_pos h
theorem S_r {a : Nat} (h : 1000 ≤ a ∧ a ≤ 1007) (k : Nat) : gi (sgS L xs z) a k = ((((rowV[a - 1000]?).getD [])[k]?).getD 0).toInt := by
  show (if a < 1000 then 0 else (oldV L xs z a k).toInt) = _
  rw [if_neg (by omega)]
  unfold oldV
  rw [if_neg (by omega), if_neg (by omega), if_neg (by omega), if_pos (by omega)]
theorem S_stat : Stat (sgS L xs z) := by
  refine ⟨fun j hj => ?_, fun j hj => ?_⟩
  · have k : ∀ j, j < 6 → ((((rowV[0]?).getD [])[j]?).getD 0).toInt = drow j ∧ ((((rowV[1]?).getD [])[j]?).getD 0).toInt = dcol j := by decide
    exact ⟨(S_r (by omega) j).trans (k j hj).1, (S_r (by omega) j).trans (k j hj).2⟩
  · have k : ∀ j, j < 3 → ((((rowV[2]?).getD [])[j]?).getD 0).toInt = frow j ∧ ((((rowV[3]?).getD [])[j]?).getD 0).toInt = fcol j ∧ ((((rowV[4]?).getD [])[j]?).getD 0).toInt = lrow j ∧ ((((rowV[5]?).getD [])[j]?).getD 0).toInt = lcol j ∧ ((((rowV[6]?).getD [])[j]?).getD 0).toInt = hrow j ∧ ((((rowV[7]?).getD [])[j]?).getD 0).toInt = hcol j := by decide
    exact ⟨(S_r (by omega) j).trans (k j hj).1, (S_r (by omega) j).trans (k j hj).2.1, (S_r (by omega) j).trans (k j hj).2.2.1, (S_r (by omega) j).trans (k j hj).2.2.2.1, (S_r (by omega) j).trans (k j hj).2.2.2.2.1, (S_r (by omega) j).trans (k j hj).2.2.2.2.2⟩
theorem S_sc (k : Nat) : R (gi (sgS L xs z) 1200 k) := by
  show R (if 1200 < 1000 then 0 else (oldV L xs z 1200 k).toInt)
  rw [if_neg (by omega)]
  have h1 := (oldV L xs z 1200 k).le_toInt
  have h2 := (oldV L xs z 1200 k).toInt_lt
  unfold R
  omega
end STA

