/-! ===== what both programs hold ===== -/
/-- the board, its history, the snapshots, the input, the output, the last error and its statement -/
def Xs : Type := Bd × Nat × (Nat → Bd) × (Nat → Option Bd) × Nat × (Nat → Int) × Nat × (Nat → Int) × Int × Int
def Xs.b (X : Xs) : Bd := X.1
def Xs.h (X : Xs) : Nat := X.2.1
def Xs.H (X : Xs) : Nat → Bd := X.2.2.1
def Xs.S (X : Xs) : Nat → Option Bd := X.2.2.2.1
def Xs.il (X : Xs) : Nat := X.2.2.2.2.1
def Xs.ib (X : Xs) : Nat → Int := X.2.2.2.2.2.1
def Xs.ol (X : Xs) : Nat := X.2.2.2.2.2.2.1
def Xs.ob (X : Xs) : Nat → Int := X.2.2.2.2.2.2.2.1
def Xs.er (X : Xs) : Int := X.2.2.2.2.2.2.2.2.1
def Xs.sm (X : Xs) : Int := X.2.2.2.2.2.2.2.2.2
def Xs.mk (b : Bd) (h : Nat) (H : Nat → Bd) (S : Nat → Option Bd) (il : Nat) (ib : Nat → Int) (ol : Nat) (ob : Nat → Int) (er sm : Int) : Xs := (b, h, H, S, il, ib, ol, ob, er, sm)
/-- another board, with its history -/
def Xs.wb (X : Xs) (b : Bd) (h : Nat) (H : Nat → Bd) : Xs := Xs.mk b h H X.S X.il X.ib X.ol X.ob X.er X.sm
def Xs.wS (X : Xs) (S : Nat → Option Bd) : Xs := Xs.mk X.b X.h X.H S X.il X.ib X.ol X.ob X.er X.sm
def Xs.wo (X : Xs) (ol : Nat) (ob : Nat → Int) : Xs := Xs.mk X.b X.h X.H X.S X.il X.ib ol ob X.er X.sm
def Xs.wi (X : Xs) (il : Nat) (ib : Nat → Int) : Xs := Xs.mk X.b X.h X.H X.S il ib X.ol X.ob X.er X.sm
def XsOK (X : Xs) : Prop := BdOK X.b ∧ (∀ i, i < X.h → BdOK (X.H i) ∧ (X.H i).n = X.b.n) ∧ (∀ j b, X.S j = some b → BdOK b) ∧ X.il ≤ 400 ∧ (∀ i, i < X.il → 1 ≤ X.ib i ∧ X.ib i ≤ 255) ∧ X.ol ≤ 9 ∧ (∀ i, i < X.ol → 0 ≤ X.ob i ∧ X.ob i ≤ 255) ∧ (0 ≤ X.er ∧ X.er ≤ 1000) ∧ (-1 ≤ X.sm ∧ X.sm ≤ 1000)
/-- a byte as the reference holds it -/
def sx (v : Int) : Int := if v < 128 then v else v - 256
def CSn (s : Sg) (S : Nat → Option Bd) : Prop := ∀ j, j < 2 → (S j = none → gi s (42 + 3 * j) 2 = 0) ∧ ∀ b, S j = some b → CP s (42 + 3 * j) b
def MSn (s : Sg) (S : Nat → Option Bd) : Prop := ∀ j, j < 2 → (S j = none → gi s 84 j = 0) ∧ ∀ b, S j = some b → gi s 84 j = 1 ∧ rec' (fun k => gi s 83 (286 * j + k)) b
def CTx (s : Sg) (X : Xs) : Prop := (gi s 48 1 = (X.il : Int) ∧ ∀ i, i < X.il → gi s 49 i = X.ib i) ∧ (gi s 50 1 = (X.ol : Int) ∧ ∀ i, i < X.ol → gi s 51 i = X.ob i) ∧ gi s 52 8 = X.er ∧ (X.er = 0 → X.sm = -1) ∧ (X.er ≠ 0 → gi s 52 10 = X.sm)
def MTx (s : Sg) (X : Xs) : Prop := (gi s 80 8 = (X.il : Int) ∧ ∀ i, i < X.il → gi s 86 i = sx (X.ib i)) ∧ (gi s 80 35 = (X.ol : Int) ∧ ∀ i, i < X.ol → gi s 99 i = X.ob i) ∧ gi s 80 12 = X.er ∧ gi s 80 15 = X.sm
def CI (X : Xs) (s : Sg) : Prop := CQ s X.b ∧ HC s X.h X.H ∧ CSn s X.S ∧ CTx s X
def MI (X : Xs) (s : Sg) : Prop := MP s X.b ∧ HM s X.h X.H ∧ MSn s X.S ∧ MTx s X
abbrev PC : List Nat := [1, 2, 3, 4, 10, 11, 12, 16, 18, 19, 20, 21, 22, 23, 24, 25, 26, 27, 28, 29, 30, 31, 32, 33, 34, 35, 36, 37, 38, 39, 40, 41, 42, 43, 44, 45, 46, 47, 48, 49, 50, 51, 52]
/-- beside the board and its history -/
abbrev PC2 : List Nat := [42, 43, 44, 45, 46, 47, 48, 49, 50, 51, 52]
abbrev PM2 : List Nat := [83, 84, 86, 99, 8008, 8035, 8012, 8015]
abbrev PM : List Nat := [81, 85, 8006, 83, 84, 86, 99, 8008, 8035, 8012, 8015]
/-- what is in the way only -/
abbrev LC : List Nat := [5, 6, 7, 8, 9, 13, 14, 15, 53, 54, 55, 56, 57, 58, 59, 60, 61, 62, 63, 64, 65, 66, 67, 68, 69, 70, 71, 72, 73, 74, 75, 76, 77, 78, 79]
abbrev LM : List Nat := [8000, 82, 87, 88, 89, 90, 91, 92, 93, 94, 95, 96, 97, 98, 8024, 8025, 8026, 8027]
section FRM
variable {s s' : Sg} {X : Xs}
theorem HC.ch {h : Nat} {H : Nat → Bd} {L : List Nat} (k : HC s h H) (hc : Ch L s s') (h16 : 16 ∉ L) (hs : ∀ j, j < 8 → 18 + 3 * j ∉ L ∧ 18 + 3 * j + 1 ∉ L ∧ 18 + 3 * j + 2 ∉ L) : HC s' h H := by
  obtain ⟨e1, e2, a, e3, e4, e5⟩ := k
  refine ⟨by rw [hc.g 16 h16]; exact e1, e2, a, by rw [hc.g 16 h16]; exact e3, e4, fun i hi' => ?_⟩
  have hj := hs ((a + i) % 8) (Nat.mod_lt _ (by omega))
  exact (e5 i hi').ch hc hj.1 hj.2.1 hj.2.2 (by omega)
theorem CSn.ch {S : Nat → Option Bd} {L : List Nat} (k : CSn s S) (hc : Ch L s s') (hs : ∀ x ∈ [42, 43, 44, 45, 46, 47], x ∉ L) : CSn s' S := by
  intro j hj
  have h0 : 42 + 3 * j ∉ L ∧ 42 + 3 * j + 1 ∉ L ∧ 42 + 3 * j + 2 ∉ L := by
    have : j = 0 ∨ j = 1 := by omega
    rcases this with rfl | rfl
    · exact ⟨hs 42 (by decide), hs 43 (by decide), hs 44 (by decide)⟩
    · exact ⟨hs 45 (by decide), hs 46 (by decide), hs 47 (by decide)⟩
  exact ⟨fun e => by rw [hc.g _ h0.1 (by omega)]; exact (k j hj).1 e, fun b e => ((k j hj).2 b e).ch hc h0.1 h0.2.1 h0.2.2 (by omega)⟩
theorem CTx.ch {L : List Nat} (k : CTx s X) (hc : Ch L s s') (hs : ∀ x ∈ [48, 49, 50, 51, 52], x ∉ L) : CTx s' X := by
  obtain ⟨⟨a1, a2⟩, ⟨a3, a4⟩, a5, a6, a7⟩ := k
  have g : ∀ o k, o ∈ [48, 49, 50, 51, 52] → gi s' o k = gi s o k := fun o k ho => hc.g o (hs o ho) (by rintro rfl; exact absurd ho (by decide))
  exact ⟨⟨(g 48 1 (by decide)).trans a1, fun i hi' => (g 49 i (by decide)).trans (a2 i hi')⟩, ⟨(g 50 1 (by decide)).trans a3, fun i hi' => (g 51 i (by decide)).trans (a4 i hi')⟩, (g 52 8 (by decide)).trans a5, a6, fun e => (g 52 10 (by decide)).trans (a7 e)⟩
theorem MSn.ch {S : Nat → Option Bd} {L : List Nat} (hS : ∀ j b, S j = some b → BdOK b) (k : MSn s S) (hc : Ch L s s') (h1 : 83 ∉ L) (h2 : 84 ∉ L) : MSn s' S := by
  intro j hj
  refine ⟨fun e => by rw [hc.g 84 h2]; exact (k j hj).1 e, fun b e => ⟨by rw [hc.g 84 h2]; exact ((k j hj).2 b e).1, rec_congr (hS j b e) (fun i _ => ?_) ((k j hj).2 b e).2⟩⟩
  show gi s' 83 _ = gi s 83 _
  exact hc.g 83 h1
theorem MTx.ch {L : List Nat} (k : MTx s X) (hc : Ch L s s') (hs : ∀ x ∈ [86, 99, 8008, 8035, 8012, 8015], x ∉ L) : MTx s' X := by
  obtain ⟨⟨a1, a2⟩, ⟨a3, a4⟩, a5, a6⟩ := k
  exact ⟨⟨(hc.g8 8 (hs 8008 (by decide))).trans a1, fun i hi' => (hc.g 86 (hs 86 (by decide))).trans (a2 i hi')⟩, ⟨(hc.g8 35 (hs 8035 (by decide))).trans a3, fun i hi' => (hc.g 99 (hs 99 (by decide))).trans (a4 i hi')⟩, (hc.g8 12 (hs 8012 (by decide))).trans a5, (hc.g8 15 (hs 8015 (by decide))).trans a6⟩
theorem HM.ch {h : Nat} {H : Nat → Bd} {L : List Nat} (hH : ∀ i, i < h → BdOK (H i)) (k : HM s h H) (hc : Ch L s s') (h1 : 8006 ∉ L) (h2 : 85 ∉ L) : HM s' h H := by
  obtain ⟨e1, e2, e3⟩ := k
  refine ⟨(hc.g8 6 h1).trans e1, e2, fun i hi' => rec_congr (hH i hi') (fun k _ => ?_) (e3 i hi')⟩
  show gi s' 85 _ = gi s 85 _
  exact hc.g 85 h2
theorem CI.ch {L : List Nat} (k : CI X s) (hc : Ch L s s') (hL : ∀ x ∈ PC, x ∉ L := by decide) (hS : ∀ x ∈ L, x < 1000 := by decide) : CI X s' :=
  ⟨k.1.ch hc (fun x hx => hL x (by revert x; decide)) hS, k.2.1.ch hc (hL 16 (by decide)) (fun j hj => ⟨hL _ (by revert j; decide), hL _ (by revert j; decide), hL _ (by revert j; decide)⟩), k.2.2.1.ch hc (fun x hx => hL x (by revert x; decide)), k.2.2.2.ch hc (fun x hx => hL x (by revert x; decide))⟩
theorem MI.ch {L : List Nat} (hX : XsOK X) (k : MI X s) (hc : Ch L s s') (hL : ∀ x ∈ PM, x ∉ L := by decide) : MI X s' :=
  ⟨k.1.ch hc (hL 81 (by decide)), k.2.1.ch (fun i hi' => (hX.2.1 i hi').1) hc (hL 8006 (by decide)) (hL 85 (by decide)), k.2.2.1.ch hX.2.2.1 hc (hL 83 (by decide)) (hL 84 (by decide)), k.2.2.2.ch hc (fun x hx => hL x (by revert x; decide))⟩
/-- what a call of the class, of the reference leaves -/
def CF (s s' : Sg) : Prop := ∀ o k, 80 ≤ o → gi s' o k = gi s o k
def MF (s s' : Sg) : Prop := (∀ o k, o < 80 ∨ (100 ≤ o ∧ o < 8000) → gi s' o k = gi s o k) ∧ (∀ b j, ¬ (b = 80 ∧ j = 33) → gl s' b j = gl s b j) ∧ s'.2.2 = s.2.2
theorem CF.rf (s : Sg) : CF s s := fun _ _ _ => rfl
theorem CF.tr {s1 : Sg} (h1 : CF s s1) (h2 : CF s1 s') : CF s s' := fun o k ho => (h2 o k ho).trans (h1 o k ho)
theorem MF.rf (s : Sg) : MF s s := ⟨fun _ _ _ => rfl, fun _ _ _ => rfl, rfl⟩
theorem MF.tr {s1 : Sg} (h1 : MF s s1) (h2 : MF s1 s') : MF s s' := ⟨fun o k ho => (h2.1 o k ho).trans (h1.1 o k ho), fun b j hb => (h2.2.1 b j hb).trans (h1.2.1 b j hb), h2.2.2.trans h1.2.2⟩
theorem Ch.cf {L : List Nat} (h : Ch L s s') (hL : ∀ x ∈ L, x < 80 := by decide) : CF s s' := by
  intro o k ho
  refine h.1 o k fun q => ?_
  have := hL _ q
  unfold ky at this
  split at this <;> omega
theorem Cl.mf {L : List Nat} (h : Cl L s s') (hL : ∀ x ∈ L, (80 < x ∧ x < 100) ∨ 8000 ≤ x := by decide) : MF s s' := by
  refine ⟨fun o k ho => h.1 o k fun q => ?_, h.2.1, h.2.2⟩
  have h1 := hL _ q
  unfold ky at h1
  split at h1 <;> omega
theorem Ch.mf {L : List Nat} (h : Ch L s s') (hL : ∀ x ∈ L, (80 < x ∧ x < 100) ∨ 8000 ≤ x := by decide) : MF s s' := h.cl.mf hL
/-- a change of the class leaves the reference's side, and the other way round -/
theorem MI.cf (hX : XsOK X) (k : MI X s) (h : CF s s') : MI X s' := by
  have hc : Ch (List.range 80) s (s'.1, s.2) := ⟨fun o k ho => by
    show gi s' o k = _
    refine h o k ?_
    unfold ky at ho
    split at ho
    · omega
    · have := mt List.mem_range.mpr ho
      omega, rfl⟩
  have k2 : MI X (s'.1, s.2) := k.ch hX hc (by decide)
  exact k2
theorem CI.mf (k : CI X s) (h : MF s s') : CI X s' := by
  have g : ∀ o k, o < 80 ∨ (100 ≤ o ∧ o < 8000) → gi s' o k = gi s o k := h.1
  have hc : Ch ((List.range 20).map (· + 80)) s (fun o k => if o < 80 ∨ (100 ≤ o ∧ o < 8000) then gi s' o k else gi s o k, s.2) := ⟨fun o k ho => by
    show (if o < 80 ∨ (100 ≤ o ∧ o < 8000) then gi s' o k else gi s o k) = _
    split
    · exact g o k ‹_›
    · rfl, rfl⟩
  have k2 : CI X (fun o k => if o < 80 ∨ (100 ≤ o ∧ o < 8000) then gi s' o k else gi s o k, s.2) := k.ch hc (by decide) (by decide)
  obtain ⟨⟨a1, a2, a3⟩, a4, a5, a6⟩ := k2
  have e : ∀ o k, o < 80 ∨ (100 ≤ o ∧ o < 8000) → gi (fun o k => if o < 80 ∨ (100 ≤ o ∧ o < 8000) then gi s' o k else gi s o k, s.2) o k = gi s' o k := fun o k ho => if_pos ho
  have cp : ∀ p b, p < 78 → CP (fun o k => if o < 80 ∨ (100 ≤ o ∧ o < 8000) then gi s' o k else gi s o k, s.2) p b → CP s' p b := fun p b hp ⟨q1, q2, q3, q4, q5, q6, q7⟩ => ⟨(e p 2 (by omega)).symm.trans q1, (e p 3 (by omega)).symm.trans q2, (e p 4 (by omega)).symm.trans q3, (e p 5 (by omega)).symm.trans q4, (e p 6 (by omega)).symm.trans q5, fun c hc => (e (p + 1) c (by omega)).symm.trans (q6 c hc), fun i hi' => (e (p + 2) i (by omega)).symm.trans (q7 i hi')⟩
  refine ⟨⟨?_, ?_, cp 10 _ (by omega) a3⟩, ?_, ?_, ?_⟩
  · obtain ⟨q1, q2, q3, q4, q5, q6, q7⟩ := a1
    exact ⟨q1, q2, (e 1 3 (by omega)).symm.trans q3, (e 1 4 (by omega)).symm.trans q4, fun c hc => (e 3 c (by omega)).symm.trans (q5 c hc), fun c hc => (e 4 c (by omega)).symm.trans (q6 c hc), fun c hc j hj => (e 2 _ (by omega)).symm.trans (q7 c hc j hj)⟩
  · exact ⟨fun j hj => ⟨(e _ j (by omega)).symm.trans (a2.1 j hj).1, (e _ j (by omega)).symm.trans (a2.1 j hj).2⟩, fun j hj => ⟨(e _ j (by omega)).symm.trans (a2.2 j hj).1, (e _ j (by omega)).symm.trans (a2.2 j hj).2.1, (e _ j (by omega)).symm.trans (a2.2 j hj).2.2.1, (e _ j (by omega)).symm.trans (a2.2 j hj).2.2.2.1, (e _ j (by omega)).symm.trans (a2.2 j hj).2.2.2.2.1, (e _ j (by omega)).symm.trans (a2.2 j hj).2.2.2.2.2⟩⟩
  · obtain ⟨q1, q2, a, q3, q4, q5⟩ := a4
    exact ⟨(e 16 2 (by omega)).symm.trans q1, q2, a, (e 16 1 (by omega)).symm.trans q3, q4, fun i hi' => cp _ _ (by omega) (q5 i hi')⟩
  · exact fun j hj => ⟨fun z => (e _ 2 (by omega)).symm.trans ((a5 j hj).1 z), fun b z => cp _ _ (by omega) ((a5 j hj).2 b z)⟩
  · obtain ⟨⟨q1, q2⟩, ⟨q3, q4⟩, q5, q6, q7⟩ := a6
    exact ⟨⟨(e 48 1 (by omega)).symm.trans q1, fun i hi' => (e 49 i (by omega)).symm.trans (q2 i hi')⟩, ⟨(e 50 1 (by omega)).symm.trans q3, fun i hi' => (e 51 i (by omega)).symm.trans (q4 i hi')⟩, (e 52 8 (by omega)).symm.trans q5, q6, fun z => (e 52 10 (by omega)).symm.trans (q7 z)⟩
theorem CI.eq (k : CI X s) (h : s'.1 = s.1) : CI X s' := k.mf (s' := (s.1, s.2)) (MF.rf s) |> fun k => by
  obtain ⟨a, b⟩ := s'
  obtain ⟨c, d⟩ := s
  have h : a = c := h
  subst h
  exact k
end FRM

