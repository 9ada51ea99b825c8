/-! ===== bridges that count share no carrier ===== -/
def car (st : BL) (i x : Nat) : Prop := eCa st i = (x : Int) ∨ eCb st i = (x : Int)
def ctd (st : BL) (m x : Nat) : Prop := ∃ i, i < m ∧ (eCt st i = 1 ∧ car st i x)
def BT (st : BL) : Prop := (∀ x, st.2.2 x = bI (ctd st st.1 x)) ∧ ∀ i, i < st.1 → (eCt st i = 1 ↔ ∀ x, car st i x → ¬ ctd st i x)
theorem bI_z {p : Prop} : bI p = 0 ↔ ¬ p := ⟨fun z w => absurd ((bI_t w).symm.trans z) (by decide), bI_f⟩
theorem BT.add {st : BL} (h : BT st) {k o : Int} {l g : Nat} : BT (addB k o (l : Int) (g : Int) st) := by
  obtain ⟨h1, h2⟩ := h
  have old : ∀ i, i < st.1 → (addB k o (l : Int) (g : Int) st).2.1 i = st.2.1 i := fun i hi => if_neg (by omega)
  have new : (addB k o (l : Int) (g : Int) st).2.1 st.1 = (k, o, (l : Int), (g : Int), if st.2.2 (l : Int).toNat = 0 ∧ st.2.2 (g : Int).toNat = 0 then 1 else 0) := if_pos rfl
  have oct : ∀ i, i < st.1 → eCt (addB k o (l : Int) (g : Int) st) i = eCt st i := fun i hi => by unfold eCt; rw [old i hi]
  have ocar : ∀ i x, i < st.1 → (car (addB k o (l : Int) (g : Int) st) i x ↔ car st i x) := fun i x hi => by unfold car eCa eCb; rw [old i hi]
  have octd : ∀ m x, m ≤ st.1 → (ctd (addB k o (l : Int) (g : Int) st) m x ↔ ctd st m x) := fun m x hm =>
    ⟨fun ⟨i, hi, q1, q2⟩ => ⟨i, hi, (oct i (by omega)).symm.trans q1, (ocar i x (by omega)).mp q2⟩, fun ⟨i, hi, q1, q2⟩ => ⟨i, hi, (oct i (by omega)).trans q1, (ocar i x (by omega)).mpr q2⟩⟩
  have ncar : ∀ x, car (addB k o (l : Int) (g : Int) st) st.1 x ↔ x = l ∨ x = g := fun x => by
    unfold car eCa eCb
    rw [new]
    show ((l : Int) = (x : Int) ∨ (g : Int) = (x : Int)) ↔ _
    omega
  have cnd : (st.2.2 l = 0 ∧ st.2.2 g = 0) ↔ (¬ ctd st st.1 l ∧ ¬ ctd st st.1 g) := by rw [h1 l, h1 g, bI_z, bI_z]
  have nct : eCt (addB k o (l : Int) (g : Int) st) st.1 = 1 ↔ ¬ ctd st st.1 l ∧ ¬ ctd st st.1 g := by
    unfold eCt
    rw [new]
    show (if st.2.2 l = 0 ∧ st.2.2 g = 0 then (1 : Int) else 0) = 1 ↔ _
    rw [← cnd]
    by_cases q : st.2.2 l = 0 ∧ st.2.2 g = 0
    · rw [if_pos q]; exact ⟨fun _ => q, fun _ => rfl⟩
    · rw [if_neg q]; exact ⟨fun z => absurd z (by decide), fun z => absurd z q⟩
  refine ⟨fun x => ?_, fun i hi => ?_⟩
  · show (if (st.2.2 l = 0 ∧ st.2.2 g = 0) ∧ (x = l ∨ x = g) then (1 : Int) else st.2.2 x) = bI (ctd (addB k o (l : Int) (g : Int) st) (st.1 + 1) x)
    have e : ctd (addB k o (l : Int) (g : Int) st) (st.1 + 1) x ↔ ctd st st.1 x ∨ ((¬ ctd st st.1 l ∧ ¬ ctd st st.1 g) ∧ (x = l ∨ x = g)) := by
      rw [← octd st.1 x (Nat.le_refl _), ← nct, ← ncar x]
      exact exs_s (fun i => eCt (addB k o (l : Int) (g : Int) st) i = 1 ∧ car (addB k o (l : Int) (g : Int) st) i x) st.1
    rw [← cnd] at e
    rw [propext e]
    by_cases q : (st.2.2 l = 0 ∧ st.2.2 g = 0) ∧ (x = l ∨ x = g)
    · rw [if_pos q, bI_t (Or.inr q)]
    · rw [if_neg q, h1 x]
      by_cases q2 : ctd st st.1 x
      · rw [bI_t q2, bI_t (Or.inl q2)]
      · rw [bI_f q2, bI_f fun z => z.elim q2 q]
  · by_cases q : i = st.1
    · rw [q, nct]
      constructor
      · rintro ⟨q1, q2⟩ x hx hc
        rw [octd st.1 x (Nat.le_refl _)] at hc
        rcases (ncar x).mp hx with e | e
        · exact q1 (e ▸ hc)
        · exact q2 (e ▸ hc)
      · intro z
        exact ⟨fun w => z l ((ncar l).mpr (Or.inl rfl)) ((octd st.1 l (Nat.le_refl _)).mpr w), fun w => z g ((ncar g).mpr (Or.inr rfl)) ((octd st.1 g (Nat.le_refl _)).mpr w)⟩
    · have hi2 : i < st.1 := by
        have : i < st.1 + 1 := hi
        omega
      rw [oct i hi2, h2 i hi2]
      exact ⟨fun z x hx hc => z x ((ocar i x hi2).mp hx) ((octd i x (by omega)).mp hc), fun z x hx hc => z x ((ocar i x hi2).mpr hx) ((octd i x (by omega)).mpr hc)⟩
theorem stepJ_t {n k j : Nat} {f : Nat → Int} {st : BL} (hk : k < n * n) (hj : j < 3) (h : BT st) : BT (stepJ n f k st j) := by
  unfold stepJ
  by_cases hc : cellC n f k j
  · rw [if_pos hc]
    obtain ⟨i, l, g, e1, e2, e3, -⟩ := cellC_w hk hj hc
    rw [e1, e2, e3]
    exact h.add
  · rw [if_neg hc]
    exact h
theorem stepE_t {n k e : Nat} {f : Nat → Int} {sd : Int} {st : BL} (hn : 2 ≤ n) (hk : k < n * n) (he : e < 2) (h : BT st) : BT (stepE n f sd k st e) := by
  unfold stepE
  by_cases hc : edgC n f sd k e
  · rw [if_pos hc]
    obtain ⟨l, g, h1, h2, e1, e2⟩ := (ebr_two hn hk he hc.1).2 hc.2.1
    rw [e1, e2]
    exact h.add
  · rw [if_neg hc]
    exact h
theorem brl_t {n : Nat} {f : Nat → Int} {sd : Int} (hn : 2 ≤ n) : ∀ k, k ≤ n * n → BT (brl n f sd k)
  | 0, _ => ⟨fun x => (bI_f fun ⟨i, hi, _⟩ => absurd hi (Nat.not_lt_zero i)).symm, fun i hi => absurd hi (Nat.not_lt_zero i)⟩
  | k + 1, hk => by
    have ih := brl_t (n := n) (f := f) (sd := sd) hn k (by omega)
    have hkn : k < n * n := by omega
    show BT (cellS n f sd (brl n f sd k) k)
    unfold cellS
    by_cases fk : f k = sd
    · rw [if_pos fk]
      exact stepE_t hn hkn (by omega) (stepE_t hn hkn (by omega) (stepJ_t hkn (by omega) (stepJ_t hkn (by omega) (stepJ_t hkn (by omega) ih))))
    · rw [if_neg fk]
      exact ih
section BRD
variable {X : Xs} {s : Sg} {sd : Int} {nx : Nat}
noncomputable def bsX (X : Xs) (sd : Int) : BL := brs X.b.n X.b.f sd
/-- two of one group that aren't neighbours: a third is between them -/
theorem gsz_three {n : Nat} {f : Nat → Int} {a b : Nat} (ha : a < n * n) (hab : a ≠ b) (hA : ¬ Adj n a b) (h : Rch (Eb n f) a b) : 3 ≤ gsz n f a := by
  have hb := Eb_in ha h
  have key : b = a ∨ ∃ y, y ≠ a ∧ y ≠ b ∧ Rch (Eb n f) a y := by
    refine (h (fun z => Rch (Eb n f) a z ∧ (z = a ∨ ∃ y, y ≠ a ∧ y ≠ b ∧ Rch (Eb n f) a y)) ⟨Rch.rf _ _, Or.inl rfl⟩ ?_).2
    rintro u v ⟨h1, h2⟩ e
    refine ⟨h1.st e, ?_⟩
    rcases h2 with h2 | h2
    · by_cases q : v = a
      · exact Or.inl q
      · refine Or.inr ⟨v, q, fun z => hA ?_, h1.st e⟩
        rw [← h2, ← z]
        exact e.2.2.2.2
    · exact Or.inr h2
  obtain ⟨y, q1, q2, hy⟩ := key.resolve_left fun z => hab z.symm
  have hyn := Eb_in ha hy
  have c1 := cnt_add (p := fun x => Rch (Eb n f) a x ∧ x ≠ a) (q := fun x => Rch (Eb n f) a x) (j := a) (fun z => z.2 rfl) (Rch.rf _ _) ha fun i _ hi => ⟨fun z => z.1, fun z => ⟨z, hi⟩⟩
  have c2 := cnt_add (p := fun x => (Rch (Eb n f) a x ∧ x ≠ a) ∧ x ≠ b) (q := fun x => Rch (Eb n f) a x ∧ x ≠ a) (j := b) (fun z => z.2 rfl) ⟨h, fun z => hab z.symm⟩ hb.1 fun i _ hi => ⟨fun z => z.1, fun z => ⟨z, hi⟩⟩
  have c3 := cnt_pos (p := fun x => (Rch (Eb n f) a x ∧ x ≠ a) ∧ x ≠ b) hyn.1 ⟨⟨hy, q1⟩, q2⟩
  unfold gsz
  omega
/-- a carrier of a bridge that counts: the other one answers -/
theorem ocr_at {st : BL} (hT : BT st) {i l g : Nat} (hi : i < st.1) (h1 : eCt st i = 1) (el : eCa st i = (l : Int)) (eg : eCb st i = (g : Int)) (hlg : l < g) : ocr st (l : Int) = (g : Int) ∧ ocr st (g : Int) = (l : Int) := by
  have hn := (hT.2 i hi).mp h1
  have k1 : fst1 (fun j => eCt st j = 1 ∧ (eCa st j = (l : Int) ∨ eCb st j = (l : Int))) st.1 = i := fst1_k hi ⟨h1, Or.inl el⟩ fun j hj z => hn l (Or.inl el) ⟨j, hj, z⟩
  have k2 : fst1 (fun j => eCt st j = 1 ∧ (eCa st j = (g : Int) ∨ eCb st j = (g : Int))) st.1 = i := fst1_k hi ⟨h1, Or.inr eg⟩ fun j hj z => hn g (Or.inr eg) ⟨j, hj, z⟩
  unfold ocr
  rw [k1, k2, if_pos hi, if_pos hi, if_pos el, if_neg (by rw [el]; omega)]
  exact ⟨eg, el⟩
/-- within the loop: the law's marks are the carriers of the first b that count -/
def MkI (X : Xs) (s : Sg) (nx : Nat) (sd : Int) (b : Nat) (t : Sg) : Prop := CI X t ∧ (∀ o k, 80 ≤ o → o ≠ nx → gi t o k = gi s o k) ∧ ∀ x, x < 81 → gi t nx x = bI (ctd (bsX X sd) b x)
theorem MkI.q {b : Nat} {t u : Sg} (hnx : 80 < nx) (h : MkI X s nx sd b t) (hu : Ch LC t u) : MkI X s nx sd b u :=
  have hcf : CF t u := hu.cf
  ⟨h.1.ch hu, fun o k h1 h2 => (hcf o k h1).trans (h.2.1 o k h1 h2), fun x hx => (hcf nx x (by omega)).trans (h.2.2 x hx)⟩
theorem CI.sln {t : Sg} (h : CI X t) (hnx : 80 < nx ∧ nx < 1000) (k : Nat) (v : Int) : CI X (si t nx k v) :=
  h.ch (L := [nx]) (Ch.si (by simp) (by omega)) (fun x hx => by
    have : ∀ x ∈ PC, x < 80 := by decide
    have := this x hx
    simp
    omega) (fun x hx => by simp at hx; omega)
def BOut (X : Xs) (s : Sg) (nx : Nat) (sd : Int) (b : Nat) (o : (Int × Sg) ⊕ Sg) : Prop := ∃ u, o = .inl (((b + 1 : Nat) : Int), u) ∧ MkI X s nx sd (b + 1) u
section ONE
variable {b : Nat} {t : Sg}
theorem brd_286 {x3 : Int} (h : MkI X s nx sd (b + 1) t) : okP (La_bridges_b286 sd nx x3 (b : Int) t) (BOut X s nx sd b) := okP_some ⟨t, by rw [show ((b + 1 : Nat) : Int) = (b : Int) + 1 by omega], h⟩
theorem brd_262 (hX : XsOK X) (h : sd = 0 ∨ sd = 1) (hnx : 80 < nx ∧ nx < 1000) (hb : b < (bsX X sd).1) (h1 : eCt (bsX X sd) b = 1) {x3 : Int} (hM : MkI X s nx sd (b + 1) t) : okP (La_bridges_b262 sd nx x3 (b : Int) ((eLow (bsX X sd) b : Nat) : Int) (eOth (bsX X sd) b) t) (BOut X s nx sd b) := by
  have h81 := nn_le hX.n9
  have hbw := brs_w (f := X.b.f) (sd := sd) hX.1.1
  have hE : Ein X.b.n X.b.f (Ech X.b.n X.b.f sd) := Ein_Ech hX.1.1
  obtain ⟨-, k2, k3⟩ := hbw.1.low hb
  have k2 : eLow (bsX X sd) b < X.b.n * X.b.n := k2
  have k3 : X.b.f (eLow (bsX X sd) b) = sd := k3
  unfold La_bridges_b262
  have hR : R (eOth (bsX X sd) b) := hbw.1.othR hX.n9 hb
  rcases hbw.1.oth hb with ⟨o, e, ho, hfo, -⟩ | e
  · have e : eOth (bsX X sd) b = (o : Int) := e
    rw [e]
    refine okP_ifLt (R_nat (by omega)) R0 (fun z => absurd z (by omega)) fun _ => ?_
    refine bndrQ (qlabC hX k2 k3 h hM.1) fun u hu => ?_
    have hMu := hM.q hnx.1 hu
    have hl : lab (Ech X.b.n X.b.f sd) (eLow (bsX X sd) b) = lab (Ech X.b.n X.b.f sd) o := lab_eq hE.1 (Rch.one (Or.inr ⟨b, hb, h1, o, e, Or.inl ⟨rfl, rfl⟩⟩))
    have q2 := qlabC hX ho hfo h hMu.1
    rw [← hl] at q2
    refine bndrQ q2 fun v hv => ?_
    have hle := lab_le (Ech X.b.n X.b.f sd) (eLow (bsX X sd) b)
    exact okP_ifEq (R_nat (by omega)) (R_nat (by omega)) (fun _ => brd_286 (hMu.q hnx.1 hv)) fun z => absurd rfl z
  · have e : eOth (bsX X sd) b = -10 ∨ eOth (bsX X sd) b = -11 := e
    exact okP_ifLt hR R0 (fun _ => brd_286 hM) fun z => absurd (by omega) z
theorem brd_204 (hX : XsOK X) (h : sd = 0 ∨ sd = 1) (hnx : 80 < nx ∧ nx < 1000) (hb : b < (bsX X sd).1) {l g : Nat} (el : eCa (bsX X sd) b = (l : Int)) (eg : eCb (bsX X sd) b = (g : Int)) (hlg : l < g) (hg : g < X.b.n * X.b.n) {x3 : Int} (hM : MkI X s nx sd b t) : okP (La_bridges_b204 sd nx x3 (b : Int) ((eLow (bsX X sd) b : Nat) : Int) (eOth (bsX X sd) b) (l : Int) (g : Int) (eCt (bsX X sd) b) (eCt (bsX X sd) b) t) (BOut X s nx sd b) := by
  have h81 := nn_le hX.n9
  have hbw := brs_w (f := X.b.f) (sd := sd) hX.1.1
  have hBT : BT (bsX X sd) := brl_t hX.1.1.1 _ (Nat.le_refl _)
  have hct : eCt (bsX X sd) b = 0 ∨ eCt (bsX X sd) b = 1 := hbw.1.ct hb
  have hctR : R (eCt (bsX X sd) b) := hbw.1.ctR hb
  unfold La_bridges_b204
  refine okP_ifEq hctR hctR (fun _ => ?_) fun z => absurd rfl z
  refine okP_ifEq hctR R0 (fun q => ?_) fun q => ?_
  · refine brd_286 ⟨hM.1, hM.2.1, fun x hx => ?_⟩
    rw [hM.2.2 x hx]
    exact (bI_up (p := fun i => eCt (bsX X sd) i = 1 ∧ car (bsX X sd) i x) fun z => absurd (q.symm.trans z.1) (by decide)).symm
  · have h1 : eCt (bsX X sd) b = 1 := hct.resolve_left q
    refine okP_grd ⟨by omega, by omega⟩ ?_
    rw [lett_eq]
    refine okP_grd ⟨by omega, by omega⟩ ?_
    rw [lett_eq]
    show okP (bndr (Hx_size 5 (si (si t nx l 1) nx g 1)) _) _
    have hM2 : MkI X s nx sd (b + 1) (si (si t nx l 1) nx g 1) := by
      refine ⟨(hM.1.sln hnx l 1).sln hnx g 1, fun o k ho hn => ?_, fun x hx => ?_⟩
      · rw [gi_si_o _ _ _ _ hn, gi_si_o _ _ _ _ hn]
        exact hM.2.1 o k ho hn
      · have e : ctd (bsX X sd) (b + 1) x ↔ ctd (bsX X sd) b x ∨ (eCt (bsX X sd) b = 1 ∧ car (bsX X sd) b x) := exs_s (fun i => eCt (bsX X sd) i = 1 ∧ car (bsX X sd) i x) b
        rw [gi_si_r, gi_si_r, hM.2.2 x hx, propext e]
        have ec : car (bsX X sd) b x ↔ x = l ∨ x = g := by
          unfold car
          rw [el, eg]
          omega
        by_cases q1 : x = g
        · rw [if_pos q1, bI_t (Or.inr ⟨h1, ec.mpr (Or.inr q1)⟩)]
        · rw [if_neg q1]
          by_cases q2 : x = l
          · rw [if_pos q2, bI_t (Or.inr ⟨h1, ec.mpr (Or.inl q2)⟩)]
          · rw [if_neg q2]
            by_cases q3 : ctd (bsX X sd) b x
            · rw [bI_t q3, bI_t (Or.inl q3)]
            · rw [bI_f q3, bI_f fun z => z.elim q3 fun w => (ec.mp w.2).elim q2 q1]
    refine bndrQ (cq_size5 hX hM2.1) fun u hu => ?_
    have hMu := hM2.q hnx.1 hu
    have ht01 := hX.1.2.2.2.1
    refine okP_ifEq (R_01 ht01) (R_01 h) (fun _ => brd_262 hX h hnx hb h1 hMu) fun q5 => ?_
    have e5 : 1 - X.b.t = sd := by omega
    obtain ⟨o1, o2⟩ := ocr_at hBT hb h1 el eg hlg
    have qa : ∀ {c d : Nat} {t : Sg}, c < X.b.n * X.b.n → ocr (bsX X sd) (c : Int) = (d : Int) → CI X t → okP (Hx_answer (c : Int) t) (fun o => Ch LC t o.2 ∧ o.1 = .inr (d : Int)) := fun {c d t} hc ho hCt => by
      have q := cq_answer hX (R_nat (show c ≤ 2147483647 by omega)) hc hCt
      rw [e5, show ocr (brs X.b.n X.b.f sd) (c : Int) = (d : Int) from ho] at q
      exact q
    refine bndrQ (qa (by omega) o1 hMu.1) fun v hv => ?_
    have hMv := hMu.q hnx.1 hv
    refine okP_ifEq (R_nat (by omega)) (R_nat (by omega)) (fun _ => ?_) fun z => absurd rfl z
    refine bndrQ (qa hg o2 hMv.1) fun w hw => ?_
    exact okP_ifEq (R_nat (by omega)) (R_nat (by omega)) (fun _ => brd_262 hX h hnx hb h1 (hMv.q hnx.1 hw)) fun z => absurd rfl z
theorem brd_166 (hX : XsOK X) (h : sd = 0 ∨ sd = 1) (hnx : 80 < nx ∧ nx < 1000) (hb : b < (bsX X sd).1) {l g : Nat} (el : eCa (bsX X sd) b = (l : Int)) (eg : eCb (bsX X sd) b = (g : Int)) (hlg : l < g) (hg : g < X.b.n * X.b.n) {x3 : Int} (hM : MkI X s nx sd b t) : okP (La_bridges_b166 sd nx x3 (b : Int) ((eLow (bsX X sd) b : Nat) : Int) (eOth (bsX X sd) b) (l : Int) (g : Int) t) (BOut X s nx sd b) := by
  have h81 := nn_le hX.n9
  have hbw := brs_w (f := X.b.f) (sd := sd) hX.1.1
  have hm : (bsX X sd).1 ≤ 405 := hbw.2
  have hBT : BT (bsX X sd) := brl_t hX.1.1.1 _ (Nat.le_refl _)
  have hct : eCt (bsX X sd) b = 0 ∨ eCt (bsX X sd) b = 1 := hbw.1.ct hb
  have hctR : R (eCt (bsX X sd) b) := hbw.1.ctR hb
  have ec : ∀ x, car (bsX X sd) b x ↔ x = l ∨ x = g := fun x => by
    unfold car
    rw [el, eg]
    omega
  have k185 : ∀ t0 u, MkI X s nx sd b u → t0 = eCt (bsX X sd) b → okP (La_bridges_b185 sd nx x3 (b : Int) ((eLow (bsX X sd) b : Nat) : Int) (eOth (bsX X sd) b) (l : Int) (g : Int) t0 u) (BOut X s nx sd b) := by
    intro t0 u hu e
    have q4 := cq_bridge hX (w := 4) (R_01 h) (R_nat (show b ≤ 2147483647 by omega)) (by unfold R; omega) h ⟨by omega, by omega⟩ hb hu.1
    rw [if_neg (by omega), if_neg (by omega), if_neg (by omega), if_neg (by omega)] at q4
    have q4 : okP (Hx_bridge sd (b : Int) 4 u) (fun o => Ch LC u o.2 ∧ o.1 = .inr (eCt (bsX X sd) b)) := q4
    rw [e]
    unfold La_bridges_b185
    refine bndrQ q4 fun v hv => ?_
    have hMv := hu.q hnx.1 hv
    have k := brd_204 hX h hnx hb el eg hlg hg (x3 := x3) hMv
    refine okP_ifEq hctR R1 (fun q => ?_) fun q => ?_
    · have k2 := k
      rw [q] at k2 ⊢
      exact k2
    · have k2 := k
      have q0 := hct.resolve_right q
      rw [q0] at k2 ⊢
      exact k2
  have hnot : ¬ (¬ ctd (bsX X sd) b l ∧ ¬ ctd (bsX X sd) b g) → okP (La_bridges_b184 sd nx x3 (b : Int) ((eLow (bsX X sd) b : Nat) : Int) (eOth (bsX X sd) b) (l : Int) (g : Int) t) (BOut X s nx sd b) := fun q => by
    unfold La_bridges_b184
    refine k185 0 t hM (hct.resolve_right fun z => q ?_).symm
    have := (hBT.2 b hb).mp z
    exact ⟨this l ((ec l).mpr (Or.inl rfl)), this g ((ec g).mpr (Or.inr rfl))⟩
  have gl1 : gi t nx l = bI (ctd (bsX X sd) b l) := hM.2.2 l (by omega)
  have gg1 : gi t nx g = bI (ctd (bsX X sd) b g) := hM.2.2 g (by omega)
  unfold La_bridges_b166
  refine okP_grd ⟨by omega, by omega⟩ ?_
  show okP (ifEq (gi t nx l) 0 _ _) _
  rw [gl1]
  refine okP_ifEq (R_bI _) R0 (fun q1 => ?_) fun q1 => hnot fun z => q1 (bI_z.mpr z.1)
  refine okP_grd ⟨by omega, by omega⟩ ?_
  show okP (ifEq (gi t nx g) 0 _ _) _
  rw [gg1]
  refine okP_ifEq (R_bI _) R0 (fun q2 => ?_) fun q2 => hnot fun z => q2 (bI_z.mpr z.2)
  refine k185 1 t hM ((hBT.2 b hb).mpr fun x hx => ?_).symm
  rcases (ec x).mp hx with e | e
  · rw [e]; exact bI_z.mp q1
  · rw [e]; exact bI_z.mp q2
theorem brd_28 (hX : XsOK X) (h : sd = 0 ∨ sd = 1) (hnx : 80 < nx ∧ nx < 1000) (hb : b < (bsX X sd).1) (hM : MkI X s nx sd b t) : okP (La_bridges_t28 sd nx (((bsX X sd).1 : Nat) : Int) (b : Int) t) (BOut X s nx sd b) := by
  have h81 := nn_le hX.n9
  have hbw := brs_w (f := X.b.f) (sd := sd) hX.1.1
  have hm : (bsX X sd).1 ≤ 405 := hbw.2
  obtain ⟨k1, k2, k3⟩ := hbw.1.low hb
  have k1 : ((bsX X sd).2.1 b).1 = ((eLow (bsX X sd) b : Nat) : Int) := k1
  have k2 : eLow (bsX X sd) b < X.b.n * X.b.n := k2
  have k3 : X.b.f (eLow (bsX X sd) b) = sd := k3
  obtain ⟨l, g, el, eg, hlg, hg, fl, fg⟩ := hbw.1.car hb
  have el : eCa (bsX X sd) b = (l : Int) := el
  have eg : eCb (bsX X sd) b = (g : Int) := eg
  have hbR : R (b : Int) := R_nat (by omega)
  have q0 : ∀ t, CI X t → okP (Hx_bridge sd (b : Int) 0 t) (fun o => Ch LC t o.2 ∧ o.1 = .inr ((eLow (bsX X sd) b : Nat) : Int)) := fun t ht => by
    have q := cq_bridge hX (w := 0) (R_01 h) hbR R0 h ⟨by omega, by omega⟩ hb ht
    rw [if_pos rfl] at q
    rw [← k1]
    exact q
  have q1 : ∀ t, CI X t → okP (Hx_bridge sd (b : Int) 1 t) (fun o => Ch LC t o.2 ∧ o.1 = .inr (eOth (bsX X sd) b)) := fun t ht => by
    have q := cq_bridge hX (w := 1) (R_01 h) hbR R1 h ⟨by omega, by omega⟩ hb ht
    rw [if_neg (by omega), if_pos rfl] at q
    exact q
  have q2 : ∀ t, CI X t → okP (Hx_bridge sd (b : Int) 2 t) (fun o => Ch LC t o.2 ∧ o.1 = .inr (l : Int)) := fun t ht => by
    have q := cq_bridge hX (w := 2) (R_01 h) hbR R2 h ⟨by omega, by omega⟩ hb ht
    rw [if_neg (by omega), if_neg (by omega), if_pos rfl] at q
    rw [← el]
    exact q
  have q3 : ∀ t, CI X t → okP (Hx_bridge sd (b : Int) 3 t) (fun o => Ch LC t o.2 ∧ o.1 = .inr (g : Int)) := fun t ht => by
    have q := cq_bridge hX (w := 3) (R_01 h) hbR R3 h ⟨by omega, by omega⟩ hb ht
    rw [if_neg (by omega), if_neg (by omega), if_neg (by omega), if_pos rfl] at q
    rw [← eg]
    exact q
  unfold La_bridges_t28
  refine okP_ifLt hbR (R_nat (by omega)) (fun _ => ?_) fun z => absurd (by omega) z
  refine bndrQ (q0 t hM.1) fun t1 ht1 => ?_
  have hM1 := hM.q hnx.1 ht1
  refine bndrQ (q1 t1 hM1.1) fun t2 ht2 => ?_
  have hM2 := hM1.q hnx.1 ht2
  refine bndrQ (q2 t2 hM2.1) fun t3 ht3 => ?_
  have hM3 := hM2.q hnx.1 ht3
  refine bndrQ (q3 t3 hM3.1) fun t4 ht4 => ?_
  have hM4 := hM3.q hnx.1 ht4
  refine bndrQ (cq_cell hX (R_nat (by omega)) k2 hM4.1) fun t5 ht5 => ?_
  have hM5 := hM4.q hnx.1 ht5
  refine okP_ifEq (hX.fr.r k2) (R_01 h) (fun _ => ?_) fun z => absurd k3 z
  refine bndrQ (cq_cell hX (R_nat (by omega)) (show l < X.b.n * X.b.n by omega) hM5.1) fun t6 ht6 => ?_
  have hM6 := hM5.q hnx.1 ht6
  refine okP_ifEq (hX.fr.r (show l < X.b.n * X.b.n by omega)) R_n1 (fun _ => ?_) fun z => absurd fl z
  refine bndrQ (cq_cell hX (R_nat (by omega)) hg hM6.1) fun t7 ht7 => ?_
  have hM7 := hM6.q hnx.1 ht7
  refine okP_ifEq (hX.fr.r hg) R_n1 (fun _ => ?_) fun z => absurd fg z
  refine okP_ifLt (R_nat (by omega)) (R_nat (by omega)) (fun _ => ?_) fun z => absurd (by omega) z
  have hR : R (eOth (bsX X sd) b) := hbw.1.othR hX.n9 hb
  refine okP_ifLt hR R0 (fun _ => brd_166 hX h hnx hb el eg hlg hg hM7) fun hneg => ?_
  obtain ⟨o, e, ho, hfo, hlo⟩ := (hbw.1.oth hb).resolve_right fun z => by
    have z : eOth (bsX X sd) b = -10 ∨ eOth (bsX X sd) b = -11 := z
    omega
  have e : eOth (bsX X sd) b = (o : Int) := e
  have hlo : eLow (bsX X sd) b < o := hlo
  have k166 : ∀ u, MkI X s nx sd b u → okP (La_bridges_b166 sd nx (((bsX X sd).1 : Nat) : Int) (b : Int) ((eLow (bsX X sd) b : Nat) : Int) (o : Int) (l : Int) (g : Int) u) (BOut X s nx sd b) := fun u hu => by
    rw [← e]
    exact brd_166 hX h hnx hb el eg hlg hg hu
  have hsd : sd ≠ -1 := by omega
  have hBr : BrC X.b.n X.b.f o (eLow (bsX X sd) b) := by
    refine (bMem_BrC ho k2 hfo hsd).mp ?_
    rw [show min o (eLow (bsX X sd) b) = eLow (bsX X sd) b by omega, show max o (eLow (bsX X sd) b) = o by omega]
    exact ⟨b, hb, k1, e⟩
  rw [e]
  refine okP_ifLt (R_nat (by omega)) (R_nat (by omega)) (fun _ => ?_) fun z => absurd (by omega) z
  have qb := cq_isBridge hX (R_nat (show o ≤ 2147483647 by omega)) (R_nat (show eLow (bsX X sd) b ≤ 2147483647 by omega)) ho k2 hM7.1
  rw [bI_t hBr] at qb
  refine bndrQ qb fun t8 ht8 => ?_
  have hM8 := hM7.q hnx.1 ht8
  refine okP_ifEq R1 R0 (fun z => absurd z (by decide)) fun _ => ?_
  refine bndrQ (qlabG hX k2 k3 h hM8.1) fun t9 ht9 => ?_
  have hM9 := hM8.q hnx.1 ht9
  refine bndrQ (qlabG hX ho hfo h hM9.1) fun t10 ht10 => ?_
  have hM10 := hM9.q hnx.1 ht10
  have l1 := lab_le (Eb X.b.n X.b.f) (eLow (bsX X sd) b)
  have l2 := lab_le (Eb X.b.n X.b.f) o
  refine okP_ifEq (R_nat (by omega)) (R_nat (by omega)) (fun q => ?_) fun _ => k166 t10 hM10
  have hr : Rch (Eb X.b.n X.b.f) (eLow (bsX X sd) b) o := (lab_iff Eb_sy).mp (by omega)
  have hA : ¬ Adj X.b.n (eLow (bsX X sd) b) o := fun z => hBr.2.2.2.1 (adj_symm k2 z)
  have h3 := gsz_three k2 (by omega) hA hr
  have h4 := gsz_le X.b.n X.b.f (eLow (bsX X sd) b)
  refine bndrQ (qszG hX k2 k3 h hM10.1) fun t11 ht11 => ?_
  exact okP_ifLt (R_nat (by omega)) R3 (fun z => absurd z (by omega)) fun _ => k166 t11 (hM10.q hnx.1 ht11)
end ONE
theorem bridges_ok (hX : XsOK X) (hC : CI X s) (h : sd = 0 ∨ sd = 1) (hnx : 80 < nx ∧ nx < 100) : okP (La_bridges sd nx (zr s nx)) (fun o => (CI X o.2 ∧ ∀ a k, 80 ≤ a → a ≠ nx → gi o.2 a k = gi s a k) ∧ o.1 = 1) := by
  have hnx2 : 80 < nx ∧ nx < 1000 := ⟨hnx.1, by omega⟩
  have hbw := brs_w (f := X.b.f) (sd := sd) hX.1.1
  have hm : (bsX X sd).1 ≤ 405 := hbw.2
  have hC0 : CI X (zr s nx) := by
    refine CI.eq (s := (fun b j => if b = nx then 0 else s.1 b j, s.2)) (hC.mf ⟨fun o k ho => ?_, fun _ _ _ => rfl, rfl⟩) rfl
    show (if o = nx then 0 else s.1 o k) = s.1 o k
    rw [if_neg (by omega)]
  have hM0 : MkI X s nx sd 0 (zr s nx) := ⟨hC0, fun o k _ hn => by rw [gi_zr, if_neg hn], fun x _ => by
    rw [gi_zr, if_pos rfl]
    exact (bI_f fun ⟨i, hi, _⟩ => absurd hi (Nat.not_lt_zero i)).symm⟩
  unfold La_bridges
  have qb := cq_bridges hX (x := sd) (y := 0) (R_01 h) R0 h hC0
  rw [if_pos rfl] at qb
  refine bndrQ qb fun t ht => ?_
  have hM1 := hM0.q hnx.1 ht
  have qe := cq_bridge_2 hX (x := sd) (i := (((bsX X sd).1 : Nat) : Int)) (w := 0) (R_01 h) (R_nat (by omega)) R0 h ⟨by omega, by omega⟩ (fun ⟨k, e, hk⟩ => by
    have hk : k < (bsX X sd).1 := hk
    omega) hM1.1
  refine bndrQ qe fun u hu => ?_
  have hM2 := hM1.q hnx.1 hu
  refine okP_ifEq R_n1 R_n1 (fun _ => ?_) fun z => absurd rfl z
  show okP (La_bridges_l28 sd nx (((bsX X sd).1 : Nat) : Int) 0 u) _
  unfold La_bridges_l28
  refine okP_bnd (P := fun r => MkI X s nx sd (bsX X sd).1 r) (whl_for (fun (i : Nat) (t : Sg) => ((i : Int), t)) (bsX X sd).1 (fun i t => MkI X s nx sd i t) (i0 := 0) (t0 := u) (Nat.zero_le _) hM2 ?_ ?_) ?_
  · intro i t hi ht
    exact okP_mono (brd_28 hX h hnx2 hi ht) fun o ⟨u, e, hu⟩ => Or.inl ⟨u, e, hu⟩
  · intro t ht
    show okP (La_bridges_t28 sd nx (((bsX X sd).1 : Nat) : Int) (((bsX X sd).1 : Nat) : Int) t) _
    unfold La_bridges_t28
    exact okP_ifLt (R_nat (by omega)) (R_nat (by omega)) (fun z => absurd z (by omega)) fun _ => okP_some ⟨t, rfl, ht⟩
  · rintro r - hr
    exact okP_some ⟨⟨hr.1, hr.2.1⟩, rfl⟩
end BRD
