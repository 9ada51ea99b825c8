/-! ===== both read a statement, and all statements, alike ===== -/
noncomputable def Mrs (s : Sg) : Option (Int × Sg) :=
  bnd2 (Mo_takes (4 + 10) s) fun y1 s2 =>
    ifEq y1 0
      (bnd2 (Mo_takes (5 + 10) s2) fun y3 s4 =>
      ifEq y3 0
        (bnd2 (Mo_takes (3 + 10) s4) fun y5 s6 =>
        ifEq y5 0
          (bnd2 (Mo_takes (2 + 10) s6) fun y7 s8 =>
          ifEq y7 0
            (bnd2 (Mo_fails 1 (gi s8 80 10) s8) fun y9 s10 => grd (b01 y9) <| some (y9, s10))
            (bnd2 (Mo_readMoves s8) fun y12 s13 => grd (b01 y12) <| some (y12, s13)))
          (bnd2 (Mo_readTurn s6) fun y15 s16 => grd (b01 y15) <| some (y15, s16)))
        (bnd2 (Mo_readStones 1 s4) fun y18 s19 => grd (b01 y18) <| some (y18, s19)))
      (bnd2 (Mo_readStones 0 s2) fun y21 s22 => grd (b01 y21) <| some (y21, s22))
section ALL
variable {L : Nat} {B : Nat → Int} {s : Sg} {b : Bd}
theorem Mrs_eq (h : gi s 80 14 ≠ 0) (hR : R (gi s 80 14)) : Mo_readStatement s = Mrs s := by
  unfold Mo_readStatement
  rw [ifEq_f hR R0 h]
  rfl
theorem stmt_pair (hB : ∀ i, i < L → 1 ≤ B i ∧ B i ≤ 255) (hL : L ≤ 400) (hb : BdOK b) (hmF : b.m + Fc b.n b.f ≤ b.n * b.n) {p : Nat} (hp : p ≤ L) : SOut L B b p Re_readStatement Mrs := by
  have hq : sk L B p ≤ L := sk_le hp
  have e2 := sk_ge (L := L) (B := B) p
  have ess := sk_sk (L := L) (B := B) p
  have e1 : p ≤ rE L B 97 122 (sk L B p) := Nat.le_trans e2 (rE_ge _ _ _)
  -- the class: its questions
  have cq : ∀ {Q : Sg → Prop} (y1 y2 y3 : Int) (s : Sg), Cs s L B b p → y1 = bI (wd L B 2 (sk L B p)) → y2 = bI (wd L B 3 (sk L B p)) → y3 = sdw L B (sk L B p) → ¬ (y1 = 0 ∧ y2 = 0 ∧ y3 = -1) → okP (Re_readStatement_b42 y1 y2 y3 s) Q → okP (Re_readStatement s) Q := by
    intro Q y1 y2 y3 s hC h1 h2 h3 hne k
    obtain ⟨i1, i2, i3, i4, i5, i6⟩ := hC
    have hsd : sdw L B (sk L B p) = -1 ∨ sdw L B (sk L B p) = 0 ∨ sdw L B (sk L B p) = 1 := by
      unfold sdw
      split
      · exact Or.inr (Or.inl rfl)
      · split
        · exact Or.inr (Or.inr rfl)
        · exact Or.inl rfl
    unfold Re_readStatement
    rw [isWord_eq (by omega) i1 i3 hq, bnd_some, isWord_eq (by omega) i1 i3 hq, bnd_some, sideWord_eq i1 i3 hq, bnd_some, ← h1, ← h2, ← h3, ifEq_eq _ _ (by rw [h1]; exact R_bI _) R0, ifEq_eq _ _ (by rw [h2]; exact R_bI _) R0, ifEq_eq _ _ (by rw [h3]; exact R_tri hsd) R_n1]
    by_cases z1 : y1 = 0
    · rw [if_pos z1]
      by_cases z2 : y2 = 0
      · rw [if_pos z2, if_neg (fun z3 => hne ⟨z1, z2, z3⟩)]
        exact k
      · rw [if_neg z2]
        exact k
    · rw [if_neg z1]
      exact k
  have sdn : ¬ wd L B 4 (sk L B p) → ¬ wd L B 5 (sk L B p) → sdw L B (sk L B p) = -1 := fun h4 h5 => by
    unfold sdw
    rw [if_neg h4, if_neg h5]
  by_cases z4 : wd L B 4 (sk L B p)
  · have n2 := wd_ne (w' := 2) (by omega) (by omega) (by omega) z4
    have n3 := wd_ne (w' := 3) (by omega) (by omega) (by omega) z4
    have esd : sdw L B (sk L B p) = 0 := if_pos z4
    refine SOut.pre e1 (cells_out hB hL (mv := 0) (side := 0) (Or.inl ⟨rfl, Or.inl rfl⟩) hb hmF (rE_le hq)) (fun {Q} s hC k => ?_) (fun {Q} s hM k => ?_)
    · refine cq 0 0 0 s hC (bI_f n2).symm (bI_f n3).symm esd.symm (by omega) ?_
      unfold Re_readStatement_b42
      refine okP_bnd (next_ok hC z4) ?_
      rintro t - ⟨h1, h2⟩
      rw [ifEq_t R0 R0 rfl]
      exact k t h1 h2
    · unfold Mrs
      refine word_yes (by omega) hM z4 fun t h1 h2 => ?_
      rw [ifEq_f R1 R0 (by omega)]
      have k2 := k t (h1.mo (by decide)) h2
      exact hand (by simpa using k2)
  · by_cases z5 : wd L B 5 (sk L B p)
    · have n2 := wd_ne (w' := 2) (by omega) (by omega) (by omega) z5
      have n3 := wd_ne (w' := 3) (by omega) (by omega) (by omega) z5
      have esd : sdw L B (sk L B p) = 1 := by
        unfold sdw
        rw [if_neg z4, if_pos z5]
      refine SOut.pre e1 (cells_out hB hL (mv := 0) (side := 1) (Or.inl ⟨rfl, Or.inr rfl⟩) hb hmF (rE_le hq)) (fun {Q} s hC k => ?_) (fun {Q} s hM k => ?_)
      · refine cq 0 0 1 s hC (bI_f n2).symm (bI_f n3).symm esd.symm (by omega) ?_
        unfold Re_readStatement_b42
        refine okP_bnd (next_ok hC z5) ?_
        rintro t - ⟨h1, h2⟩
        rw [ifEq_t R0 R0 rfl]
        exact k t h1 h2
      · unfold Mrs
        refine first_no (by omega) hM z4 fun t h1 h2 _ => ?_
        rw [ifEq_t R0 R0 rfl]
        refine word_yes (by omega) h2 (by rw [ess]; exact z5) fun u m1 m2 => ?_
        rw [ess] at m2
        rw [ifEq_f R1 R0 (by omega)]
        have k2 := k u ((h1.tr m1).mo (by decide)) m2
        exact hand (by simpa using k2)
    · by_cases z3 : wd L B 3 (sk L B p)
      · have n2 := wd_ne (w' := 2) (by omega) (by omega) (by omega) z3
        refine SOut.pre e1 (turn_pair hb hmF (rE_le hq)) (fun {Q} s hC k => ?_) (fun {Q} s hM k => ?_)
        · refine cq 0 1 (-1) s hC (bI_f n2).symm (bI_t z3).symm (sdn z4 z5).symm (by omega) ?_
          unfold Re_readStatement_b42
          refine okP_bnd (next_ok hC z3) ?_
          rintro t - ⟨h1, h2⟩
          rw [ifEq_f R1 R0 (by omega)]
          obtain ⟨v, e, hv⟩ := k t h1 h2
          rw [e, bnd_some]
          exact okP_some hv
        · unfold Mrs
          refine first_no (by omega) hM z4 fun t h1 h2 _ => ?_
          rw [ifEq_t R0 R0 rfl]
          refine word_no (by omega) h2 ess z5 fun u m1 m2 _ => ?_
          rw [ifEq_t R0 R0 rfl]
          refine word_yes (by omega) m2 (by rw [ess]; exact z3) fun v l1 l2 => ?_
          rw [ess] at l2
          rw [ifEq_f R1 R0 (by omega)]
          exact hand (k v (((h1.tr m1).tr l1).mo (by decide)) l2)
      · by_cases z2 : wd L B 2 (sk L B p)
        · refine SOut.pre e1 (cells_out hB hL (mv := 1) (side := -1) (Or.inr rfl) hb hmF (rE_le hq)) (fun {Q} s hC k => ?_) (fun {Q} s hM k => ?_)
          · refine cq 1 0 (-1) s hC (bI_t z2).symm (bI_f z3).symm (sdn z4 z5).symm (by omega) ?_
            unfold Re_readStatement_b42
            refine okP_bnd (next_ok hC z2) ?_
            rintro t - ⟨h1, h2⟩
            rw [ifEq_t R0 R0 rfl]
            exact k t h1 h2
          · unfold Mrs
            refine first_no (by omega) hM z4 fun t h1 h2 _ => ?_
            rw [ifEq_t R0 R0 rfl]
            refine word_no (by omega) h2 ess z5 fun u m1 m2 _ => ?_
            rw [ifEq_t R0 R0 rfl]
            refine word_no (by omega) m2 ess z3 fun v l1 l2 _ => ?_
            rw [ifEq_t R0 R0 rfl]
            refine word_yes (by omega) l2 (by rw [ess]; exact z2) fun w q1 q2 => ?_
            rw [ess] at q2
            rw [ifEq_f R1 R0 (by omega)]
            have k2 := k w ((((h1.tr m1).tr l1).tr q1).mo (by decide)) q2
            exact hand (by simpa using k2)
        · refine Or.inl ⟨1, sk L B p, by omega, hq, fun s hC => ?_, fun s hM => ?_⟩
          · obtain ⟨i1, i2, i3, i4, i5, i6⟩ := hC
            unfold Re_readStatement
            rw [isWord_eq (by omega) i1 i3 hq, bnd_some, isWord_eq (by omega) i1 i3 hq, bnd_some, sideWord_eq i1 i3 hq, bnd_some, bI_f z2, bI_f z3, sdn z4 z5, ifEq_t R0 R0 rfl, ifEq_t R0 R0 rfl, ifEq_t R_n1 R_n1 rfl, i3.1]
            exact okP_some (fl_cr 1 _)
          · unfold Mrs
            refine first_no (by omega) hM z4 fun t h1 h2 _ => ?_
            rw [ifEq_t R0 R0 rfl]
            refine word_no (by omega) h2 ess z5 fun u m1 m2 _ => ?_
            rw [ifEq_t R0 R0 rfl]
            refine word_no (by omega) m2 ess z3 fun v l1 l2 _ => ?_
            rw [ifEq_t R0 R0 rfl]
            refine word_no (by omega) l2 ess z2 fun w q1 q2 q3 => ?_
            rw [ifEq_t R0 R0 rfl, fails_eq, bnd2_some, grd_t (show b01 0 from Or.inl rfl), q3]
            exact okP_some (mfl ((((h1.tr m1).tr l1).tr q1).mo (by decide)) 1 _)
/-! all statements -/
noncomputable abbrev f25 : Int × Sg → Option ((Int × Sg) ⊕ Sg) := fun σ => Re_read_t25 σ.1 σ.2
noncomputable abbrev f10 : Sg → Option (Sg ⊕ (Sg ⊕ (Sg ⊕ Sg))) := fun σ => Mo_readAll_t10 σ
noncomputable def fin10 (r : Sg ⊕ (Sg ⊕ Sg)) : Option (Int × Sg) := match r with
  | .inl ρ10 => some (0, ρ10)
  | .inr (.inl ρ10) => some (1, ρ10)
  | .inr (.inr ρ10) => bnd2 (Mo_fails 1 (gi ρ10 80 10) ρ10) fun y12 s13 => grd (b01 y12) <| some (y12, s13)
/-- the reference behind a statement -/
noncomputable def aft (s : Sg) : Option (Sg ⊕ (Sg ⊕ (Sg ⊕ Sg))) :=
  bnd2 (Mo_nextByte s) fun y5 s6 =>
    ifEq y5 (-1)
      (some (.inr (.inr (.inl s6))))
      (ifEq y5 59
        (lett (si s6 80 9 ((gi s6 80 9) + 1)) fun s7 =>
        lett (si s7 80 14 ((gi s7 80 14) + 1)) fun s8 =>
        some (.inl s8))
        (some (.inr (.inr (.inr s6)))))
/-- how it goes on from a round's outcome -/
noncomputable def go10 (m : Option (Sg ⊕ (Sg ⊕ (Sg ⊕ Sg)))) : Option (Int × Sg) := bnd m fun o => match o with
  | .inl a => bnd (whl f10 a) fin10
  | .inr r => fin10 r
theorem go10_w (a : Sg) {Q : Int × Sg → Prop} (h : okP (go10 (f10 a)) Q) : okP (bnd (whl f10 a) fin10) Q := by
  unfold go10 at h
  cases e : f10 a with
  | none =>
    rw [e] at h
    obtain ⟨v, z, -⟩ := h
    cases z
  | some o =>
    rw [e] at h
    cases o with
    | inl a' =>
      have h : okP (bnd (whl f10 a') fin10) Q := h
      cases e2 : whl f10 a' with
      | none =>
        rw [e2] at h
        obtain ⟨v, z, -⟩ := h
        cases z
      | some r =>
        obtain ⟨r', e3, e4⟩ := whl_inl (Q := fun x => x = r) e ⟨r, e2, rfl⟩
        rw [e2] at h
        rw [e3, e4]
        exact h
    | inr r =>
      have h : okP (fin10 r) Q := h
      obtain ⟨r', e3, e4⟩ := whl_inr (Q := fun x => x = r) e rfl
      rw [e3, e4]
      exact h
theorem f10_eq (h : gi s 80 14 ≠ 0) (hR : R (gi s 80 14)) : f10 s = bnd2 (Mrs s) fun y3 s4 => ifEq y3 0 (some (.inr (.inl s4))) (aft s4) := by
  show Mo_readAll_t10 s = _
  unfold Mo_readAll_t10
  rw [Mrs_eq h hR]
  rfl
abbrev Crl : List Nat := [5, 6, 7, 8, 9, 52, 53, 54, 55]
abbrev Mrl : List Nat := [81, 87, 8009, 8010, 8011, 8012, 8013, 8014, 8016]
abbrev Mrs' : List Nat := [81, 87, 8009, 8010, 8011, 8014, 8016]
def CEr (s : Sg) (o : Int × Sg) (e : Int) (pl st : Nat) : Prop := o.1 = 0 ∧ Ch Crl s o.2 ∧ gi o.2 52 8 = e ∧ gi o.2 52 9 = (pl : Int) ∧ gi o.2 52 10 = (st : Int)
def MEr (s : Sg) (r : Int × Sg) (e : Int) (pl st : Nat) : Prop := r.1 = 0 ∧ Ch Mrl s r.2 ∧ gi r.2 80 12 = e ∧ gi r.2 80 13 = (pl : Int) ∧ gi r.2 80 14 = (st : Int)
def CGd (s : Sg) (o : Int × Sg) (b : Bd) : Prop := o.1 = 1 ∧ Ch Crl s o.2 ∧ gi o.2 52 8 = 0 ∧ CP o.2 53 b
def MGd (s : Sg) (r : Int × Sg) (b : Bd) : Prop := r.1 = 1 ∧ Ch Mrs' s r.2 ∧ MP r.2 b
theorem b71_err {e : Int} (h : gi s 52 8 = e) (he : e ≠ 0) (hR : R e) : Re_read_b71 s = some (0, s) := by
  unfold Re_read_b71 Re_read_b94
  rw [h, ifEq_f hR R0 he, ifEq_f hR R0 he]
theorem f25_end {x : Int} (hx : R x) (he : R (gi s 52 8)) (hk : R (gi s 52 4)) (h : gi s 52 8 ≠ 0 ∨ gi s 52 4 ≠ 3) : f25 (x, s) = some (.inr s) := by
  have R400 : R 400 := by unfold R; omega
  have R3' : R 3 := by unfold R; omega
  show Re_read_t25 x s = _
  unfold Re_read_t25
  rw [ifLt_eq _ _ hx R400]
  by_cases z : x < 400
  · rw [if_pos z, ifEq_eq _ _ he R0]
    by_cases y : gi s 52 8 = 0
    · rw [if_pos y, ifEq_f hk R3' (h.resolve_left (fun w => w y))]
    · rw [if_neg y]
  · rw [if_neg z]
theorem Tok.kR {q : Nat} (h : Tok s L B q) : R (gi s 52 4) := by
  by_cases z : ltr L B q
  · rw [(h.2.1 z).1]; exact R1
  · exact (h.k1 z).1
theorem Tok.k3 {q : Nat} (h : Tok s L B q) (z : ¬ (q < L ∧ B q = 59)) : gi s 52 4 ≠ 3 := by
  obtain ⟨t5, t1, t2, t3, t4, t6⟩ := h
  by_cases a : L ≤ q
  · rw [(t3 a).1]; omega
  · by_cases d : ltr L B q
    · rw [(t1 d).1]; omega
    · by_cases d2 : dgt L B q
      · rw [(t2 d2).1]; omega
      · rw [(t6 (by omega) d d2 (fun w => z ⟨by omega, w⟩)).1]; omega
theorem Tok.k0 {q : Nat} (h : Tok s L B q) (z : q < L) : gi s 52 4 ≠ 0 := by
  obtain ⟨t5, t1, t2, t3, t4, t6⟩ := h
  by_cases d : ltr L B q
  · rw [(t1 d).1]; omega
  · by_cases d2 : dgt L B q
    · rw [(t2 d2).1]; omega
    · by_cases d3 : B q = 59
      · rw [(t4 z d d2 d3).1]; omega
      · rw [(t6 z d d2 d3).1]; omega
theorem all_pair (hB : ∀ i, i < L → 1 ≤ B i ∧ B i ≤ 255) (hL : L ≤ 400) : ∀ (d : Nat) (b : Bd) (p i : Nat), L - p ≤ d → BdOK b → b.m + Fc b.n b.f ≤ b.n * b.n → p ≤ L → i ≤ p →
    (∃ e pl st, (1 ≤ e ∧ e ≤ 4) ∧ pl ≤ L ∧ st ≤ L ∧ (∀ s x, Cs s L B b p → gi s 52 10 = (i : Int) → 0 ≤ x → x ≤ (p : Int) → okP (bnd (whl f25 (x, s)) Re_read_b71) (fun o => CEr s o e pl st)) ∧ ∀ s, Ms s L B b p → gi s 80 14 = (i : Int) → okP (go10 (aft s)) (fun r => MEr s r e pl st)) ∨
    ∃ b', BdOK b' ∧ b'.n = b.n ∧ (∀ s x, Cs s L B b p → gi s 52 10 = (i : Int) → 0 ≤ x → x ≤ (p : Int) → okP (bnd (whl f25 (x, s)) Re_read_b71) (fun o => CGd s o b')) ∧ ∀ s, Ms s L B b p → gi s 80 14 = (i : Int) → okP (go10 (aft s)) (fun r => MGd s r b') := by
  intro d
  induction d with
  | zero =>
    intro b p i hd hb hmF hp hip
    have hq : sk L B p ≤ L := sk_le hp
    have e2 := sk_ge (L := L) (B := B) p
    have eq : sk L B p = L := by omega
    refine Or.inr ⟨b, hb, rfl, fun s x hC hi hx0 hx => ?_, fun s hM hi => ?_⟩
    · obtain ⟨i1, i2, i3, i4, i5, i6⟩ := hC
      have hk := (i3.2.2.2.1 (by omega)).1
      refine okP_bnd (P := fun t => t = s) (whl_inr (f25_end (by unfold R; omega) (by rw [i4]; exact R0) (by rw [hk]; exact R0) (Or.inr (by rw [hk]; omega))) rfl) ?_
      rintro t - rfl
      unfold Re_read_b71 Re_read_b94
      rw [i4, ifEq_t R0 R0 rfl, hk, ifEq_t R0 R0 rfl, ifEq_t R0 R0 rfl]
      exact okP_some ⟨rfl, Ch.rf _ _, i4, i6⟩
    · obtain ⟨i1, i2, i3, i4⟩ := hM
      unfold go10 aft
      refine okP_bnd (P := fun o => ∃ t, o = .inr (.inr (.inl t)) ∧ Ch [8009, 8010] s t) (okP_bnd2 (nextM i1 i2 i3) ?_) ?_
      · rintro y t - ⟨k1, k2, k3, k4⟩
        have k1 : Ch [8009, 8010] s t := k1
        have k4 : y = byt L B (sk L B p) := k4
        have e9 : byt L B (sk L B p) = -1 := if_neg (by omega)
        rw [k4, e9, ifEq_t R_n1 R_n1 rfl]
        exact okP_some ⟨t, rfl, k1⟩
      · rintro o - ⟨t, rfl, k1⟩
        exact okP_some ⟨rfl, k1.mo (by decide), i4.ch k1⟩
  | succ d ih =>
    intro b p i hd hb hmF hp hip
    have hq : sk L B p ≤ L := sk_le hp
    have e2 := sk_ge (L := L) (B := B) p
    have R400 : R 400 := by unfold R; omega
    have R3' : R 3 := by unfold R; omega
    have R59 : R 59 := by unfold R; omega
    have hbr := byt_R hB (sk L B p)
    have hbR : R (byt L B (sk L B p)) := by unfold R; omega
    by_cases eq : L ≤ sk L B p
    · refine Or.inr ⟨b, hb, rfl, fun s x hC hi hx0 hx => ?_, fun s hM hi => ?_⟩
      · obtain ⟨i1, i2, i3, i4, i5, i6⟩ := hC
        have hk := (i3.2.2.2.1 eq).1
        refine okP_bnd (P := fun t => t = s) (whl_inr (f25_end (by unfold R; omega) (by rw [i4]; exact R0) (by rw [hk]; exact R0) (Or.inr (by rw [hk]; omega))) rfl) ?_
        rintro t - rfl
        unfold Re_read_b71 Re_read_b94
        rw [i4, ifEq_t R0 R0 rfl, hk, ifEq_t R0 R0 rfl, ifEq_t R0 R0 rfl]
        exact okP_some ⟨rfl, Ch.rf _ _, i4, i6⟩
      · obtain ⟨i1, i2, i3, i4⟩ := hM
        unfold go10 aft
        refine okP_bnd (P := fun o => ∃ t, o = .inr (.inr (.inl t)) ∧ Ch [8009, 8010] s t) (okP_bnd2 (nextM i1 i2 i3) ?_) ?_
        · rintro y t - ⟨k1, k2, k3, k4⟩
          have k1 : Ch [8009, 8010] s t := k1
          have k4 : y = byt L B (sk L B p) := k4
          have e9 : byt L B (sk L B p) = -1 := if_neg (by omega)
          rw [k4, e9, ifEq_t R_n1 R_n1 rfl]
          exact okP_some ⟨t, rfl, k1⟩
        · rintro o - ⟨t, rfl, k1⟩
          exact okP_some ⟨rfl, k1.mo (by decide), i4.ch k1⟩
    · have hql : sk L B p < L := by omega
      have hby : byt L B (sk L B p) = B (sk L B p) := if_pos hql
      have hBq := hB _ hql
      by_cases sc : B (sk L B p) = 59
      · have nl : ¬ ltr L B (sk L B p) := fun z => by have := z.2; omega
        have nd : ¬ dgt L B (sk L B p) := fun z => by have := z.2; omega
        have hp1 : sk L B p + 1 ≤ L := hql
        -- a round of the class
        have cr : ∀ {Q : Int × Sg → Prop} (s : Sg) (x : Int), Cs s L B b p → gi s 52 10 = (i : Int) → 0 ≤ x → x ≤ (p : Int) → (∀ t, Ch Crl s t → gi t 52 10 = ((i + 1 : Nat) : Int) → Cs t L B b (sk L B p + 1) → okP (bnd (bnd (Re_readStatement t) fun u => whl f25 (x + 1, u)) Re_read_b71) Q) → okP (bnd (whl f25 (x, s)) Re_read_b71) Q := by
          intro Q s x hC hi hx0 hx k
          obtain ⟨i1, i2, i3, i4, i5, i6⟩ := hC
          obtain ⟨k3, k6⟩ := i3.2.2.2.2.1 hql nl nd sc
          have c1 : Ch [52] s (si s 52 10 ((i : Int) + 1)) := Ch.si (by decide)
          have h6 : gi (si s 52 10 ((i : Int) + 1)) 52 6 = ((sk L B p + 1 : Nat) : Int) := by rw [gi_si_k _ _ _ (by omega)]; exact k6
          obtain ⟨t, e, t1, t2⟩ := advance_ok (i1.ch c1) hp1 h6
          have ef : f25 (x, s) = bnd (Re_readStatement t) fun s12 => some (.inl (x + 1, s12)) := by
            show Re_read_t25 x s = _
            unfold Re_read_t25
            rw [ifLt_eq _ _ (by unfold R; omega) R400, if_pos (by omega), i4, ifEq_t R0 R0 rfl, k3, ifEq_t R3' R3' rfl, hi, lett_eq, e, bnd_some]
          have hCt : Cs t L B b (sk L B p + 1) := ⟨(i1.ch c1).ch t1.1, hp1, t2, (t1.2 8 (by omega)).trans (by rw [gi_si_k _ _ _ (by omega)]; exact i4), (i5.c c1).c t1.1, (i6.ch c1).ch t1.1⟩
          have h10 : gi t 52 10 = ((i + 1 : Nat) : Int) := (t1.2 10 (by omega)).trans (gi_si_s _ _ _ _)
          have kk := k t ((c1.mo (by decide)).tr (t1.1.mo (by decide))) h10 hCt
          cases es : Re_readStatement t with
          | none =>
            rw [es] at kk
            obtain ⟨v, z, -⟩ := kk
            cases z
          | some u =>
            rw [es, bnd_some] at ef
            rw [es, bnd_some] at kk
            cases ew : whl f25 (x + 1, u) with
            | none =>
              rw [ew] at kk
              obtain ⟨v, z, -⟩ := kk
              cases z
            | some w =>
              obtain ⟨w', e3, e4⟩ := whl_inl (Q := fun y => y = w) ef ⟨w, ew, rfl⟩
              rw [ew] at kk
              rw [e3, e4]
              exact kk
        -- a round of the reference
        have mr : ∀ {Q : Int × Sg → Prop} (s : Sg), Ms s L B b p → gi s 80 14 = (i : Int) → (∀ t, Ch [8009, 8010, 8014] s t → gi t 80 14 = ((i + 1 : Nat) : Int) → Ms t L B b (sk L B p + 1) → okP (go10 (bnd2 (Mrs t) fun y3 s4 => ifEq y3 0 (some (.inr (.inl s4))) (aft s4))) Q) → okP (go10 (aft s)) Q := by
          intro Q s hM hi k
          obtain ⟨i1, i2, i3, i4⟩ := hM
          obtain ⟨⟨y, t⟩, e, k1, k2, k3, k4⟩ := nextM i1 i2 i3
          have k1 : Ch [8009, 8010] s t := k1
          have k2 : gi t 80 9 = ((sk L B p : Nat) : Int) := k2
          have k4 : y = byt L B (sk L B p) := k4
          have c1 : Ch [8009] t (si t 80 9 (((sk L B p : Nat) : Int) + 1)) := Ch.s8 (by decide)
          have c2 : Ch [8014] (si t 80 9 (((sk L B p : Nat) : Int) + 1)) (si (si t 80 9 (((sk L B p : Nat) : Int) + 1)) 80 14 ((i : Int) + 1)) := Ch.s8 (by decide)
          have e14 : gi (si t 80 9 (((sk L B p : Nat) : Int) + 1)) 80 14 = (i : Int) := by rw [gi_si_k _ _ _ (by omega), k1.g8 14]; exact hi
          have ea : aft s = some (.inl (si (si t 80 9 (((sk L B p : Nat) : Int) + 1)) 80 14 ((i : Int) + 1))) := by
            unfold aft
            rw [e, bnd2_some, k4, hby, ifEq_f (by unfold R; omega) R_n1 (by omega), ifEq_t (by unfold R; omega) R59 sc, k2, lett_eq, e14, lett_eq]
          have hMt : Ms (si (si t 80 9 (((sk L B p : Nat) : Int) + 1)) 80 14 ((i : Int) + 1)) L B b (sk L B p + 1) := ⟨((i1.ch k1).ch c1).ch c2, hp1, by rw [gi_si_k _ _ _ (by omega), gi_si_s]; rfl, ((i4.ch k1).ch c1).ch c2⟩
          have h14 : gi (si (si t 80 9 (((sk L B p : Nat) : Int) + 1)) 80 14 ((i : Int) + 1)) 80 14 = ((i + 1 : Nat) : Int) := gi_si_s _ _ _ _
          have hc : Ch [8009, 8010, 8014] s (si (si t 80 9 (((sk L B p : Nat) : Int) + 1)) 80 14 ((i : Int) + 1)) := ((k1.mo (by decide)).tr (c1.mo (by decide))).tr (c2.mo (by decide))
          have kk := k _ hc h14 hMt
          rw [← f10_eq (by rw [h14]; omega) (by rw [h14]; exact R_nat (by omega))] at kk
          rw [ea]
          exact go10_w _ kk
        rcases stmt_pair hB hL hb hmF hp1 with ⟨e, pl, he, hpl, kC, kM⟩ | ⟨b', p', h1, h2, h3, h4, h5, kC, kM⟩
        · refine Or.inl ⟨e, pl, i + 1, he, hpl, by omega, fun s x hC hi hx0 hx => ?_, fun s hM hi => ?_⟩
          · refine cr s x hC hi hx0 hx fun t t1 t2 t3 => ?_
            refine okP_bnd (P := fun u => CFl t u e pl) (okP_bnd (kC t t3) ?_) ?_
            · rintro u - hu
              have hR : R (gi u 52 8) := by rw [hu.2.1]; unfold R; omega
              refine whl_inr (f := f25) (r := u) ?_ hu
              show Re_read_t25 (x + 1) u = _
              unfold Re_read_t25
              rw [ifLt_eq _ _ (by unfold R; omega) R400]
              by_cases z : x + 1 < 400
              · rw [if_pos z, ifEq_f hR R0 (by rw [hu.2.1]; omega)]
              · rw [if_neg z]
            · rintro u - hu
              rw [b71_err hu.2.1 (by omega) (by unfold R; omega)]
              exact okP_some ⟨rfl, t1.tr (hu.1.1.mo (by decide)), hu.2.1, hu.2.2, hu.1.2.trans t2⟩
          · refine mr s hM hi fun t t1 t2 t3 => ?_
            unfold go10
            refine okP_bnd (P := fun o => ∃ u, o = .inr (.inl u) ∧ MFl t (0, u) e pl) (okP_bnd2 (kM t t3) ?_) ?_
            · rintro y u - ⟨u1, u2, u3⟩
              have u2 : y = 0 := u2
              rw [u2, ifEq_t R0 R0 rfl]
              exact okP_some ⟨u, rfl, u1, rfl, u3⟩
            · rintro o - ⟨u, rfl, u1, u2, u3, u4⟩
              have u1 : Ch Mk9 t u := u1
              exact okP_some ⟨rfl, (t1.mo (by decide)).tr (u1.mo (by decide)), u3, u4, (u1.g8 14).trans t2⟩
        · rcases ih b' p' (i + 1) (by omega) h1 h3 h5 (by omega) with ⟨e, pl, st, he, hpl, hst, iC, iM⟩ | ⟨b'', g1, g2, iC, iM⟩
          · refine Or.inl ⟨e, pl, st, he, hpl, hst, fun s x hC hi hx0 hx => ?_, fun s hM hi => ?_⟩
            · refine cr s x hC hi hx0 hx fun t t1 t2 t3 => ?_
              obtain ⟨u, eu, u1, u2⟩ := kC t t3
              rw [eu, bnd_some]
              refine okP_mono (iC u (x + 1) u2 (u1.2.trans t2) (by omega) (by omega)) fun o ⟨o1, o2, o3⟩ => ⟨o1, (t1.tr (u1.1.mo (by decide))).tr o2, o3⟩
            · refine mr s hM hi fun t t1 t2 t3 => ?_
              obtain ⟨⟨y, u⟩, eu, u1, u2, u3⟩ := kM t t3
              have u1 : Ch Mks t u := u1
              have u2 : y = 1 := u2
              have u3 : Ms u L B b' p' := u3
              rw [eu, bnd2_some, u2, ifEq_f R1 R0 (by omega)]
              refine okP_mono (iM u u3 ((u1.g8 14).trans t2)) fun o ⟨o1, o2, o3⟩ => ⟨o1, ((t1.mo (by decide)).tr (u1.mo (by decide))).tr o2, o3⟩
          · refine Or.inr ⟨b'', g1, g2.trans h2, fun s x hC hi hx0 hx => ?_, fun s hM hi => ?_⟩
            · refine cr s x hC hi hx0 hx fun t t1 t2 t3 => ?_
              obtain ⟨u, eu, u1, u2⟩ := kC t t3
              rw [eu, bnd_some]
              refine okP_mono (iC u (x + 1) u2 (u1.2.trans t2) (by omega) (by omega)) fun o ⟨o1, o2, o3⟩ => ⟨o1, (t1.tr (u1.1.mo (by decide))).tr o2, o3⟩
            · refine mr s hM hi fun t t1 t2 t3 => ?_
              obtain ⟨⟨y, u⟩, eu, u1, u2, u3⟩ := kM t t3
              have u1 : Ch Mks t u := u1
              have u2 : y = 1 := u2
              have u3 : Ms u L B b' p' := u3
              rw [eu, bnd2_some, u2, ifEq_f R1 R0 (by omega)]
              refine okP_mono (iM u u3 ((u1.g8 14).trans t2)) fun o ⟨o1, o2, o3⟩ => ⟨o1, ((t1.mo (by decide)).tr (u1.mo (by decide))).tr o2, o3⟩
      · refine Or.inl ⟨1, sk L B p, i, by omega, hq, by omega, fun s x hC hi hx0 hx => ?_, fun s hM hi => ?_⟩
        · obtain ⟨i1, i2, i3, i4, i5, i6⟩ := hC
          refine okP_bnd (P := fun t => t = s) (whl_inr (f25_end (by unfold R; omega) (by rw [i4]; exact R0) i3.kR (Or.inr (i3.k3 (fun z => sc z.2)))) rfl) ?_
          rintro t - rfl
          unfold Re_read_b71
          have f := fl_cr (s := t) 1 (sk L B p)
          rw [i4, ifEq_t R0 R0 rfl, ifEq_f i3.kR R0 (i3.k0 hql), i3.1]
          show okP (Re_read_b94 (si (si t 52 8 1) 52 9 ((sk L B p : Nat) : Int))) _
          unfold Re_read_b94
          rw [f.2.1, ifEq_f R1 R0 (by omega)]
          exact okP_some ⟨rfl, f.1.1, f.2.1, f.2.2, f.1.2.trans hi⟩
        · obtain ⟨i1, i2, i3, i4⟩ := hM
          unfold go10 aft
          refine okP_bnd (P := fun o => ∃ t, o = .inr (.inr (.inr t)) ∧ Ch [8009, 8010] s t ∧ gi t 80 10 = ((sk L B p : Nat) : Int)) (okP_bnd2 (nextM i1 i2 i3) ?_) ?_
          · rintro y t - ⟨k1, k2, k3, k4⟩
            have k1 : Ch [8009, 8010] s t := k1
            have k3 : gi t 80 10 = ((sk L B p : Nat) : Int) := k3
            have k4 : y = byt L B (sk L B p) := k4
            rw [k4, hby, ifEq_f (by unfold R; omega) R_n1 (by omega), ifEq_f (by unfold R; omega) R59 sc]
            exact okP_some ⟨t, rfl, k1, k3⟩
          · rintro o - ⟨t, rfl, k1, k3⟩
            show okP (bnd2 (Mo_fails 1 (gi t 80 10) t) fun y12 s13 => grd (b01 y12) <| some (y12, s13)) _
            have m := mfl (k1.mo (M := Mks) (by decide)) 1 (sk L B p)
            rw [fails_eq, bnd2_some, grd_t (show b01 0 from Or.inl rfl), k3]
            exact okP_some ⟨rfl, m.1.mo (by decide), m.2.2.1, m.2.2.2, (m.1.g8 14).trans hi⟩
end ALL
