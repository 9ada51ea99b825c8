/-! ===== one more link ===== -/
def addE (E : Nat → Nat → Prop) (a b : Nat) (x y : Nat) : Prop := E x y ∨ (x = a ∧ y = b) ∨ (x = b ∧ y = a)
section ADD
variable {E : Nat → Nat → Prop} {a b : Nat}
theorem addE_sy (hE : ∀ u v, E u v → E v u) (x y : Nat) (h : addE E a b x y) : addE E a b y x := by
  rcases h with h | ⟨h1, h2⟩ | ⟨h1, h2⟩
  · exact Or.inl (hE _ _ h)
  · exact Or.inr (Or.inr ⟨h2, h1⟩)
  · exact Or.inr (Or.inl ⟨h2, h1⟩)
theorem Rch_add {x y : Nat} : Rch (addE E a b) x y ↔ Rch E x y ∨ (Rch E x a ∧ Rch E b y) ∨ (Rch E x b ∧ Rch E a y) := by
  have m : ∀ u v, E u v → addE E a b u v := fun _ _ h => Or.inl h
  constructor
  · intro h
    refine h (fun z => Rch E x z ∨ (Rch E x a ∧ Rch E b z) ∨ (Rch E x b ∧ Rch E a z)) (Or.inl (Rch.rf _ _)) fun u v hu e => ?_
    rcases e with e | ⟨rfl, rfl⟩ | ⟨rfl, rfl⟩
    · rcases hu with h | ⟨h1, h2⟩ | ⟨h1, h2⟩
      · exact Or.inl (h.st e)
      · exact Or.inr (Or.inl ⟨h1, h2.st e⟩)
      · exact Or.inr (Or.inr ⟨h1, h2.st e⟩)
    · rcases hu with h | ⟨h1, h2⟩ | ⟨h1, h2⟩
      · exact Or.inr (Or.inl ⟨h, Rch.rf _ _⟩)
      · exact Or.inr (Or.inl ⟨h1, Rch.rf _ _⟩)
      · exact Or.inl h1
    · rcases hu with h | ⟨h1, h2⟩ | ⟨h1, h2⟩
      · exact Or.inr (Or.inr ⟨h, Rch.rf _ _⟩)
      · exact Or.inl h1
      · exact Or.inr (Or.inr ⟨h1, Rch.rf _ _⟩)
  · rintro (h | ⟨h1, h2⟩ | ⟨h1, h2⟩)
    · exact h.mono m
    · exact ((h1.mono m).st (Or.inr (Or.inl ⟨rfl, rfl⟩))).tr (h2.mono m)
    · exact ((h1.mono m).st (Or.inr (Or.inr ⟨rfl, rfl⟩))).tr (h2.mono m)
theorem Rch_same (hE : ∀ u v, E u v → E v u) (hl : lab E a = lab E b) {x y : Nat} : Rch (addE E a b) x y ↔ Rch E x y := by
  have hab : Rch E a b := (lab_iff hE).mp hl
  rw [Rch_add]
  constructor
  · rintro (h | ⟨h1, h2⟩ | ⟨h1, h2⟩)
    · exact h
    · exact (h1.tr hab).tr h2
    · exact (h1.tr (hab.sy hE)).tr h2
  · exact Or.inl
theorem lab_same (hE : ∀ u v, E u v → E v u) (hl : lab E a = lab E b) (c : Nat) : lab (addE E a b) c = lab E c :=
  lab_u ((Rch_same hE hl).mpr (lab_r E c)) fun _ hy => lab_m ((Rch_same hE hl).mp hy)
theorem lab_add (hE : ∀ u v, E u v → E v u) (c : Nat) : lab (addE E a b) c = if lab E c = lab E a ∨ lab E c = lab E b then min (lab E a) (lab E b) else lab E c := by
  by_cases h : lab E c = lab E a ∨ lab E c = lab E b
  · rw [if_pos h]
    have hreach : Rch (addE E a b) c (lab E a) ∧ Rch (addE E a b) c (lab E b) := by
      rcases h with h | h
      · have hca := (lab_iff hE).mp h
        exact ⟨Rch_add.mpr (Or.inl (hca.tr (lab_r E a))), Rch_add.mpr (Or.inr (Or.inl ⟨hca, lab_r E b⟩))⟩
      · have hcb := (lab_iff hE).mp h
        exact ⟨Rch_add.mpr (Or.inr (Or.inr ⟨hcb, lab_r E a⟩)), Rch_add.mpr (Or.inl (hcb.tr (lab_r E b)))⟩
    refine lab_u ?_ fun y hy => ?_
    · by_cases q : lab E a ≤ lab E b
      · rw [Nat.min_eq_left q]; exact hreach.1
      · rw [Nat.min_eq_right (by omega)]; exact hreach.2
    · have key : Rch E a y ∨ Rch E b y := by
        rcases Rch_add.mp hy with w | ⟨-, w⟩ | ⟨-, w⟩
        · rcases h with h | h
          · exact Or.inl ((((lab_iff hE).mp h).sy hE).tr w)
          · exact Or.inr ((((lab_iff hE).mp h).sy hE).tr w)
        · exact Or.inr w
        · exact Or.inl w
      rcases key with w | w
      · have := lab_m w; omega
      · have := lab_m w; omega
  · rw [if_neg h]
    refine lab_u (Rch_add.mpr (Or.inl (lab_r E c))) fun y hy => ?_
    rcases Rch_add.mp hy with w | ⟨w, -⟩ | ⟨w, -⟩
    · exact lab_m w
    · exact absurd (Or.inl (lab_eq hE w)) h
    · exact absurd (Or.inr (lab_eq hE w)) h
end ADD
theorem cnt_or {p q : Nat → Prop} (h : ∀ i, p i → ¬ q i) : ∀ N, cnt (fun i => p i ∨ q i) N = cnt p N + cnt q N
  | 0 => rfl
  | N + 1 => by
    have ih := cnt_or h N
    by_cases hp : p N
    · rw [cnt_t (p := fun i => p i ∨ q i) (Or.inl hp), cnt_t hp, cnt_f (h N hp), ih]; omega
    · by_cases hq : q N
      · rw [cnt_t (p := fun i => p i ∨ q i) (Or.inr hq), cnt_f hp, cnt_t hq, ih]; omega
      · rw [cnt_f (p := fun i => p i ∨ q i) (fun w => w.elim hp hq), cnt_f hp, cnt_f hq, ih]
/-- the links of the class over any relation, with any edges -/
def LkC (s : Sg) (n : Nat) (f : Nat → Int) (sd : Int) (E : Nat → Nat → Prop) (P1 P2 : Nat → Prop) : Prop := gi s 5 5 = sd ∧
  (∀ c, c < 81 → (c < n * n → f c = sd → gi s 6 c = (lab E c : Int)) ∧ (¬ (c < n * n ∧ f c = sd) → gi s 6 c = -1)) ∧
  ∀ c, c < n * n → f c = sd → lab E c = c → gi s 8 c = (cnt (fun x => Rch E c x) (n * n) : Int) ∧ gi s 7 c = ev (∃ x, Rch E c x ∧ P1 x) (∃ x, Rch E c x ∧ P2 x)
/-- the relation stays on the board and within a side -/
def Ein (n : Nat) (f : Nat → Int) (E : Nat → Nat → Prop) : Prop := (∀ u v, E u v → E v u) ∧ ∀ u v, E u v → u < n * n ∧ v < n * n ∧ f u = f v
theorem Ein.r {n : Nat} {f : Nat → Int} {E : Nat → Nat → Prop} (h : Ein n f E) {x y : Nat} (hx : x < n * n) (hr : Rch E x y) : y < n * n ∧ f y = f x :=
  hr (fun z => z < n * n ∧ f z = f x) ⟨hx, rfl⟩ fun u v hu e => ⟨(h.2 u v e).2.1, by rw [← (h.2 u v e).2.2]; exact hu.2⟩
theorem Ein.add {n : Nat} {f : Nat → Int} {E : Nat → Nat → Prop} (h : Ein n f E) {a b : Nat} (ha : a < n * n) (hb : b < n * n) (hf : f a = f b) : Ein n f (addE E a b) := by
  refine ⟨addE_sy h.1, fun u v e => ?_⟩
  rcases e with e | ⟨rfl, rfl⟩ | ⟨rfl, rfl⟩
  · exact h.2 u v e
  · exact ⟨ha, hb, hf⟩
  · exact ⟨hb, ha, hf.symm⟩
theorem Ein_Eb (n : Nat) (f : Nat → Int) : Ein n f (Eb n f) := ⟨Eb_sy, fun _ _ e => ⟨e.1, e.2.1, e.2.2.1⟩⟩
section LKC
variable {s : Sg} {n : Nat} {f : Nat → Int} {sd : Int} {E : Nat → Nat → Prop} {P1 P2 : Nat → Prop}
theorem LkC.ch {s' : Sg} {L : List Nat} (h : LkC s n f sd E P1 P2) (hc : Ch L s s') (hL : ∀ x ∈ [5, 6, 7, 8], x ∉ L := by decide) : LkC s' n f sd E P1 P2 := by
  obtain ⟨a, b, c⟩ := h
  refine ⟨by rw [hc.g 5 (hL _ (by decide))]; exact a, fun x hx => by rw [hc.g 6 (hL _ (by decide))]; exact b x hx, fun x h1 h2 h3 => by rw [hc.g 8 (hL _ (by decide)), hc.g 7 (hL _ (by decide))]; exact c x h1 h2 h3⟩
theorem LkC.top (hL : LkC s n f sd E P1 P2) {c : Nat} (hc : c < n * n) (hn : n ≤ 9) : Li_top (c : Int) s = some (gi s 6 c) := by
  have h81 := nn_le hn
  have a6 : alen 6 = 81 := rfl
  unfold Li_top
  rw [Hx_at_n (by omega), bnd_some]
theorem LkC.tR (hL : LkC s n f sd E P1 P2) {c : Nat} (hc : c < 81) : R (gi s 6 c) := by
  by_cases h : c < n * n ∧ f c = sd
  · rw [(hL.2.1 c hc).1 h.1 h.2]
    have := lab_le E c
    exact R_nat (by omega)
  · rw [(hL.2.1 c hc).2 h]; exact R_n1
theorem LkC.self (hL : LkC s n f sd E P1 P2) {c : Nat} (hc : c < 81) : gi s 6 c = (c : Int) ↔ c < n * n ∧ f c = sd ∧ lab E c = c := by
  by_cases h : c < n * n ∧ f c = sd
  · rw [(hL.2.1 c hc).1 h.1 h.2]
    constructor
    · intro e; exact ⟨h.1, h.2, by omega⟩
    · rintro ⟨-, -, e⟩; rw [e]
  · rw [(hL.2.1 c hc).2 h]
    constructor
    · intro e; omega
    · rintro ⟨h1, h2, -⟩; exact absurd ⟨h1, h2⟩ h
theorem Li_link_ok {a b : Nat} (hG : GridOK s n) (hL : LkC s n f sd E P1 P2) (hE : Ein n f E) (ha : a < n * n) (hb : b < n * n) (fa : f a = sd) (fb : f b = sd) :
    okP (Li_link (a : Int) (b : Int) s) (fun t => Ch [6, 7, 8] s t ∧ LkC t n f sd (addE E a b) P1 P2) := by
  have h81 := nn_le hG.2.1
  have a6 : alen 6 = 81 := rfl
  have a7 : alen 7 = 81 := rfl
  have a8 : alen 8 = 81 := rfl
  have ta := (hL.2.1 a (by omega)).1 ha fa
  have tb := (hL.2.1 b (by omega)).1 hb fb
  have la := lab_le E a
  have lb := lab_le E b
  unfold Li_link
  rw [hL.top ha hG.2.1, bnd_some, hL.top hb hG.2.1, bnd_some, ta, tb, grd_t ⟨R_nat (by omega), R_nat (by omega)⟩, lett_eq, bnd_some, bnd_some, grd_t ⟨R_nat (by omega), R_nat (by omega)⟩, lett_eq]
  have emin : min ((lab E a : Nat) : Int) ((lab E b : Nat) : Int) = ((min (lab E a) (lab E b) : Nat) : Int) := by omega
  have emax : max ((lab E a : Nat) : Int) ((lab E b : Nat) : Int) = ((max (lab E a) (lab E b) : Nat) : Int) := by omega
  rw [emin, emax, ifEq_eq _ _ (R_nat (by omega)) (R_nat (by omega))]
  by_cases he : lab E a = lab E b
  · rw [if_pos (by omega)]
    refine okP_some ⟨Ch.rf _ _, hL.1, fun c hc => ⟨fun h1 h2 => ?_, (hL.2.1 c hc).2⟩, fun c h1 h2 h3 => ?_⟩
    · rw [lab_same hE.1 he]; exact (hL.2.1 c hc).1 h1 h2
    · rw [lab_same hE.1 he] at h3
      have h := hL.2.2 c h1 h2 h3
      rw [cnt_congr (q := fun x => Rch E c x) (fun x _ => Rch_same hE.1 he), ev_congr (p' := ∃ x, Rch E c x ∧ P1 x) (q' := ∃ x, Rch E c x ∧ P2 x) ⟨fun ⟨x, w1, w2⟩ => ⟨x, (Rch_same hE.1 he).mp w1, w2⟩, fun ⟨x, w1, w2⟩ => ⟨x, (Rch_same hE.1 he).mpr w1, w2⟩⟩ ⟨fun ⟨x, w1, w2⟩ => ⟨x, (Rch_same hE.1 he).mp w1, w2⟩, fun ⟨x, w1, w2⟩ => ⟨x, (Rch_same hE.1 he).mpr w1, w2⟩⟩]
      exact h
  · rw [if_neg (by omega)]
    generalize hlo : min (lab E a) (lab E b) = lo
    generalize hhg : max (lab E a) (lab E b) = hg
    have hne : lo < hg := by omega
    have hg81 : hg < n * n := by omega
    unfold Li_link_l39
    refine okP_bnd (P := fun t => Ch [6] s t ∧ ∀ c, gi t 6 c = if c < n * n ∧ gi s 6 c = (hg : Int) then (lo : Int) else gi s 6 c) (whl_for (fun (i : Nat) (t : Sg) => ((i : Int), t)) (n * n) (fun i t => Ch [6] s t ∧ ∀ c, gi t 6 c = if c < i ∧ gi s 6 c = (hg : Int) then (lo : Int) else gi s 6 c) (t0 := s) (Nat.zero_le _) ⟨Ch.rf _ _, fun c => (if_neg (fun q => absurd q.1 (Nat.not_lt_zero c))).symm⟩ ?_ ?_) ?_
    · rintro i t hi ⟨c1, c2⟩
      have hGt : GridOK t n := hG.ch c1 (by decide) (by decide) (by decide) (by decide)
      have hti : gi t 6 i = gi s 6 i := by rw [c2 i, if_neg (fun q => absurd q.1 (Nat.lt_irrefl i))]
      show okP (Li_link_t39 (lo : Int) (hg : Int) (i : Int) t) _
      unfold Li_link_t39 Li_link_b75
      rw [hGt.2.2.2.1, ifLt_eq _ _ (R_nat (by omega)) (R_nat (by omega)), if_pos (by omega), Hx_at_n (by omega), bnd_some, hti, ifEq_eq _ _ (hL.tR (by omega)) (R_nat (by omega))]
      by_cases e : gi s 6 i = (hg : Int)
      · rw [if_pos e, Hx_set_n (by omega), bnd_some]
        refine okP_some (Or.inl ⟨_, rfl, c1.tr (Ch.si (by decide)), fun c => ?_⟩)
        rw [gi_si_r, c2 c]
        by_cases q : c = i
        · rw [if_pos q, if_pos ⟨by omega, by rw [q]; exact e⟩]
        · rw [if_neg q]
          by_cases w : c < i ∧ gi s 6 c = (hg : Int)
          · rw [if_pos w, if_pos ⟨by omega, w.2⟩]
          · rw [if_neg w, if_neg (fun v => w ⟨by omega, v.2⟩)]
      · rw [if_neg e]
        refine okP_some (Or.inl ⟨t, rfl, c1, fun c => ?_⟩)
        rw [c2 c]
        by_cases w : c < i ∧ gi s 6 c = (hg : Int)
        · rw [if_pos w, if_pos ⟨by omega, w.2⟩]
        · rw [if_neg w, if_neg (fun v => w ⟨by
            by_cases q : c = i
            · exact absurd (q ▸ v.2) e
            · omega, v.2⟩)]
    · rintro t ⟨c1, c2⟩
      have hGt : GridOK t n := hG.ch c1 (by decide) (by decide) (by decide) (by decide)
      show okP (Li_link_t39 (lo : Int) (hg : Int) ((n * n : Nat) : Int) t) _
      unfold Li_link_t39
      rw [hGt.2.2.2.1, ifLt_eq _ _ (R_nat (by omega)) (R_nat (by omega)), if_neg (by omega)]
      exact okP_some ⟨t, rfl, c1, c2⟩
    · rintro t - ⟨c1, c2⟩
      rw [Hx_at_n (by omega), bnd_some, Hx_at_n (by omega), bnd_some, Hx_set_n (by omega), bnd_some, Hx_at_n (by omega), bnd_some, Hx_at_n (by omega), bnd_some, Hx_set_n (by omega), bnd_some]
      -- the two lowest cells
      have plo : lab E lo = lo ∧ f lo = sd ∧ lo < n * n ∧ (lo = lab E a ∨ lo = lab E b) := by
        rcases Nat.le_total (lab E a) (lab E b) with q | q
        · have e1 : lo = lab E a := by omega
          have h9 := hE.r ha (lab_r E a)
          exact ⟨by rw [e1]; exact lab_id hE.1 a, by rw [e1]; exact h9.2.trans fa, by rw [e1]; exact h9.1, Or.inl e1⟩
        · have e1 : lo = lab E b := by omega
          have h9 := hE.r hb (lab_r E b)
          exact ⟨by rw [e1]; exact lab_id hE.1 b, by rw [e1]; exact h9.2.trans fb, by rw [e1]; exact h9.1, Or.inr e1⟩
      have phg : lab E hg = hg ∧ f hg = sd ∧ (hg = lab E a ∨ hg = lab E b) := by
        rcases Nat.le_total (lab E a) (lab E b) with q | q
        · have e1 : hg = lab E b := by omega
          have h9 := hE.r hb (lab_r E b)
          exact ⟨by rw [e1]; exact lab_id hE.1 b, by rw [e1]; exact h9.2.trans fb, Or.inr e1⟩
        · have e1 : hg = lab E a := by omega
          have h9 := hE.r ha (lab_r E a)
          exact ⟨by rw [e1]; exact lab_id hE.1 a, by rw [e1]; exact h9.2.trans fa, Or.inl e1⟩
      have hlg : (lab E a = lo ∧ lab E b = hg) ∨ (lab E a = hg ∧ lab E b = lo) := by omega
      have hLo := hL.2.2 lo plo.2.2.1 plo.2.1 plo.1
      have hHg := hL.2.2 hg hg81 phg.2.1 phg.1
      -- what hangs together behind
      have rlo : ∀ x, Rch (addE E a b) lo x ↔ Rch E lo x ∨ Rch E hg x := by
        intro x
        rw [Rch_add]
        have ra := lab_r E a
        have rb := lab_r E b
        rcases hlg with ⟨q1, q2⟩ | ⟨q1, q2⟩
        · rw [q1] at ra
          rw [q2] at rb
          have nb : ¬ Rch E lo b := fun w => by
            have := lab_eq hE.1 w
            rw [plo.1, q2] at this
            omega
          exact ⟨fun w => w.elim Or.inl fun w => w.elim (fun w => Or.inr ((rb.sy hE.1).tr w.2)) (fun w => absurd w.1 nb), fun w => w.elim Or.inl fun w => Or.inr (Or.inl ⟨ra.sy hE.1, rb.tr w⟩)⟩
        · rw [q1] at ra
          rw [q2] at rb
          have na : ¬ Rch E lo a := fun w => by
            have := lab_eq hE.1 w
            rw [plo.1, q1] at this
            omega
          exact ⟨fun w => w.elim Or.inl fun w => w.elim (fun w => absurd w.1 na) (fun w => Or.inr ((ra.sy hE.1).tr w.2)), fun w => w.elim Or.inl fun w => Or.inr (Or.inr ⟨rb.sy hE.1, ra.tr w⟩)⟩
      have hdis : ∀ x, Rch E lo x → ¬ Rch E hg x := fun x w1 w2 => by
        have e1 := lab_eq hE.1 w1
        have e2 := lab_eq hE.1 w2
        rw [plo.1] at e1
        rw [phg.1] at e2
        omega
      have labn : ∀ c, lab (addE E a b) c = if lab E c = hg then lo else lab E c := by
        intro c
        rw [lab_add hE.1, hlo]
        by_cases w : lab E c = hg
        · rw [if_pos w, if_pos (by omega)]
        · rw [if_neg w]
          by_cases w2 : lab E c = lab E a ∨ lab E c = lab E b
          · rw [if_pos w2]; omega
          · rw [if_neg w2]
      refine okP_some ⟨(c1.mo (by decide)).tr ((Ch.si (by decide)).tr (Ch.si (by decide))), ?_, fun c hc => ⟨fun h1 h2 => ?_, fun h => ?_⟩, fun c h1 h2 h3 => ?_⟩
      · rw [gi_si_o _ _ _ _ (by omega), gi_si_o _ _ _ _ (by omega), c1.g 5]; exact hL.1
      · rw [gi_si_o _ _ _ _ (by omega), gi_si_o _ _ _ _ (by omega), c2 c, (hL.2.1 c hc).1 h1 h2, labn]
        by_cases w : lab E c = hg
        · rw [if_pos w, if_pos ⟨h1, by omega⟩]
        · rw [if_neg w, if_neg (fun q => w (by omega))]
      · rw [gi_si_o _ _ _ _ (by omega), gi_si_o _ _ _ _ (by omega), c2 c, (hL.2.1 c hc).2 h, if_neg (fun q => by omega)]
      · rw [labn] at h3
        by_cases w : lab E c = hg
        · rw [if_pos w] at h3
          have := lab_le E c
          omega
        · rw [if_neg w] at h3
          by_cases e : c = lo
          · subst e
            refine ⟨?_, ?_⟩
            · rw [gi_si_o _ _ _ _ (by omega), gi_si_s, c1.g 8, c1.g 8, hLo.1, hHg.1, cnt_congr (q := fun x => Rch E c x ∨ Rch E hg x) (fun x _ => rlo x), cnt_or (p := fun x => Rch E c x) (q := fun x => Rch E hg x) hdis]
              omega
            · rw [gi_si_s, gi_si_o _ _ _ _ (by omega), gi_si_o _ _ _ _ (by omega), c1.g 7, c1.g 7, hLo.2, hHg.2, ev_or]
              have key : ∀ Q : Nat → Prop, ((∃ x, Rch E c x ∧ Q x) ∨ ∃ x, Rch E hg x ∧ Q x) ↔ ∃ x, Rch (addE E a b) c x ∧ Q x := by
                intro Q
                constructor
                · rintro (⟨x, w1, w2⟩ | ⟨x, w1, w2⟩)
                  · exact ⟨x, (rlo x).mpr (Or.inl w1), w2⟩
                  · exact ⟨x, (rlo x).mpr (Or.inr w1), w2⟩
                · rintro ⟨x, w1, w2⟩
                  exact ((rlo x).mp w1).imp (fun w => ⟨x, w, w2⟩) (fun w => ⟨x, w, w2⟩)
              exact ev_congr (key P1) (key P2)
          · have hna : ¬ Rch E c a := fun q => by
              have := lab_eq hE.1 q
              omega
            have hnb : ¬ Rch E c b := fun q => by
              have := lab_eq hE.1 q
              omega
            have rc : ∀ x, Rch (addE E a b) c x ↔ Rch E c x := fun x => by
              rw [Rch_add]
              exact ⟨fun q => q.elim id fun q => q.elim (fun q => absurd q.1 hna) (fun q => absurd q.1 hnb), Or.inl⟩
            have h := hL.2.2 c h1 h2 h3
            refine ⟨?_, ?_⟩
            · rw [gi_si_o _ _ _ _ (by omega), gi_si_k _ _ _ e, c1.g 8, h.1, cnt_congr (q := fun x => Rch E c x) (fun x _ => rc x)]
            · rw [gi_si_k _ _ _ e, gi_si_o _ _ _ _ (by omega), c1.g 7, h.2]
              exact ev_congr ⟨fun ⟨x, w1, w2⟩ => ⟨x, (rc x).mpr w1, w2⟩, fun ⟨x, w1, w2⟩ => ⟨x, (rc x).mp w1, w2⟩⟩ ⟨fun ⟨x, w1, w2⟩ => ⟨x, (rc x).mpr w1, w2⟩, fun ⟨x, w1, w2⟩ => ⟨x, (rc x).mp w1, w2⟩⟩
theorem Li_reach_ok {a : Nat} {p q : Prop} (hn : n ≤ 9) (hL : LkC s n f sd E P1 P2) (hE : Ein n f E) (ha : a < n * n) (fa : f a = sd) :
    okP (Li_reach (a : Int) (ev p q) s) (fun t => Ch [7] s t ∧ LkC t n f sd E (fun x => P1 x ∨ (p ∧ x = a)) (fun x => P2 x ∨ (q ∧ x = a))) := by
  have h81 := nn_le hn
  have a7 : alen 7 = 81 := rfl
  have la := lab_le E a
  have h9 := hE.r ha (lab_r E a)
  have hla := hL.2.2 (lab E a) h9.1 (h9.2.trans fa) (lab_id hE.1 a)
  unfold Li_reach
  rw [hL.top ha hn, bnd_some, (hL.2.1 a (by omega)).1 ha fa, Hx_at_n (by omega), bnd_some, Hx_set_n (by omega), bnd_some]
  refine okP_some ⟨Ch.si (by decide), by rw [gi_si_o _ _ _ _ (by omega)]; exact hL.1, fun c hc => by rw [gi_si_o _ _ _ _ (by omega)]; exact hL.2.1 c hc, fun c h1 h2 h3 => ?_⟩
  rw [gi_si_o _ _ _ _ (by omega)]
  refine ⟨(hL.2.2 c h1 h2 h3).1, ?_⟩
  rw [gi_si_r]
  have key : ∀ (Q : Nat → Prop) (w : Prop), (∃ x, Rch E c x ∧ (Q x ∨ (w ∧ x = a))) ↔ (∃ x, Rch E c x ∧ Q x) ∨ (w ∧ Rch E c a) := by
    intro Q w
    constructor
    · rintro ⟨x, w1, w2 | ⟨w2, rfl⟩⟩
      · exact Or.inl ⟨x, w1, w2⟩
      · exact Or.inr ⟨w2, w1⟩
    · rintro (⟨x, w1, w2⟩ | ⟨w1, w2⟩)
      · exact ⟨x, w1, Or.inl w2⟩
      · exact ⟨a, w2, Or.inr ⟨w1, rfl⟩⟩
  rw [ev_congr (key P1 p) (key P2 q)]
  by_cases e : c = lab E a
  · have hca : Rch E c a := by rw [e]; exact (lab_r E a).sy hE.1
    rw [if_pos e, hla.2, ← e, ev_or]
    exact ev_congr ⟨fun h => h.imp id fun w => ⟨w, hca⟩, fun h => h.imp id fun w => w.1⟩ ⟨fun h => h.imp id fun w => ⟨w, hca⟩, fun h => h.imp id fun w => w.1⟩
  · have hca : ¬ Rch E c a := fun w => e (by rw [← h3]; exact lab_eq hE.1 w)
    rw [if_neg e, (hL.2.2 c h1 h2 h3).2]
    exact ev_congr ⟨Or.inl, fun h => h.elim id fun w => absurd w.2 hca⟩ ⟨Or.inl, fun h => h.elim id fun w => absurd w.2 hca⟩
end LKC
/-! ===== chains ===== -/
/-- stones that hang together by the first m bridges that count -/
def Ecm (n : Nat) (f : Nat → Int) (st : BL) (m : Nat) (x y : Nat) : Prop := Eb n f x y ∨ ∃ i, i < m ∧ eCt st i = 1 ∧ ∃ o : Nat, eOth st i = (o : Int) ∧ ((x = eLow st i ∧ y = o) ∨ (x = o ∧ y = eLow st i))
/-- a cell at an edge, or with one of the first m bridges to it -/
def Pcm (n : Nat) (sd : Int) (st : BL) (v w : Int) (m : Nat) (x : Nat) : Prop := edg n sd x = v ∨ ∃ i, i < m ∧ eCt st i = 1 ∧ eLow st i = x ∧ eOth st i = w
theorem Ecm_0 (n : Nat) (f : Nat → Int) (st : BL) : Ecm n f st 0 = Eb n f := by
  funext x y
  exact propext ⟨fun h => h.elim id fun ⟨i, hi, _⟩ => absurd hi (Nat.not_lt_zero i), Or.inl⟩
theorem Pcm_0 (n : Nat) (sd : Int) (st : BL) (v w : Int) : Pcm n sd st v w 0 = fun x => edg n sd x = v := by
  funext x
  exact propext ⟨fun h => h.elim id fun ⟨i, hi, _⟩ => absurd hi (Nat.not_lt_zero i), Or.inl⟩
theorem Ecm_no {n : Nat} {f : Nat → Int} {st : BL} {m : Nat} (h : eCt st m ≠ 1 ∨ eOth st m < 0) : Ecm n f st (m + 1) = Ecm n f st m := by
  funext x y
  refine propext ⟨fun q => q.imp id ?_, fun q => q.imp id fun ⟨i, hi, w⟩ => ⟨i, by omega, w⟩⟩
  rintro ⟨i, hi, w1, o, w2, w3⟩
  refine ⟨i, ?_, w1, o, w2, w3⟩
  by_cases e : i = m
  · subst e
    rcases h with h | h
    · exact absurd w1 h
    · omega
  · omega
theorem Ecm_yes {n : Nat} {f : Nat → Int} {st : BL} {m o : Nat} (h1 : eCt st m = 1) (h2 : eOth st m = (o : Int)) : Ecm n f st (m + 1) = addE (Ecm n f st m) (eLow st m) o := by
  funext x y
  refine propext ⟨?_, ?_⟩
  · rintro (q | ⟨i, hi, w1, o', w2, w3⟩)
    · exact Or.inl (Or.inl q)
    · by_cases e : i = m
      · subst e
        have : o' = o := by omega
        subst this
        exact Or.inr w3
      · exact Or.inl (Or.inr ⟨i, by omega, w1, o', w2, w3⟩)
  · rintro ((q | ⟨i, hi, w⟩) | q)
    · exact Or.inl q
    · exact Or.inr ⟨i, by omega, w⟩
    · exact Or.inr ⟨m, by omega, h1, o, h2, q⟩
theorem Pcm_no {n : Nat} {sd : Int} {st : BL} {v w : Int} {m : Nat} (h : eCt st m ≠ 1 ∨ eOth st m ≠ w) : Pcm n sd st v w (m + 1) = Pcm n sd st v w m := by
  funext x
  refine propext ⟨fun q => q.imp id ?_, fun q => q.imp id fun ⟨i, hi, w⟩ => ⟨i, by omega, w⟩⟩
  rintro ⟨i, hi, w1, w2, w3⟩
  refine ⟨i, ?_, w1, w2, w3⟩
  by_cases e : i = m
  · subst e
    rcases h with h | h
    · exact absurd w1 h
    · exact absurd w3 h
  · omega
theorem Pcm_yes {n : Nat} {sd : Int} {st : BL} {v w : Int} {m : Nat} (h1 : eCt st m = 1) (h2 : eOth st m = w) : Pcm n sd st v w (m + 1) = fun x => Pcm n sd st v w m x ∨ (True ∧ x = eLow st m) := by
  funext x
  refine propext ⟨?_, ?_⟩
  · rintro (q | ⟨i, hi, w1, w2, w3⟩)
    · exact Or.inl (Or.inl q)
    · by_cases e : i = m
      · subst e; exact Or.inr ⟨trivial, w2.symm⟩
      · exact Or.inl (Or.inr ⟨i, by omega, w1, w2, w3⟩)
  · rintro ((q | ⟨i, hi, w⟩) | ⟨-, q⟩)
    · exact Or.inl q
    · exact Or.inr ⟨i, by omega, w⟩
    · exact Or.inr ⟨m, by omega, h1, q.symm, h2⟩
theorem Pcm_skip (P : Nat → Prop) (a : Nat) : (fun x => P x ∨ (False ∧ x = a)) = P := by
  funext x
  exact propext ⟨fun q => q.elim id fun w => w.1.elim, Or.inl⟩
theorem Ein_Ecm {n : Nat} {f : Nat → Int} {sd : Int} {st : BL} (hw : BW n f sd st) : ∀ m, m ≤ st.1 → Ein n f (Ecm n f st m)
  | 0, _ => by rw [Ecm_0]; exact Ein_Eb n f
  | m + 1, hm => by
    have ih := Ein_Ecm hw m (by omega)
    by_cases h1 : eCt st m = 1
    · rcases hw.oth (show m < st.1 by omega) with ⟨o, e, ho, fo, -⟩ | e | e
      · have hl := hw.low (show m < st.1 by omega)
        rw [Ecm_yes h1 e]
        exact ih.add hl.2.1 ho (hl.2.2.trans fo.symm)
      · rw [Ecm_no (Or.inr (by omega))]; exact ih
      · rw [Ecm_no (Or.inr (by omega))]; exact ih
    · rw [Ecm_no (Or.inl h1)]; exact ih
theorem linkCounting_ok {s : Sg} {n : Nat} {f : Nat → Int} {sd : Int} {st : BL} (hG : GridOK s n) (hB : ClB s st) (hw : BW n f sd st) (hm : st.1 ≤ 405) (hL : LinksOK s n f sd) :
    okP (Bl_linkCounting s) (fun t => Ch [6, 7, 8] s t ∧ LkC t n f sd (Ecm n f st st.1) (Pcm n sd st 1 (-10) st.1) (Pcm n sd st 2 (-11) st.1)) := by
  have h81 := nn_le hG.2.1
  have a61 : alen 61 = 405 := rfl
  have a57 : alen 57 = 405 := rfl
  have a58 : alen 58 = 405 := rfl
  unfold Bl_linkCounting Bl_linkCounting_l2
  have h0 : LkC s n f sd (Ecm n f st 0) (Pcm n sd st 1 (-10) 0) (Pcm n sd st 2 (-11) 0) := by
    rw [Ecm_0, Pcm_0, Pcm_0]; exact hL
  refine okP_bnd (P := fun t => Ch [6, 7, 8] s t ∧ LkC t n f sd (Ecm n f st st.1) (Pcm n sd st 1 (-10) st.1) (Pcm n sd st 2 (-11) st.1)) (whl_for (fun (i : Nat) (t : Sg) => ((i : Int), t)) st.1 (fun i t => Ch [6, 7, 8] s t ∧ LkC t n f sd (Ecm n f st i) (Pcm n sd st 1 (-10) i) (Pcm n sd st 2 (-11) i)) (t0 := s) (Nat.zero_le _) ⟨Ch.rf _ _, h0⟩ ?_ ?_) (fun v _ hv => okP_some hv)
  · rintro i t hi ⟨c1, c2⟩
    have hGt : GridOK t n := hG.ch c1 (by decide) (by decide) (by decide) (by decide)
    have hl := hw.low hi
    have hE := Ein_Ecm hw i (by omega)
    show okP (Bl_linkCounting_t2 (i : Int) t) _
    unfold Bl_linkCounting_t2 Bl_linkCounting_b68
    rw [c1.g 56, hB.1, ifLt_eq _ _ (R_nat (by omega)) (R_nat (by omega)), if_pos (by omega), Hx_at_n (by omega), bnd_some, c1.g 61, (hB.2.1 i hi).2.2.2.2]
    show okP (ifEq (eCt st i) 1 _ _) _
    rw [ifEq_eq _ _ (hw.ctR hi) R1]
    by_cases h1 : eCt st i = 1
    · rw [if_pos h1, Hx_at_n (by omega), bnd_some, Hx_at_n (by omega), bnd_some, c1.g 57, c1.g 58, (hB.2.1 i hi).1, (hB.2.1 i hi).2.1, hl.1]
      show okP (ifLt (eOth st i) 0 _ _) _
      rw [ifLt_eq _ _ (hw.othR hG.2.1 hi) R0]
      rcases hw.oth hi with ⟨o, e, ho, fo, -⟩ | e | e
      · rw [e, if_neg (by omega)]
        show okP (bnd (Li_link (eLow st i : Int) (eOth st i) t) _) _
        rw [e]
        refine okP_bnd (Li_link_ok hGt c2 hE hl.2.1 ho hl.2.2 fo) ?_
        rintro u - ⟨d1, d2⟩
        refine okP_some (Or.inl ⟨u, rfl, c1.tr d1, ?_⟩)
        rw [Ecm_yes h1 e, Pcm_no (Or.inr (by omega)), Pcm_no (Or.inr (by omega))]
        exact d2
      · rw [if_pos (by omega)]
        show okP (bnd (Li_reach (eLow st i : Int) (ishlI 1 (-10 - eOth st i)) t) _) _
        have hb : ishlI 1 (-10 - eOth st i) = ev True False := by
          rw [e]
          unfold ev
          rw [if_pos trivial, if_neg (fun q => q)]
          decide
        rw [hb]
        refine okP_bnd (Li_reach_ok (p := True) (q := False) hG.2.1 c2 hE hl.2.1 hl.2.2) ?_
        rintro u - ⟨d1, d2⟩
        refine okP_some (Or.inl ⟨u, rfl, c1.tr (d1.mo (by decide)), ?_⟩)
        rw [Ecm_no (Or.inr (by omega)), Pcm_yes h1 e, Pcm_no (Or.inr (by omega))]
        rw [Pcm_skip] at d2
        exact d2
      · rw [if_pos (by omega)]
        show okP (bnd (Li_reach (eLow st i : Int) (ishlI 1 (-10 - eOth st i)) t) _) _
        have hb : ishlI 1 (-10 - eOth st i) = ev False True := by
          rw [e]
          unfold ev
          rw [if_neg (fun q => q), if_pos trivial]
          decide
        rw [hb]
        refine okP_bnd (Li_reach_ok (p := False) (q := True) hG.2.1 c2 hE hl.2.1 hl.2.2) ?_
        rintro u - ⟨d1, d2⟩
        refine okP_some (Or.inl ⟨u, rfl, c1.tr (d1.mo (by decide)), ?_⟩)
        rw [Ecm_no (Or.inr (by omega)), Pcm_no (Or.inr (by omega)), Pcm_yes h1 e]
        rw [Pcm_skip] at d2
        exact d2
    · rw [if_neg h1]
      refine okP_some (Or.inl ⟨t, rfl, c1, ?_⟩)
      rw [Ecm_no (Or.inl h1), Pcm_no (Or.inl h1), Pcm_no (Or.inl h1)]
      exact c2
  · rintro t ⟨c1, c2⟩
    show okP (Bl_linkCounting_t2 (st.1 : Int) t) _
    unfold Bl_linkCounting_t2
    rw [c1.g 56, hB.1, ifLt_eq _ _ (R_nat (by omega)) (R_nat (by omega)), if_neg (by omega)]
    exact okP_some ⟨t, rfl, c1, c2⟩

