/-! ===== groups and chains hold each stone once ===== -/
section PRT
variable {g h : Nat → Nat} {p q : Nat → Prop} {l : Nat → Nat}
def sm (g : Nat → Nat) : Nat → Nat
  | 0 => 0
  | k + 1 => sm g k + g k
theorem sm_congr : ∀ {N : Nat}, (∀ c, c < N → g c = h c) → sm g N = sm h N
  | 0, _ => rfl
  | N + 1, k => by
    show sm g N + g N = sm h N + h N
    rw [sm_congr fun c hc => k c (by omega), k N (by omega)]
theorem sm_add {j : Nat} (hj : h j = g j + 1) : ∀ {N : Nat}, j < N → (∀ c, c < N → c ≠ j → h c = g c) → sm h N = sm g N + 1
  | 0, hN, _ => absurd hN (Nat.not_lt_zero j)
  | N + 1, hN, k => by
    show sm h N + h N = sm g N + g N + 1
    by_cases e : j = N
    · have e1 : sm h N = sm g N := sm_congr fun c hc => k c (by omega) (by omega)
      rw [e1, ← e, hj]
      omega
    · rw [sm_add hj (by omega) fun c hc hcj => k c (by omega) hcj, k N (by omega) (by omega)]
      omega
theorem sm_zero : ∀ {N : Nat}, (∀ c, c < N → g c = 0) → sm g N = 0
  | 0, _ => rfl
  | N + 1, k => by
    show sm g N + g N = 0
    rw [sm_zero fun c hc => k c (by omega), k N (by omega)]
/-- how many of the first M belong to the class c -/
noncomputable def pk (q p : Nat → Prop) (l : Nat → Nat) (M c : Nat) : Nat := @ite _ (q c) (Classical.propDecidable _) (cnt (fun i => p i ∧ l i = c) M) 0
theorem pk_t {M c : Nat} (hq : q c) : pk q p l M c = cnt (fun i => p i ∧ l i = c) M := if_pos hq
theorem pk_f {M c : Nat} (hq : ¬ q c) : pk q p l M c = 0 := if_neg hq
/-- all classes together hold each once -/
theorem sm_part {N : Nat} : ∀ M, (∀ i, i < M → p i → l i < N ∧ q (l i)) → sm (pk q p l M) N = cnt p M
  | 0, _ => sm_zero fun c _ => by
    by_cases hq : q c
    · rw [pk_t hq]; rfl
    · rw [pk_f hq]
  | M + 1, k => by
    have ih := sm_part M fun i hi => k i (by omega)
    by_cases hp : p M
    · obtain ⟨k1, k2⟩ := k M (by omega) hp
      rw [cnt_t hp, ← ih]
      refine sm_add (j := l M) ?_ k1 fun c _ hcj => ?_
      · rw [pk_t k2, pk_t k2]
        exact cnt_t ⟨hp, rfl⟩
      · by_cases hq : q c
        · rw [pk_t hq, pk_t hq]
          exact cnt_f fun z => hcj z.2.symm
        · rw [pk_f hq, pk_f hq]
    · rw [cnt_f hp, ← ih]
      refine sm_congr fun c _ => ?_
      by_cases hq : q c
      · rw [pk_t hq, pk_t hq]
        exact cnt_f fun z => hp z.1
      · rw [pk_f hq, pk_f hq]
end PRT
section GRP
variable {X : Xs} {s : Sg} {sd : Int}
/-- a chain's own cell -/
def rpC (X : Xs) (sd : Int) (c : Nat) : Prop := X.b.f c = sd ∧ lab (Ech X.b.n X.b.f sd) c = c
noncomputable def gA2 (X : Xs) (sd : Int) (i : Nat) : Int := ((cnt (fun c => X.b.f c = sd) i : Nat) : Int)
noncomputable def gA3 (X : Xs) (sd : Int) (i : Nat) : Int := ((cnt (fun c => X.b.f c = sd ∧ lab (Eb X.b.n X.b.f) c = c) i : Nat) : Int)
noncomputable def gA4 (X : Xs) (sd : Int) (i : Nat) : Int := ((sm (pk (rpC X sd) (fun c => X.b.f c = sd) (lab (Ech X.b.n X.b.f sd)) (X.b.n * X.b.n)) i : Nat) : Int)
noncomputable def gA5 (X : Xs) (sd : Int) (i : Nat) : Int := ((cnt (rpC X sd) i : Nat) : Int)
noncomputable def gA6 (X : Xs) (sd : Int) (i : Nat) : Int := ((sm (pk (rpC X sd) (fun j => eCt (brs X.b.n X.b.f sd) j = 1) (fun j => lab (Ech X.b.n X.b.f sd) (eLow (brs X.b.n X.b.f sd) j)) (brs X.b.n X.b.f sd).1) i : Nat) : Int)
def jdG (X : Xs) (sd : Int) (c : Nat) : Prop := X.b.f c = sd ∧ evR X.b.n (Eb X.b.n X.b.f) sd (lab (Eb X.b.n X.b.f) c) = 3
def jdC (X : Xs) (sd : Int) (c : Nat) : Prop := X.b.f c = sd ∧ evC X.b.n X.b.f sd (lab (Ech X.b.n X.b.f sd) c) = 3
noncomputable def gA7 (X : Xs) (sd : Int) (i : Nat) : Int := bI (∃ c, c < i ∧ jdG X sd c)
noncomputable def gA8 (X : Xs) (sd : Int) (i : Nat) : Int := bI (∃ c, c < i ∧ jdC X sd c)
theorem bI_up {p : Nat → Prop} {i : Nat} (h : ¬ p i) : bI (∃ c, c < i + 1 ∧ p c) = bI (∃ c, c < i ∧ p c) := by
  rw [propext (exs_s p i)]
  congr 1
  exact propext ⟨fun q => q.resolve_right h, Or.inl⟩
theorem bI_old {p : Nat → Prop} {i : Nat} (h : ∃ c, c < i ∧ p c) : bI (∃ c, c < i + 1 ∧ p c) = 1 := bI_t ((exs_s p i).mpr (Or.inl h))
theorem bI_new {p : Nat → Prop} {i : Nat} (h : p i) : bI (∃ c, c < i + 1 ∧ p c) = 1 := bI_t ((exs_s p i).mpr (Or.inr h))
theorem Eb_Ech (n : Nat) (f : Nat → Int) (sd : Int) {x y : Nat} (h : Rch (Eb n f) x y) : Rch (Ech n f sd) x y := h.mono fun _ _ e => Or.inl e
/-- beside a stone: its own side's stones are of its group -/
theorem grp_nb (hX : XsOK X) (hC : CI X s) (h : sd = 0 ∨ sd = 1) {c : Nat} (hc : c < X.b.n * X.b.n) (hf : X.b.f c = sd) {x2 x3 x4 x5 x6 x7 x8 : Int} : okP (whl (fun σ : Int × Sg => La_groups_t148 sd x2 x3 x4 x5 x6 x7 x8 (c : Int) ((lab (Eb X.b.n X.b.f) c : Nat) : Int) σ.1 σ.2) (0, s)) (fun r => Ch LC s r) := by
  have h81 := nn_le hX.n9
  have hcR : R (c : Int) := R_nat (by omega)
  have hlb := lab_le (Eb X.b.n X.b.f) c
  refine whl_for (fun (i : Nat) (t : Sg) => ((i : Int), t)) 6 (fun _ t => Ch LC s t) (i0 := 0) (t0 := s) (Nat.zero_le _) (Ch.rf _ _) ?_ ?_
  · intro i t hi ht
    show okP (La_groups_t148 sd x2 x3 x4 x5 x6 x7 x8 (c : Int) ((lab (Eb X.b.n X.b.f) c : Nat) : Int) (i : Int) t) _
    have hiR : R (i : Int) := R_nat (by omega)
    have e : nbx X.b.n c (i : Int) = nbj X.b.n c i := by
      unfold nbx
      rw [if_pos ⟨by omega, by omega⟩]
      rfl
    have qn : ∀ t, Ch LC s t → okP (Hx_neighbour (c : Int) (i : Int) t) (fun o => Ch LC t o.2 ∧ o.1 = .inr (nbj X.b.n c i)) := fun t ht => by
      rw [← e]
      exact cq_neighbour hX hcR hiR hc (hC.ch ht)
    unfold La_groups_t148
    refine bndrQ (qn t ht) fun u hu => ?_
    have hcu := ht.tr hu
    rcases nbj_rg X.b.n c i with e1 | ⟨y, e1, hy, hA⟩
    · rw [e1]
      exact okP_ifLt R_n1 R0 (fun _ => okP_some (Or.inr ⟨u, rfl, hcu⟩)) fun z => absurd (by omega) z
    · have hyR : R (y : Int) := R_nat (by omega)
      rw [e1]
      refine okP_ifLt hyR R0 (fun z => absurd z (by omega)) fun _ => ?_
      have qn1 := qn u hcu
      rw [e1] at qn1
      refine bndrQ qn1 fun v hv => ?_
      have hcv := hcu.tr hv
      have fin : ∀ w, Ch LC s w → okP (La_groups_b195 sd x2 x3 x4 x5 x6 x7 x8 (c : Int) ((lab (Eb X.b.n X.b.f) c : Nat) : Int) (i : Int) w) (fun o => (∃ t', o = .inl (((i + 1 : Nat) : Int), t') ∧ Ch LC s t') ∨ ∃ r, o = .inr r ∧ Ch LC s r) := fun w hw =>
        okP_some (Or.inl ⟨w, by rw [show ((i + 1 : Nat) : Int) = (i : Int) + 1 by omega], hw⟩)
      refine bndrQ (cq_cell hX hyR hy (hC.ch hcv)) fun w hw => ?_
      have hcw := hcv.tr hw
      refine okP_ifEq (hX.fr.r hy) (R_01 h) (fun q => ?_) fun _ => fin w hcw
      have qn2 := qn w hcw
      rw [e1] at qn2
      refine bndrQ qn2 fun a ha => ?_
      have hca := hcw.tr ha
      have hne : ¬ X.b.f y = -1 := by omega
      have qg := cq_group_2 hX (w := 0) hyR R0 hy ⟨by omega, by omega⟩ hne (hC.ch hca)
      rw [if_pos rfl] at qg
      refine bndrQ qg fun b hb => ?_
      have hl : lab (Eb X.b.n X.b.f) c = lab (Eb X.b.n X.b.f) y := lab_eq Eb_sy (Rch.one ⟨hc, hy, hf.trans q.symm, by omega, hA⟩)
      refine okP_ifEq (by have := lab_le (Eb X.b.n X.b.f) y; exact R_nat (by omega)) (R_nat (by omega)) (fun _ => fin b (hca.tr hb)) fun z => absurd (by rw [hl]) z
  · intro t ht
    show okP (La_groups_t148 sd x2 x3 x4 x5 x6 x7 x8 (c : Int) ((lab (Eb X.b.n X.b.f) c : Nat) : Int) ((6 : Nat) : Int) t) _
    unfold La_groups_t148
    have qg := cq_neighbour hX (k := ((6 : Nat) : Int)) hcR (by unfold R; omega) hc (hC.ch ht)
    have e : nbx X.b.n c ((6 : Nat) : Int) = -1 := by
      unfold nbx
      rw [if_neg (by omega)]
    rw [e] at qg
    refine bndrQ qg fun u hu => ?_
    exact okP_ifLt R_n1 R0 (fun _ => okP_some ⟨u, rfl, ht.tr hu⟩) fun z => absurd (by omega) z
def gOut (X : Xs) (s : Sg) (sd : Int) (i : Nat) (o : (Int × Int × Int × Int × Int × Int × Int × Int × Sg) ⊕ (Int × Int × Int × Int × Int × Int × Int × Sg)) : Prop := ∃ u, o = .inl (gA2 X sd i, gA3 X sd i, gA4 X sd i, gA5 X sd i, gA6 X sd i, gA7 X sd i, gA8 X sd i, (i : Int), u) ∧ Ch LC s u
theorem grp_end {i : Nat} {x2 x3 x4 x5 x6 x7 x8 : Int} {t : Sg} (ht : Ch LC s t) (e2 : x2 = gA2 X sd (i + 1)) (e3 : x3 = gA3 X sd (i + 1)) (e4 : x4 = gA4 X sd (i + 1)) (e5 : x5 = gA5 X sd (i + 1)) (e6 : x6 = gA6 X sd (i + 1)) (e7 : x7 = gA7 X sd (i + 1)) (e8 : x8 = gA8 X sd (i + 1)) : okP (La_groups_b304 sd x2 x3 x4 x5 x6 x7 x8 (i : Int) t) (gOut X s sd (i + 1)) :=
  okP_some ⟨t, by rw [e2, e3, e4, e5, e6, e7, e8, show ((i + 1 : Nat) : Int) = (i : Int) + 1 by omega], ht⟩
section ONE
variable {i : Nat}
theorem qlabG (hX : XsOK X) (hi : i < X.b.n * X.b.n) (hf : X.b.f i = sd) (h : sd = 0 ∨ sd = 1) {t : Sg} (hC : CI X t) : okP (Hx_group (i : Int) 0 t) (fun o => Ch LC t o.2 ∧ o.1 = .inr ((lab (Eb X.b.n X.b.f) i : Nat) : Int)) := by
  have h81 := nn_le hX.n9
  have q := cq_group_2 hX (w := 0) (R_nat (show i ≤ 2147483647 by omega)) R0 hi ⟨by omega, by omega⟩ (by omega) hC
  rw [if_pos rfl] at q
  exact q
theorem qszG (hX : XsOK X) (hi : i < X.b.n * X.b.n) (hf : X.b.f i = sd) (h : sd = 0 ∨ sd = 1) {t : Sg} (hC : CI X t) : okP (Hx_group (i : Int) 1 t) (fun o => Ch LC t o.2 ∧ o.1 = .inr ((gsz X.b.n X.b.f i : Nat) : Int)) := by
  have h81 := nn_le hX.n9
  have q := cq_group_2 hX (w := 1) (R_nat (show i ≤ 2147483647 by omega)) R1 hi ⟨by omega, by omega⟩ (by omega) hC
  rw [if_neg (by omega), if_pos rfl] at q
  exact q
theorem qevG (hX : XsOK X) (hi : i < X.b.n * X.b.n) (hf : X.b.f i = sd) (h : sd = 0 ∨ sd = 1) {t : Sg} (hC : CI X t) : okP (Hx_group (i : Int) 3 t) (fun o => Ch LC t o.2 ∧ o.1 = .inr (evR X.b.n (Eb X.b.n X.b.f) sd (lab (Eb X.b.n X.b.f) i))) := by
  have h81 := nn_le hX.n9
  have q := cq_group_2 hX (w := 3) (R_nat (show i ≤ 2147483647 by omega)) R3 hi ⟨by omega, by omega⟩ (by omega) hC
  rw [if_neg (by omega), if_neg (by omega), if_neg (by omega), hf] at q
  exact q
theorem qlabC (hX : XsOK X) (hi : i < X.b.n * X.b.n) (hf : X.b.f i = sd) (h : sd = 0 ∨ sd = 1) {t : Sg} (hC : CI X t) : okP (Hx_chain (i : Int) 0 t) (fun o => Ch LC t o.2 ∧ o.1 = .inr ((lab (Ech X.b.n X.b.f sd) i : Nat) : Int)) := by
  have h81 := nn_le hX.n9
  have q := cq_chain_2 hX (w := 0) (R_nat (show i ≤ 2147483647 by omega)) R0 hi ⟨by omega, by omega⟩ (by omega) hC
  rw [if_pos rfl, hf] at q
  exact q
theorem qszC (hX : XsOK X) (hi : i < X.b.n * X.b.n) (hf : X.b.f i = sd) (h : sd = 0 ∨ sd = 1) {t : Sg} (hC : CI X t) : okP (Hx_chain (i : Int) 1 t) (fun o => Ch LC t o.2 ∧ o.1 = .inr ((cnt (fun x => Rch (Ech X.b.n X.b.f sd) i x) (X.b.n * X.b.n) : Nat) : Int)) := by
  have h81 := nn_le hX.n9
  have q := cq_chain_2 hX (w := 1) (R_nat (show i ≤ 2147483647 by omega)) R1 hi ⟨by omega, by omega⟩ (by omega) hC
  rw [if_neg (by omega), if_pos rfl, hf] at q
  exact q
theorem qctC (hX : XsOK X) (hi : i < X.b.n * X.b.n) (hf : X.b.f i = sd) (h : sd = 0 ∨ sd = 1) {t : Sg} (hC : CI X t) : okP (Hx_chain (i : Int) 2 t) (fun o => Ch LC t o.2 ∧ o.1 = .inr ((cnt (fun j => eCt (brs X.b.n X.b.f sd) j = 1 ∧ lab (Ech X.b.n X.b.f sd) (eLow (brs X.b.n X.b.f sd) j) = lab (Ech X.b.n X.b.f sd) i) (brs X.b.n X.b.f sd).1 : Nat) : Int)) := by
  have h81 := nn_le hX.n9
  have q := cq_chain_2 hX (w := 2) (R_nat (show i ≤ 2147483647 by omega)) R2 hi ⟨by omega, by omega⟩ (by omega) hC
  rw [if_neg (by omega), if_neg (by omega), if_pos rfl, hf] at q
  exact q
theorem qevC (hX : XsOK X) (hi : i < X.b.n * X.b.n) (hf : X.b.f i = sd) (h : sd = 0 ∨ sd = 1) {t : Sg} (hC : CI X t) : okP (Hx_chain (i : Int) 3 t) (fun o => Ch LC t o.2 ∧ o.1 = .inr (evC X.b.n X.b.f sd (lab (Ech X.b.n X.b.f sd) i))) := by
  have h81 := nn_le hX.n9
  have q := cq_chain_2 hX (w := 3) (R_nat (show i ≤ 2147483647 by omega)) R3 hi ⟨by omega, by omega⟩ (by omega) hC
  rw [if_neg (by omega), if_neg (by omega), if_neg (by omega), hf] at q
  exact q
/-- behind the counts: is it a chain's own cell -/
theorem grp_260 (hX : XsOK X) (hC : CI X s) (h : sd = 0 ∨ sd = 1) (hi : i < X.b.n * X.b.n) (hf : X.b.f i = sd) {t : Sg} (ht : Ch LC s t) {t0 t1 : Int} (e3 : t0 + t1 = gA3 X sd (i + 1)) : okP (La_groups_b260 sd (gA2 X sd (i + 1)) (gA4 X sd i) (gA5 X sd i) (gA6 X sd i) (gA7 X sd (i + 1)) (gA8 X sd (i + 1)) (i : Int) t0 t1 t) (gOut X s sd (i + 1)) := by
  have h81 := nn_le hX.n9
  have hlb := lab_le (Ech X.b.n X.b.f sd) i
  have hE : Ein X.b.n X.b.f (Ech X.b.n X.b.f sd) := Ein_Ech hX.1.1
  unfold La_groups_b260
  rw [lett_eq, e3]
  refine bndrQ (qlabC hX hi hf h (hC.ch ht)) fun u hu => ?_
  have hcu := ht.tr hu
  refine okP_ifEq (R_nat (by omega)) (R_nat (by omega)) (fun q => ?_) fun q => ?_
  · have q : lab (Ech X.b.n X.b.f sd) i = i := by omega
    have hr : rpC X sd i := ⟨hf, q⟩
    refine bndrQ (qszC hX hi hf h (hC.ch hcu)) fun v hv => ?_
    have hcv := hcu.tr hv
    rw [lett_eq]
    refine bndrQ (qctC hX hi hf h (hC.ch hcv)) fun w hw => ?_
    rw [lett_eq]
    refine grp_end (hcv.tr hw) rfl rfl ?_ ?_ ?_ rfl rfl
    · have e : cnt (fun x => Rch (Ech X.b.n X.b.f sd) i x) (X.b.n * X.b.n) = pk (rpC X sd) (fun c => X.b.f c = sd) (lab (Ech X.b.n X.b.f sd)) (X.b.n * X.b.n) i := by
        rw [pk_t hr]
        refine cnt_congr fun x hx => ⟨fun z => ⟨(hE.r hi z).2.trans hf, ?_⟩, fun z => ?_⟩
        · rw [← lab_eq hE.1 z, q]
        · exact (lab_iff hE.1).mp (q.trans z.2.symm)
      rw [e]
      show _ = ((sm _ i + pk _ _ _ _ i : Nat) : Int)
      rw [Int.natCast_add]
      rfl
    · have e := cnt_t (p := rpC X sd) hr
      unfold gA5
      omega
    · have e : cnt (fun j => eCt (brs X.b.n X.b.f sd) j = 1 ∧ lab (Ech X.b.n X.b.f sd) (eLow (brs X.b.n X.b.f sd) j) = lab (Ech X.b.n X.b.f sd) i) (brs X.b.n X.b.f sd).1 = pk (rpC X sd) (fun j => eCt (brs X.b.n X.b.f sd) j = 1) (fun j => lab (Ech X.b.n X.b.f sd) (eLow (brs X.b.n X.b.f sd) j)) (brs X.b.n X.b.f sd).1 i := by
        rw [pk_t hr, q]
      rw [e]
      show _ = ((sm _ i + pk _ _ _ _ i : Nat) : Int)
      rw [Int.natCast_add]
      rfl
  · have hr : ¬ rpC X sd i := fun z => q (by rw [z.2])
    refine grp_end hcu rfl rfl ?_ ?_ ?_ rfl rfl
    · show _ = ((sm _ i + pk _ _ _ _ i : Nat) : Int)
      rw [pk_f hr]
      rfl
    · unfold gA5
      rw [cnt_f hr]
    · show _ = ((sm _ i + pk _ _ _ _ i : Nat) : Int)
      rw [pk_f hr]
      rfl
theorem grp_245 (hX : XsOK X) (hC : CI X s) (h : sd = 0 ∨ sd = 1) (hi : i < X.b.n * X.b.n) (hf : X.b.f i = sd) {t : Sg} (ht : Ch LC s t) : okP (La_groups_b245 sd (gA2 X sd (i + 1)) (gA3 X sd i) (gA4 X sd i) (gA5 X sd i) (gA6 X sd i) (gA7 X sd (i + 1)) (i : Int) ((lab (Eb X.b.n X.b.f) i : Nat) : Int) (gA8 X sd (i + 1)) t) (gOut X s sd (i + 1)) := by
  have h81 := nn_le hX.n9
  have hlb := lab_le (Eb X.b.n X.b.f) i
  unfold La_groups_b245
  refine okP_ifEq (R_nat (by omega)) (R_nat (by omega)) (fun q => ?_) fun q => ?_
  · refine grp_260 hX hC h hi hf ht ?_
    have e := cnt_t (p := fun c => X.b.f c = sd ∧ lab (Eb X.b.n X.b.f) c = c) (N := i) ⟨hf, by omega⟩
    unfold gA3
    omega
  · refine grp_260 hX hC h hi hf ht ?_
    have e := cnt_f (p := fun c => X.b.f c = sd ∧ lab (Eb X.b.n X.b.f) c = c) (N := i) (fun z => q (by rw [z.2]))
    unfold gA3
    omega
theorem grp_222 (hX : XsOK X) (hC : CI X s) (h : sd = 0 ∨ sd = 1) (hi : i < X.b.n * X.b.n) (hf : X.b.f i = sd) {t : Sg} (ht : Ch LC s t) : okP (La_groups_b222 sd (gA2 X sd (i + 1)) (gA3 X sd i) (gA4 X sd i) (gA5 X sd i) (gA6 X sd i) (gA8 X sd i) (i : Int) ((lab (Eb X.b.n X.b.f) i : Nat) : Int) (gA7 X sd (i + 1)) t) (gOut X s sd (i + 1)) := by
  have fin1 : ∀ u, Ch LC s u → gA8 X sd (i + 1) = 1 → okP (La_groups_b240 sd (gA2 X sd (i + 1)) (gA3 X sd i) (gA4 X sd i) (gA5 X sd i) (gA6 X sd i) (gA7 X sd (i + 1)) (i : Int) ((lab (Eb X.b.n X.b.f) i : Nat) : Int) u) (gOut X s sd (i + 1)) := fun u hu e => by
    unfold La_groups_b240
    rw [← e]
    exact grp_245 hX hC h hi hf hu
  unfold La_groups_b222
  refine okP_ifEq (R_bI _) R0 (fun q => ?_) fun q => ?_
  · refine bndrQ (qevC hX hi hf h (hC.ch ht)) fun u hu => ?_
    refine okP_ifEq (R_ev _ _) R3 (fun q2 => fin1 u (ht.tr hu) (bI_new ⟨hf, q2⟩)) fun q2 => ?_
    have e : gA8 X sd (i + 1) = 0 := (bI_up (p := jdC X sd) fun z => q2 z.2).trans q
    rw [← e]
    exact grp_245 hX hC h hi hf (ht.tr hu)
  · refine fin1 t ht (bI_old ?_)
    apply Classical.byContradiction
    intro z
    exact q (bI_f z)
theorem grp_148 (hX : XsOK X) (hC : CI X s) (h : sd = 0 ∨ sd = 1) (hi : i < X.b.n * X.b.n) (hf : X.b.f i = sd) {t : Sg} (ht : Ch LC s t) : okP (La_groups_l148 sd (gA2 X sd (i + 1)) (gA3 X sd i) (gA4 X sd i) (gA5 X sd i) (gA6 X sd i) (gA7 X sd i) (gA8 X sd i) (i : Int) ((lab (Eb X.b.n X.b.f) i : Nat) : Int) 0 t) (gOut X s sd (i + 1)) := by
  have fin1 : ∀ u, Ch LC s u → gA7 X sd (i + 1) = 1 → okP (La_groups_b217 sd (gA2 X sd (i + 1)) (gA3 X sd i) (gA4 X sd i) (gA5 X sd i) (gA6 X sd i) (gA8 X sd i) (i : Int) ((lab (Eb X.b.n X.b.f) i : Nat) : Int) u) (gOut X s sd (i + 1)) := fun u hu e => by
    unfold La_groups_b217
    rw [← e]
    exact grp_222 hX hC h hi hf hu
  unfold La_groups_l148
  refine okP_bnd (grp_nb hX (hC.ch ht) h hi hf) ?_
  rintro r - hr
  have hcr := ht.tr hr
  refine okP_ifEq (R_bI _) R0 (fun q => ?_) fun q => ?_
  · refine bndrQ (qevG hX hi hf h (hC.ch hcr)) fun u hu => ?_
    refine okP_ifEq (R_ev _ _) R3 (fun q2 => fin1 u (hcr.tr hu) (bI_new ⟨hf, q2⟩)) fun q2 => ?_
    have e : gA7 X sd (i + 1) = 0 := (bI_up (p := jdG X sd) fun z => q2 z.2).trans q
    rw [← e]
    exact grp_222 hX hC h hi hf (hcr.tr hu)
  · refine fin1 r hcr (bI_old ?_)
    apply Classical.byContradiction
    intro z
    exact q (bI_f z)
theorem grp_22 (hX : XsOK X) (hC : CI X s) (h : sd = 0 ∨ sd = 1) (hi : i < X.b.n * X.b.n) {t : Sg} (ht : Ch LC s t) : okP (La_groups_t22 sd (gA2 X sd i) (gA3 X sd i) (gA4 X sd i) (gA5 X sd i) (gA6 X sd i) (gA7 X sd i) (gA8 X sd i) (i : Int) t) (gOut X s sd (i + 1)) := by
  have h81 := nn_le hX.n9
  have hiR : R (i : Int) := R_nat (by omega)
  unfold La_groups_t22
  refine bndrQ (cq_size0 hX (hC.ch ht)) fun u hu => ?_
  have hcu := ht.tr hu
  refine bndrQ (cq_size0 hX (hC.ch hcu)) fun v hv => ?_
  have hcv := hcu.tr hv
  rw [nnI, ifLt_eq _ _ hiR (R_nat (by omega)), if_pos (by omega)]
  refine bndrQ (cq_cell hX hiR hi (hC.ch hcv)) fun w hw => ?_
  have hcw := hcv.tr hw
  refine okP_ifEq (hX.fr.r hi) (R_01 h) (fun hf => ?_) fun q => ?_
  · have hlb := lab_le (Eb X.b.n X.b.f) i
    have hlc := lab_le (Ech X.b.n X.b.f sd) i
    have hlr := lab_r (Eb X.b.n X.b.f) i
    have hli := Eb_in hi hlr
    have hlf : X.b.f (lab (Eb X.b.n X.b.f) i) = sd := hli.2.trans hf
    have hE : Ein X.b.n X.b.f (Ech X.b.n X.b.f sd) := Ein_Ech hX.1.1
    have hlec : lab (Ech X.b.n X.b.f sd) i ≤ lab (Eb X.b.n X.b.f) i := lab_m (Eb_Ech _ _ sd hlr)
    have hllc : lab (Ech X.b.n X.b.f sd) i = lab (Ech X.b.n X.b.f sd) (lab (Eb X.b.n X.b.f) i) := lab_eq hE.1 (Eb_Ech _ _ sd hlr)
    have hgz := gsz_le X.b.n X.b.f i
    have hgz2 : gsz X.b.n X.b.f i ≤ cnt (fun x => Rch (Ech X.b.n X.b.f sd) i x) (X.b.n * X.b.n) := cnt_mono fun x _ z => Eb_Ech _ _ sd z
    refine bndrQ (qlabG hX hi hf h (hC.ch hcw)) fun a ha => ?_
    have hca := hcw.tr ha
    refine okP_ifLt hiR (R_nat (by omega)) (fun z => absurd z (by omega)) fun _ => ?_
    refine bndrQ (cq_cell hX (R_nat (by omega)) hli.1 (hC.ch hca)) fun b hb => ?_
    have hcb := hca.tr hb
    refine okP_ifEq (hX.fr.r hli.1) (R_01 h) (fun _ => ?_) fun z => absurd hlf z
    have q1 := qszG hX hli.1 hlf h (hC.ch hcb)
    rw [gsz_lab] at q1
    refine bndrQ q1 fun c hc => ?_
    have hcc := hcb.tr hc
    refine bndrQ (qszG hX hi hf h (hC.ch hcc)) fun d hd => ?_
    have hcd := hcc.tr hd
    refine okP_ifEq (R_nat (by omega)) (R_nat (by omega)) (fun _ => ?_) fun z => absurd rfl z
    refine bndrQ (qlabC hX hi hf h (hC.ch hcd)) fun e he => ?_
    have hce := hcd.tr he
    refine okP_ifLt (R_nat (by omega)) (R_nat (by omega)) (fun z => absurd z (by omega)) fun _ => ?_
    refine bndrQ (qlabC hX hi hf h (hC.ch hce)) fun e2 he2 => ?_
    have hce2 := hce.tr he2
    have q2 := qlabC hX hli.1 hlf h (hC.ch hce2)
    rw [← hllc] at q2
    refine bndrQ q2 fun e3 he3 => ?_
    have hce3 := hce2.tr he3
    refine okP_ifEq (R_nat (by omega)) (R_nat (by omega)) (fun _ => ?_) fun z => absurd rfl z
    refine bndrQ (qszC hX hi hf h (hC.ch hce3)) fun e4 he4 => ?_
    have hce4 := hce3.tr he4
    refine bndrQ (qszG hX hi hf h (hC.ch hce4)) fun e5 he5 => ?_
    have hce5 := hce4.tr he5
    have hcle := cnt_le (fun x => Rch (Ech X.b.n X.b.f sd) i x) (X.b.n * X.b.n)
    refine okP_ifLt (R_nat (by omega)) (R_nat (by omega)) (fun z => absurd z (by omega)) fun _ => ?_
    have e2 : gA2 X sd i + 1 = gA2 X sd (i + 1) := by
      have e := cnt_t (p := fun c => X.b.f c = sd) (N := i) hf
      unfold gA2
      omega
    rw [e2]
    exact grp_148 hX hC h hi hf hce5
  · have n1 : ¬ rpC X sd i := fun z => q z.1
    refine grp_end hcw ?_ ?_ ?_ ?_ ?_ ?_ ?_
    · unfold gA2; rw [cnt_f (p := fun c => X.b.f c = sd) q]
    · unfold gA3; rw [cnt_f (p := fun c => X.b.f c = sd ∧ lab (Eb X.b.n X.b.f) c = c) fun z => q z.1]
    · show _ = ((sm _ i + pk _ _ _ _ i : Nat) : Int)
      rw [pk_f n1]
      rfl
    · unfold gA5; rw [cnt_f n1]
    · show _ = ((sm _ i + pk _ _ _ _ i : Nat) : Int)
      rw [pk_f n1]
      rfl
    · exact (bI_up (p := jdG X sd) fun z => q z.1).symm
    · exact (bI_up (p := jdC X sd) fun z => q z.1).symm
end ONE
theorem jdG_iff (hX : XsOK X) : (∃ c, c < X.b.n * X.b.n ∧ jdG X sd c) ↔ Jn X.b.n X.b.f sd := by
  rw [Jn_iff]
  constructor
  · rintro ⟨c, hc, hf, he⟩
    have hli := Eb_in hc (lab_r (Eb X.b.n X.b.f) c)
    exact ⟨_, hli.1, hli.2.trans hf, lab_id Eb_sy c, he⟩
  · rintro ⟨k, hk, hf, hl, he⟩
    exact ⟨k, hk, hf, by rw [hl]; exact he⟩
theorem jdC_iff (hX : XsOK X) : (∃ c, c < X.b.n * X.b.n ∧ jdC X sd c) ↔ ∃ k, k < X.b.n * X.b.n ∧ X.b.f k = sd ∧ lab (Ech X.b.n X.b.f sd) k = k ∧ evC X.b.n X.b.f sd k = 3 := by
  have hE : Ein X.b.n X.b.f (Ech X.b.n X.b.f sd) := Ein_Ech hX.1.1
  constructor
  · rintro ⟨c, hc, hf, he⟩
    have hli := hE.r hc (lab_r _ c)
    exact ⟨_, hli.1, hli.2.trans hf, lab_id hE.1 c, he⟩
  · rintro ⟨k, hk, hf, hl, he⟩
    exact ⟨k, hk, hf, by rw [hl]; exact he⟩
/-- a group that joins lies in a chain that does -/
theorem jdG_C (hX : XsOK X) (h : ∃ c, c < X.b.n * X.b.n ∧ jdG X sd c) : ∃ c, c < X.b.n * X.b.n ∧ jdC X sd c := by
  have hE : Ein X.b.n X.b.f (Ech X.b.n X.b.f sd) := Ein_Ech hX.1.1
  obtain ⟨c, hc, hf, he⟩ := h
  refine ⟨c, hc, hf, ?_⟩
  obtain ⟨⟨x, rx, ex⟩, y, ry, ey⟩ := (ev3 _ _).mp he
  have hl : Rch (Ech X.b.n X.b.f sd) (lab (Ech X.b.n X.b.f sd) c) (lab (Eb X.b.n X.b.f) c) := ((lab_r (Ech X.b.n X.b.f sd) c).sy hE.1).tr (Eb_Ech _ _ sd (lab_r (Eb X.b.n X.b.f) c))
  exact (ev3 _ _).mpr ⟨⟨x, hl.tr (Eb_Ech _ _ sd rx), Or.inl ex⟩, y, hl.tr (Eb_Ech _ _ sd ry), Or.inl ey⟩
theorem wnr_jn (hX : XsOK X) (h : sd = 0 ∨ sd = 1) (hj : Jn X.b.n X.b.f sd) : wnr X.b.n X.b.f X.b.g = sd := by
  have e : jnd X.b.n X.b.f = sd := by
    unfold jnd
    rcases h with rfl | rfl
    · rw [if_pos (bI_t hj)]
    · have h0 : ¬ Jn X.b.n X.b.f 0 := fun z => hex_both hX.1.1.1 hX.fr z hj
      rw [if_neg (by rw [bI_f h0]; decide), if_pos (bI_t hj)]
  unfold wnr
  rw [e, if_neg (by omega)]
theorem wnr_no (hX : XsOK X) (h : sd = 0 ∨ sd = 1) (hj : ¬ Jn X.b.n X.b.f sd) (hw : wnr X.b.n X.b.f X.b.g = sd) : X.b.g = 1 - sd := by
  unfold wnr at hw
  by_cases e : jnd X.b.n X.b.f = -1
  · rw [if_pos e] at hw
    by_cases g1 : X.b.g = -1
    · rw [if_pos g1] at hw; omega
    · rw [if_neg g1] at hw; omega
  · rw [if_neg e] at hw
    exfalso
    unfold jnd at hw
    by_cases j0 : Jn X.b.n X.b.f 0
    · rw [if_pos (bI_t j0)] at hw
      exact hj (by rw [← hw]; exact j0)
    · rw [if_neg (by rw [bI_f j0]; decide)] at hw
      by_cases j1 : Jn X.b.n X.b.f 1
      · rw [if_pos (bI_t j1)] at hw
        exact hj (by rw [← hw]; exact j1)
      · rw [if_neg (by rw [bI_f j1]; decide)] at hw
        omega
theorem bst_no {n : Nat} {f : Nat → Int} {sd : Int} : ∀ i, (bst n f sd i = -1 ↔ ∀ k, k < i → ¬ (f k = sd ∧ lab (Eb n f) k = k))
  | 0 => ⟨fun _ k hk => absurd hk (Nat.not_lt_zero k), fun _ => rfl⟩
  | i + 1 => by
    have ih := bst_no (n := n) (f := f) (sd := sd) i
    rw [bst_s]
    by_cases h : f i = sd ∧ lab (Eb n f) i = i ∧ (bst n f sd i = -1 ∨ gsz n f (bst n f sd i).toNat < gsz n f i)
    · rw [if_pos h]
      exact ⟨fun z => absurd z (by omega), fun z => absurd ⟨h.1, h.2.1⟩ (z i (by omega))⟩
    · rw [if_neg h, ih]
      refine ⟨fun z k hk => ?_, fun z k hk => z k (by omega)⟩
      by_cases e : k = i
      · rw [e]
        exact fun w => h ⟨w.1, w.2, Or.inl (ih.mpr z)⟩
      · exact z k (by omega)
theorem groups_ok (hX : XsOK X) (hC : CI X s) (h : sd = 0 ∨ sd = 1) : okP (La_groups sd s) (fun o => Ch LC s o.2 ∧ o.1 = 1) := by
  have h81 := nn_le hX.n9
  have hE : Ein X.b.n X.b.f (Ech X.b.n X.b.f sd) := Ein_Ech hX.1.1
  have hbw := brs_w (f := X.b.f) (sd := sd) hX.1.1
  unfold La_groups La_groups_l22
  refine okP_bnd (P := fun r => ∃ u, r = (gA2 X sd (X.b.n * X.b.n), gA3 X sd (X.b.n * X.b.n), gA4 X sd (X.b.n * X.b.n), gA5 X sd (X.b.n * X.b.n), gA6 X sd (X.b.n * X.b.n), gA7 X sd (X.b.n * X.b.n), gA8 X sd (X.b.n * X.b.n), u) ∧ Ch LC s u) ?_ ?_
  · have z7 : gA7 X sd 0 = 0 := bI_f fun ⟨c, hc, _⟩ => absurd hc (Nat.not_lt_zero c)
    have z8 : gA8 X sd 0 = 0 := bI_f fun ⟨c, hc, _⟩ => absurd hc (Nat.not_lt_zero c)
    have key := whl_for (f := fun σ : Int × Int × Int × Int × Int × Int × Int × Int × Sg => La_groups_t22 sd σ.1 σ.2.1 σ.2.2.1 σ.2.2.2.1 σ.2.2.2.2.1 σ.2.2.2.2.2.1 σ.2.2.2.2.2.2.1 σ.2.2.2.2.2.2.2.1 σ.2.2.2.2.2.2.2.2) (fun (i : Nat) (t : Sg) => (gA2 X sd i, gA3 X sd i, gA4 X sd i, gA5 X sd i, gA6 X sd i, gA7 X sd i, gA8 X sd i, (i : Int), t)) (X.b.n * X.b.n) (fun _ t => Ch LC s t) (Q := fun r => ∃ u, r = (gA2 X sd (X.b.n * X.b.n), gA3 X sd (X.b.n * X.b.n), gA4 X sd (X.b.n * X.b.n), gA5 X sd (X.b.n * X.b.n), gA6 X sd (X.b.n * X.b.n), gA7 X sd (X.b.n * X.b.n), gA8 X sd (X.b.n * X.b.n), u) ∧ Ch LC s u) (i0 := 0) (t0 := s) (Nat.zero_le _) (Ch.rf _ _) ?_ ?_
    · rw [z7, z8] at key
      exact key
    · intro i t hi ht
      exact okP_mono (grp_22 hX hC h hi ht) fun o ⟨u, e, hu⟩ => Or.inl ⟨u, e, hu⟩
    · intro t ht
      show okP (La_groups_t22 sd (gA2 X sd (X.b.n * X.b.n)) (gA3 X sd (X.b.n * X.b.n)) (gA4 X sd (X.b.n * X.b.n)) (gA5 X sd (X.b.n * X.b.n)) (gA6 X sd (X.b.n * X.b.n)) (gA7 X sd (X.b.n * X.b.n)) (gA8 X sd (X.b.n * X.b.n)) ((X.b.n * X.b.n : Nat) : Int) t) _
      unfold La_groups_t22
      refine bndrQ (cq_size0 hX (hC.ch ht)) fun u hu => ?_
      refine bndrQ (cq_size0 hX (hC.ch (ht.tr hu))) fun v hv => ?_
      rw [nnI, ifLt_eq _ _ (R_nat (by omega)) (R_nat (by omega)), if_neg (by omega)]
      exact okP_some ⟨_, rfl, v, rfl, (ht.tr hu).tr hv⟩
  rintro r - ⟨u, rfl, hu⟩
  show okP (ifEq (gA7 X sd (X.b.n * X.b.n)) 0 (La_groups_b325 sd (gA2 X sd (X.b.n * X.b.n)) (gA3 X sd (X.b.n * X.b.n)) (gA4 X sd (X.b.n * X.b.n)) (gA5 X sd (X.b.n * X.b.n)) (gA6 X sd (X.b.n * X.b.n)) (gA7 X sd (X.b.n * X.b.n)) (gA8 X sd (X.b.n * X.b.n)) u) (bndr (Hx_size 6 u) fun y75 s76 => ifEq y75 sd (La_groups_b325 sd (gA2 X sd (X.b.n * X.b.n)) (gA3 X sd (X.b.n * X.b.n)) (gA4 X sd (X.b.n * X.b.n)) (gA5 X sd (X.b.n * X.b.n)) (gA6 X sd (X.b.n * X.b.n)) (gA7 X sd (X.b.n * X.b.n)) (gA8 X sd (X.b.n * X.b.n)) s76) none)) _
  have e4 : gA4 X sd (X.b.n * X.b.n) = gA2 X sd (X.b.n * X.b.n) := by
    unfold gA4 gA2
    rw [sm_part]
    intro i hi hf
    have hli := hE.r hi (lab_r _ i)
    exact ⟨hli.1, hli.2.trans hf, lab_id hE.1 i⟩
  have e6 : gA6 X sd (X.b.n * X.b.n) = ((bcnt (brs X.b.n X.b.f sd) : Nat) : Int) := by
    unfold gA6
    rw [sm_part]
    · rfl
    intro j hj _
    obtain ⟨-, k2, k3⟩ := hbw.1.low hj
    have hli := hE.r k2 (lab_r _ (eLow (brs X.b.n X.b.f sd) j))
    exact ⟨hli.1, hli.2.trans k3, lab_id hE.1 _⟩
  have r2 : R (gA2 X sd (X.b.n * X.b.n)) := R_cnt hX _
  have r3 : R (gA3 X sd (X.b.n * X.b.n)) := R_cnt hX _
  have r5 : R (gA5 X sd (X.b.n * X.b.n)) := R_cnt hX _
  have r7 : R (gA7 X sd (X.b.n * X.b.n)) := R_bI _
  have r8 : R (gA8 X sd (X.b.n * X.b.n)) := R_bI _
  have hwR : R (wnr X.b.n X.b.f X.b.g) := wnr_R hX
  have hrb : R ((bcnt (brs X.b.n X.b.f sd) : Nat) : Int) := by
    have h1 : bcnt (brs X.b.n X.b.f sd) ≤ (brs X.b.n X.b.f sd).1 := cnt_le _ _
    have h2 := hbw.2
    exact R_nat (by omega)
  have hjj := jdG_iff (X := X) (sd := sd) hX
  have hs1 : 1 - sd = 0 ∨ 1 - sd = 1 := by
    rcases h with e | e
    · exact Or.inr (by rw [e]; rfl)
    · exact Or.inl (by rw [e]; rfl)
  have hsd : sd ≠ -1 := by omega
  have k7 : gA7 X sd (X.b.n * X.b.n) = 0 ↔ ¬ Jn X.b.n X.b.f sd := by
    rw [← hjj]
    exact ⟨fun z w => absurd ((bI_t w).symm.trans z) (by decide), fun z => bI_f z⟩
  -- the last conditions
  have f354 : ∀ t, Ch LC s t → okP (La_groups_b354 sd (gA2 X sd (X.b.n * X.b.n)) (gA3 X sd (X.b.n * X.b.n)) (gA4 X sd (X.b.n * X.b.n)) (gA5 X sd (X.b.n * X.b.n)) (gA6 X sd (X.b.n * X.b.n)) (gA7 X sd (X.b.n * X.b.n)) (gA8 X sd (X.b.n * X.b.n)) t) (fun o => Ch LC s o.2 ∧ o.1 = 1) := by
    intro t ht
    have f421 : ∀ t, Ch LC s t → okP (La_groups_b421 sd (gA2 X sd (X.b.n * X.b.n)) (gA7 X sd (X.b.n * X.b.n)) t) (fun o => Ch LC s o.2 ∧ o.1 = 1) := by
      intro t ht
      have f434 : ∀ t0 t, Ch LC s t → t0 = gA7 X sd (X.b.n * X.b.n) → okP (La_groups_b434 sd (gA2 X sd (X.b.n * X.b.n)) (gA7 X sd (X.b.n * X.b.n)) t0 t) (fun o => Ch LC s o.2 ∧ o.1 = 1) := by
        intro t0 t ht e
        have hbn := bst_no (n := X.b.n) (f := X.b.f) (sd := sd) (X.b.n * X.b.n)
        have hbg := bst_rg X.b.n X.b.f sd (X.b.n * X.b.n)
        have hz : bst X.b.n X.b.f sd (X.b.n * X.b.n) < 0 ↔ gA2 X sd (X.b.n * X.b.n) = 0 := by
          unfold gA2
          constructor
          · intro z
            have z1 : bst X.b.n X.b.f sd (X.b.n * X.b.n) = -1 := by
              rcases hbg with e | ⟨k, e, -⟩
              · exact e
              · omega
            have z2 := hbn.mp z1
            have z3 : cnt (fun c => X.b.f c = sd) (X.b.n * X.b.n) = 0 := cnt_zero fun i hi hf => by
              have hli := Eb_in hi (lab_r (Eb X.b.n X.b.f) i)
              exact z2 _ hli.1 ⟨hli.2.trans hf, lab_id Eb_sy i⟩
            rw [z3]
            rfl
          · intro z
            rcases hbg with e | ⟨k, e, hk, hf, -⟩
            · omega
            · have := cnt_pos (p := fun c => X.b.f c = sd) hk hf
              omega
        unfold La_groups_b434
        refine okP_ifEq (by rw [e]; exact r7) r7 (fun _ => ?_) fun z => absurd e z
        refine bndrQ (cq_largest hX (R_01 h) h (hC.ch ht)) fun w hw => ?_
        have hcw := ht.tr hw
        have fin : ∀ t0, okP (La_groups_b461 t0 t0 w) (fun o => Ch LC s o.2 ∧ o.1 = 1) ∨ ¬ R t0 := fun t0 => by
          by_cases q : R t0
          · left
            unfold La_groups_b461
            exact okP_ifEq q q (fun _ => okP_some ⟨hcw, rfl⟩) fun z => absurd rfl z
          · exact Or.inr q
        refine okP_ifLt (bst_R hX.n9 _ _) R0 (fun z => ?_) fun z => ?_
        · unfold La_groups_b452
          exact okP_ifEq r2 R0 (fun _ => (fin 1).resolve_right fun n => n R1) fun n => absurd (hz.mp z) n
        · unfold La_groups_b452
          exact okP_ifEq r2 R0 (fun n => absurd (hz.mpr n) z) fun _ => (fin 0).resolve_right fun n => n R0
      unfold La_groups_b421
      refine bndrQ (cq_distance hX (R_01 h) h (hC.ch ht)) fun w hw => ?_
      refine okP_ifEq (lsw_R hX.n9 _ _) R0 (fun z => f434 1 w (ht.tr hw) ?_) fun z => f434 0 w (ht.tr hw) ?_
      · exact (bI_t (hjj.mpr ((jn_iff_lsw hsd).mpr z))).symm
      · exact (bI_f fun q => z ((jn_iff_lsw hsd).mp (hjj.mp q))).symm
    have qs : okP (Hx_size (1 + sd) t) (fun o => Ch LC t o.2 ∧ o.1 = .inr (gA2 X sd (X.b.n * X.b.n))) := by
      rcases h with rfl | rfl
      · exact cq_size1 hX (hC.ch ht)
      · exact cq_size2 hX (hC.ch ht)
    unfold La_groups_b354
    refine bndrQ qs fun a ha => ?_
    have hca := ht.tr ha
    refine okP_ifEq r2 r2 (fun _ => ?_) fun z => absurd rfl z
    refine bndrQ (cq_groups hX (R_01 h) h (hC.ch hca)) fun b hb => ?_
    have hcb := hca.tr hb
    refine okP_ifEq r3 r3 (fun _ => ?_) fun z => absurd rfl z
    refine bndrQ (cq_chains hX (R_01 h) h (hC.ch hcb)) fun c hc => ?_
    have hcc := hcb.tr hc
    refine okP_ifEq r5 r5 (fun _ => ?_) fun z => absurd rfl z
    rw [e4]
    refine okP_ifEq r2 r2 (fun _ => ?_) fun z => absurd rfl z
    have qb := cq_bridges hX (x := sd) (y := 1) (R_01 h) R1 h (hC.ch hcc)
    rw [if_neg (by omega)] at qb
    refine bndrQ qb fun d hd => ?_
    have hcd := hcc.tr hd
    rw [e6]
    refine okP_ifEq hrb hrb (fun _ => ?_) fun z => absurd rfl z
    have qs := cq_isSafe hX (R_01 h) h (hC.ch hcd)
    rw [← jdC_iff hX] at qs
    refine bndrQ qs fun e he => ?_
    have hce := hcd.tr he
    refine okP_ifEq r8 r8 (fun _ => ?_) fun z => absurd rfl z
    refine okP_ifEq r7 R0 (fun _ => f421 e hce) fun z => ?_
    refine okP_ifEq r8 R0 (fun z8 => ?_) fun _ => f421 e hce
    exfalso
    have hj : Jn X.b.n X.b.f sd := Classical.byContradiction fun n => z (k7.mpr n)
    have h8 := bI_t (jdG_C hX (hjj.mpr hj))
    exact absurd (h8.symm.trans z8) (by decide)
  have f325 : ∀ t, Ch LC s t → okP (La_groups_b325 sd (gA2 X sd (X.b.n * X.b.n)) (gA3 X sd (X.b.n * X.b.n)) (gA4 X sd (X.b.n * X.b.n)) (gA5 X sd (X.b.n * X.b.n)) (gA6 X sd (X.b.n * X.b.n)) (gA7 X sd (X.b.n * X.b.n)) (gA8 X sd (X.b.n * X.b.n)) t) (fun o => Ch LC s o.2 ∧ o.1 = 1) := by
    intro t ht
    unfold La_groups_b325
    refine okP_ifEq r7 R0 (fun z => ?_) fun _ => f354 t ht
    refine bndrQ (cq_size6 hX (hC.ch ht)) fun a ha => ?_
    have hca := ht.tr ha
    refine okP_ifEq hwR (R_01 h) (fun w => ?_) fun _ => f354 a hca
    refine bndrQ (cq_size8 hX (hC.ch hca)) fun b hb => ?_
    have e := wnr_no hX h (k7.mp z) w
    exact okP_ifEq (by rw [e]; exact R_01 hs1) (R_01 hs1) (fun _ => f354 b (hca.tr hb)) fun n => absurd e n
  refine okP_ifEq r7 R0 (fun _ => f325 u hu) fun z => ?_
  refine bndrQ (cq_size6 hX (hC.ch hu)) fun a ha => ?_
  have hj : Jn X.b.n X.b.f sd := Classical.byContradiction fun n => z (k7.mpr n)
  have e := wnr_jn hX h hj
  exact okP_ifEq hwR (R_01 h) (fun _ => f325 a (hu.tr ha)) fun n => absurd e n
end GRP
