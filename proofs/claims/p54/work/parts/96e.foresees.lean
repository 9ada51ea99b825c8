/-! ===== what is solved, filled and foreseen comes, and changes nothing ===== -/
theorem W1_b {X Y : Xs} (h : Y.b = X.b) (k : Nat) : W1 Y k = W1 X k := by
  have e : ∀ k, svl Y k = svl X k := fun k => by unfold svl; rw [h]
  have e0 : mvx Y 0 = mvx X 0 := by unfold mvx; rw [h]
  induction k with
  | zero => exact e0
  | succ k ih =>
    show 31 * W1 Y k + svl Y k = 31 * W1 X k + svl X k
    rw [ih, e k]
theorem W2_b {X Y : Xs} (h : Y.b = X.b) (k : Nat) : W2 Y k = W2 X k := by
  induction k with
  | zero => exact W1_b h 9
  | succ k ih =>
    show 31 * W2 Y k + Y.b.f k = 31 * W2 X k + X.b.f k
    rw [ih, h]
theorem W3_b {X Y : Xs} (h : Y.b = X.b) (k : Nat) : W3 Y k = W3 X k := by
  induction k with
  | zero =>
    show W2 Y (Y.b.n * Y.b.n) = W2 X (X.b.n * X.b.n)
    rw [W2_b h, h]
  | succ k ih =>
    show 31 * W3 Y k + Y.b.mv k = 31 * W3 X k + X.b.mv k
    rw [ih, h]
theorem Wv_b {X Y : Xs} (h : Y.b = X.b) : Wv Y = Wv X := by
  unfold Wv
  rw [W3_b h, h]
section FRS
variable {X : Xs} {s : Sg} {b : Bd}
theorem wnr_g {n : Nat} {f : Nat → Int} {g : Int} (hg : g = -1 ∨ g = 0 ∨ g = 1) (h : wnr n f g = -1) : jnd n f = -1 ∧ g = -1 := by
  unfold wnr at h
  by_cases e : jnd n f = -1
  · rw [if_pos e] at h
    by_cases e2 : g = -1
    · exact ⟨e, e2⟩
    · rw [if_neg e2] at h
      omega
  · rw [if_neg e] at h
    exact absurd h e
theorem Fc_some (hb : BdOK b) (hw : wnr b.n b.f b.g = -1) : Fc b.n b.f ≠ 0 := fun h => by
  have hF := Fc_zero hb.2.1 h
  have hj := (wnr_g hb.2.2.2.2.1 hw).1
  rcases jnd_cases b.n b.f with ⟨e, -⟩ | ⟨e, -, -⟩ | ⟨-, h0, h1⟩
  · omega
  · omega
  · rcases hex_some hb.1.1 hF with q | q
    · exact h0 q
    · exact h1 q
/-- the side to move wins just if a move does -/
theorem cv_gud (hb : BdOK b) (hw : wnr b.n b.f b.g = -1) : cv b.n (Fc b.n b.f) b.f b.t = b.t ↔ ∃ c, c < b.n * b.n ∧ gud b.n b.f b.t c := by
  have h0 := Fc_some hb hw
  obtain ⟨k, hk⟩ : ∃ k, Fc b.n b.f = k + 1 := ⟨Fc b.n b.f - 1, by omega⟩
  have ht := hb.2.2.2.1
  have e : cv b.n (Fc b.n b.f) b.f b.t = @ite _ (∃ c, c < b.n * b.n ∧ b.f c = -1 ∧ cv b.n k (ups b.f c b.t) (1 - b.t) = b.t) (Classical.propDecidable _) b.t (1 - b.t) := by rw [hk]; rfl
  have e2 : (∃ c, c < b.n * b.n ∧ gud b.n b.f b.t c) ↔ ∃ c, c < b.n * b.n ∧ b.f c = -1 ∧ cv b.n k (ups b.f c b.t) (1 - b.t) = b.t := by
    unfold gud
    rw [show Fc b.n b.f - 1 = k by omega]
  rw [e, e2]
  by_cases q : ∃ c, c < b.n * b.n ∧ b.f c = -1 ∧ cv b.n k (ups b.f c b.t) (1 - b.t) = b.t
  · rw [if_pos q]
    exact ⟨fun _ => q, fun _ => rfl⟩
  · rw [if_neg q]
    exact ⟨fun z => by omega, fun z => absurd z q⟩
theorem cnt_ex {p : Nat → Prop} {N : Nat} : 0 < cnt p N ↔ ∃ c, c < N ∧ p c := by
  constructor
  · intro h
    obtain ⟨c, h1, h2, -⟩ := cnt_hit (p := p) (k := 0) h
    exact ⟨c, h1, h2⟩
  · rintro ⟨c, h1, h2⟩
    exact cnt_pos h1 h2
/-- behind a good move -/
theorem gud_ply (hb : BdOK b) (hw : wnr b.n b.f b.g = -1) (hF6 : ¬ 6 < Fc b.n b.f) {c : Nat} (hc : c < b.n * b.n) (h : gud b.n b.f b.t c) : wnr (ply b c).n (ply b c).f (ply b c).g ≠ 1 - b.t ∧ sol (ply b c) = b.t := by
  obtain ⟨hj, hg⟩ := wnr_g hb.2.2.2.2.1 hw
  have ht := hb.2.2.2.1
  have htc := hb.tc
  obtain ⟨fc, hcv⟩ := h
  have hF := Fc_ups (n := b.n) (f := b.f) (p := b.t) hc fc (by omega)
  have hFe : Fc b.n b.f - 1 = Fc b.n (ups b.f c b.t) := by omega
  rw [hFe] at hcv
  have hfr : FR b.n (ups b.f c b.t) := hb.2.1.ups (Or.inr ht)
  have hwe : wnr (ply b c).n (ply b c).f (ply b c).g = jnd b.n (ups b.f c b.t) := by
    show wnr b.n (ups b.f c b.t) b.g = _
    rw [hg]
    unfold wnr
    by_cases e : jnd b.n (ups b.f c b.t) = -1
    · rw [if_pos e, if_pos rfl, e]
    · rw [if_neg e]
  have hjv : jnd b.n (ups b.f c b.t) ≠ -1 → jnd b.n (ups b.f c b.t) = b.t := fun e => (cv_j hb.1.1 _ _ (1 - b.t) hfr htc rfl e).symm.trans hcv
  constructor
  · rw [hwe]
    intro e
    have := hjv (by omega)
    omega
  · unfold sol
    rw [hwe]
    by_cases e : jnd b.n (ups b.f c b.t) = -1
    · rw [if_pos e]
      show (if 6 < Fc b.n (ups b.f c b.t) then (-1 : Int) else cv b.n (Fc b.n (ups b.f c b.t)) (ups b.f c b.t) (1 - b.t)) = b.t
      rw [if_neg (by omega)]
      exact hcv
    · rw [if_neg e]
      exact hjv e
theorem fcn_z (hm : b.m < 200) : 0 < fcn b 81 ↔ fcd b ≠ -1 := by
  have hok : fcn b 81 = 0 ↔ stp' b := by
    constructor
    · intro h
      apply Classical.byContradiction
      intro hn
      by_cases q : ∃ i, i < 81 ∧ stp' (itb b i)
      · obtain ⟨i, hi', hs⟩ := q
        obtain ⟨m, hm, hq, hl⟩ := least_ex (p := fun i => stp' (itb b i)) hs
        have e := fst1_k (p := fun i => stp' (itb b i)) (m := 81) (by omega) hq hl
        have e : fcn b 81 = m := e
        have m0 : m = 0 := by omega
        rw [m0] at hq
        exact hn hq
      · have e := fst1_no (p := fun i => stp' (itb b i)) (m := 81) fun j hj w => q ⟨j, hj, w⟩
        have e : fcn b 81 = 81 := e
        omega
    · intro h
      exact fst1_k (p := fun i => stp' (itb b i)) (m := 81) (k := 0) (by omega) h fun j hj => absurd hj (Nat.not_lt_zero j)
  have hst : stp' b ↔ fcd b = -1 := ⟨fun z => z.elim id fun w => by omega, Or.inl⟩
  rw [hst] at hok
  constructor
  · intro h e
    have := hok.mpr e
    omega
  · intro h
    apply Classical.byContradiction
    intro w
    exact h (hok.mp (by omega))
/-- the first of the forced moves -/
theorem itb_mv (hb : BdOK b) : ∀ i, 0 < i → (∀ j, j < i → ¬ stp' (itb b j)) → (itb b i).mv b.m = fcd b
  | 0, h, _ => absurd h (Nat.lt_irrefl 0)
  | 1, _, h => by
    have h0 : ¬ stp' b := h 0 (by omega)
    show (if b.m = b.m then (((fcd b).toNat : Nat) : Int) else b.mv b.m) = fcd b
    rw [if_pos rfl]
    rcases fcd_rg hb with e | ⟨c, e, -⟩
    · exact absurd (Or.inl e) h0
    · rw [e]; rfl
  | i + 2, _, h => by
    have ih := itb_mv hb (i + 1) (by omega) fun j hj => h j (by omega)
    show (if b.m = (itb b (i + 1)).m then (((fcd (itb b (i + 1))).toNat : Nat) : Int) else (itb b (i + 1)).mv b.m) = fcd b
    have hm := itb_m b (i + 1)
    rw [if_neg (by omega)]
    exact ih
theorem flc_sum {n : Nat} {f : Nat → Int} {x : Int} (k : Nat) : flc n x f 0 k + flc n x f 1 k = k := by
  unfold flc
  rw [← cnt_or (p := fun j => fow n (fil n (sds n x f j) f (n * n)).2 = 0) (q := fun j => fow n (fil n (sds n x f j) f (n * n)).2 = 1) (fun i (z : fow n (fil n (sds n x f i) f (n * n)).2 = 0) (w : fow n (fil n (sds n x f i) f (n * n)).2 = 1) => absurd (z.symm.trans w) (by decide))]
  exact cnt_all fun i _ => fow_rg n _
theorem flc_one {n : Nat} {f : Nat → Int} {x : Int} : flc n x f (fow n (fil n x f (n * n)).2) 1 = 1 := cnt_all fun i hi => by
  have e : i = 0 := by omega
  rw [e]
  rfl
theorem idl_le {n : Nat} {f g : Nat → Int} : cnt (idl n f g) (n * n) ≤ Fc n f := cnt_mono fun i _ h => h.1
/-- the board is X's; the first snapshot too; outside nothing changes -/
def FsI (X : Xs) (s t : Sg) : Prop := CF s t ∧ ∃ Y, XsOK Y ∧ Y.b = X.b ∧ Y.S 0 = some X.b ∧ CI Y t
theorem fs_362 {t : Sg} (h : FsI X s t) : okP (La_foresees_b362 (Wv X) t) (fun o => o.1 = 1) := by
  obtain ⟨h1, Y, y1, y2, y3, y4⟩ := h
  unfold La_foresees_b362
  refine okP_bnd2 (whole_ok y1 y4) ?_
  rintro v u - ⟨u1, e⟩
  have e : v = Wv Y := e
  rw [e, Wv_b y2]
  refine okP_grd rfl ?_
  exact okP_ifEq R0 R0 (fun _ => okP_some rfl) fun z => absurd rfl z
/-- whatever was played: back to the snapshot -/
theorem fs_314 (hX : XsOK X) {Y : Xs} (hY : XsOK Y) (hS : Y.S 0 = some X.b) {t : Sg} (hcf : CF s t) (hC : CI Y t) : okP (La_foresees_b314 (Wv X) t) (fun o => o.1 = 1) := by
  unfold La_foresees_b314
  refine bndrC (ca_restoreSnapshot hY (k := 0) (Or.inl rfl) hS hC) fun u u1 u2 _ => ?_
  exact fs_362 (s := s) ⟨hcf.tr u1, _, hY.tk hX.1, rfl, hS, u2⟩
theorem sol_R1 (hb : BdOK b) : R (sol b) := by
  have h := wnr_rg (n := b.n) (f := b.f) hb.2.2.2.2.1
  have hc := cv_rg hb.2.2.2.1 (n := b.n) (Fc b.n b.f) b.f
  unfold sol
  split
  · split
    · exact R_n1
    · exact R_01 hc
  · exact R_tri h
theorem gdm_R (hb : BdOK b) : R (gdm b) := by
  have h81 := nn_le hb.1.2
  have := cnt_le (gud b.n b.f b.t) (b.n * b.n)
  unfold gdm
  split
  · split
    · exact R_n1
    · exact R_nat (by omega)
  · exact R0
theorem bsm_R (hb : BdOK b) : R (bsm b) := by
  have h81 := nn_le hb.1.2
  unfold bsm
  split
  · split
    · exact R_n1
    · rcases nth_rg (gud b.n b.f b.t) 0 (b.n * b.n) with e | ⟨c, e, hc, -⟩
      · rw [e]; exact R_n1
      · rw [e]; exact R_nat (by omega)
  · exact R_n1
/-- behind the forced moves, taken back -/
theorem fs_202 (hX : XsOK X) (hm : X.b.m < 200) {Y : Xs} (hY : XsOK Y) (hS : Y.S 0 = some X.b) {t : Sg} (hcf : CF s t) (hC : CI Y t) : okP (La_foresees_b202 (Wv X) (sol X.b) (gdm X.b) (bsm X.b) t) (fun o => o.1 = 1) := by
  have h81 := nn_le hX.n9
  have hwR : R (wnr X.b.n X.b.f X.b.g) := wnr_R hX
  have hsR := sol_R1 hX.1
  have hgR := gdm_R hX.1
  have hbR := bsm_R hX.1
  have ht := hX.1.2.2.2.1
  have htc := hX.1.tc
  have hFR : R ((cnt (fun c => X.b.f c = -1) (X.b.n * X.b.n) : Nat) : Int) := R_cnt hX _
  have R6' : R 6 := by unfold R; omega
  unfold La_foresees_b202
  refine bndrC (ca_restoreSnapshot hY (k := 0) (Or.inl rfl) hS hC) fun u u1 u2 _ => ?_
  have hZ : XsOK (Y.wb X.b 0 Y.H) := hY.tk hX.1
  have hfu : CF s u := hcf.tr u1
  refine bndrQ (cq_size6 hZ u2) fun v hv => ?_
  have f1 : CF s v := hfu.tr hv.cf
  have c1 := u2.ch hv
  have hI : FsI X s v := ⟨f1, _, hZ, rfl, hS, c1⟩
  -- nothing is solved
  have k323 : ∀ v, FsI X s v → (sol X.b = wnr X.b.n X.b.f X.b.g ∧ bsm X.b = -1 ∧ gdm X.b = if wnr X.b.n X.b.f X.b.g = -1 then -1 else 0) → okP (La_foresees_b323 (Wv X) (sol X.b) (gdm X.b) (bsm X.b) v) (fun o => o.1 = 1) := by
    rintro v ⟨q1, Z, z1, z2, z3, z4⟩ ⟨e1, e2, e3⟩
    have qs : ∀ t, CI Z t → okP (Hx_size 6 t) (fun o => Ch LC t o.2 ∧ o.1 = .inr (wnr X.b.n X.b.f X.b.g)) := fun t ht => by
      have q := cq_size6 z1 ht
      rw [z2] at q
      exact q
    unfold La_foresees_b323
    refine bndrQ (qs v z4) fun a ha => ?_
    have ca := z4.ch ha
    refine okP_ifEq hsR hwR (fun _ => ?_) fun n => absurd e1 n
    refine okP_ifEq hbR R_n1 (fun _ => ?_) fun n => absurd e2 n
    refine bndrQ (qs a ca) fun d hd => ?_
    have hId : FsI X s d := ⟨(q1.tr ha.cf).tr hd.cf, Z, z1, z2, z3, ca.ch hd⟩
    refine okP_ifEq hwR R_n1 (fun w => ?_) fun w => ?_
    · rw [if_pos w] at e3
      unfold La_foresees_b357
      exact okP_ifEq hgR R_n1 (fun _ => fs_362 hId) fun n => absurd e3 n
    · rw [if_neg w] at e3
      unfold La_foresees_b357
      exact okP_ifEq hgR R0 (fun _ => fs_362 hId) fun n => absurd e3 n
  have hw0 : wnr (Y.wb X.b 0 Y.H).b.n (Y.wb X.b 0 Y.H).b.f (Y.wb X.b 0 Y.H).b.g = wnr X.b.n X.b.f X.b.g := rfl
  rw [hw0]
  refine okP_ifEq hwR R_n1 (fun w => ?_) fun w => ?_
  · refine bndrQ (cq_size3 hZ c1) fun a ha => ?_
    have c2 := c1.ch ha
    have f2 : CF s a := f1.tr ha.cf
    have hF0 : cnt (fun c => (Y.wb X.b 0 Y.H).b.f c = -1) ((Y.wb X.b 0 Y.H).b.n * (Y.wb X.b 0 Y.H).b.n) = Fc X.b.n X.b.f := rfl
    rw [hF0]
    refine okP_ifLt R6' hFR (fun h6 => ?_) fun h6 => ?_
    · have h6 : 6 < Fc X.b.n X.b.f := by omega
      refine k323 a ⟨f2, _, hZ, rfl, hS, c2⟩ ⟨?_, ?_, ?_⟩
      · unfold sol; rw [if_pos w, if_pos h6, w]
      · unfold bsm; rw [if_pos w, if_pos h6]
      · unfold gdm; rw [if_pos w, if_pos h6, if_pos w]
    · have h6 : ¬ 6 < Fc X.b.n X.b.f := by omega
      have es : sol X.b = cv X.b.n (Fc X.b.n X.b.f) X.b.f X.b.t := by unfold sol; rw [if_pos w, if_neg h6]
      have eg : gdm X.b = (cnt (gud X.b.n X.b.f X.b.t) (X.b.n * X.b.n) : Int) := by unfold gdm; rw [if_pos w, if_neg h6]
      have eb : bsm X.b = nth (gud X.b.n X.b.f X.b.t) 0 (X.b.n * X.b.n) := by unfold bsm; rw [if_pos w, if_neg h6]
      have i1 : sol X.b = X.b.t ↔ 0 < gdm X.b := by
        rw [es, eg, cv_gud hX.1 w, ← cnt_ex]
        omega
      have i2 : bsm X.b = -1 ↔ ¬ 0 < gdm X.b := by
        rw [eb, eg, show (0 : Int) = ((0 : Nat) : Int) from rfl, nth_iff]
        omega
      refine bndrQ (cq_size5 hZ c2) fun d hd => ?_
      have c3 := c2.ch hd
      have f3 : CF s d := f2.tr hd.cf
      have k314 : okP (La_foresees_b314 (Wv X) d) (fun o => o.1 = 1) := fs_314 (s := s) hX hZ hS f3 c3
      have k280 : ∀ t0, R t0 → okP (La_foresees_b280 (Wv X) (bsm X.b) X.b.t t0 t0 d) (fun o => o.1 = 1) := by
        intro t0 r0
        unfold La_foresees_b280
        refine okP_ifEq r0 r0 (fun _ => ?_) fun n => absurd rfl n
        refine okP_ifLt hbR R0 (fun _ => k314) fun hn => ?_
        rcases nth_rg (gud X.b.n X.b.f X.b.t) 0 (X.b.n * X.b.n) with e | ⟨c, e, hc, hgd⟩
        · exact absurd (eb.trans e) (by omega)
        · have e : bsm X.b = (c : Int) := eb.trans e
          obtain ⟨n1, n2⟩ := gud_ply hX.1 w h6 hc hgd
          have hP : XsOK ((Y.wb X.b 0 Y.H).pu (ply X.b c)) := hZ.pu (ply_ok hX.1 hm hc) rfl
          rw [e]
          refine bndrC (ca_move (X := Y.wb X.b 0 Y.H) hZ (R_nat (by omega)) hc hgd.1 w hm c3) fun g g1 g2 gR => ?_
          refine okP_ifEq gR (R_01 htc) (fun z => absurd z n1) fun _ => ?_
          refine okP_bnd2 (cq_solved hP g2) ?_
          rintro y4 k - ⟨k1, k2⟩
          have k1 : Ch LC g k := k1
          have k2 : y4 = sol (ply X.b c) := k2
          rw [k2, n2]
          refine okP_ifEq (R_01 ht) (R_01 ht) (fun _ => ?_) fun n => absurd rfl n
          exact fs_314 (s := s) hX hP hS ((f3.tr g1).tr k1.cf) (g2.ch k1)
      have k257 : ∀ t0, R t0 → (t0 = 0 ∨ t0 = 1) → (t0 = 1 ↔ 0 < gdm X.b) → okP (La_foresees_b257 (Wv X) (gdm X.b) (bsm X.b) X.b.t t0 t0 d) (fun o => o.1 = 1) := by
        intro t0 r0 h01 ht0
        unfold La_foresees_b257
        refine okP_ifEq r0 r0 (fun _ => ?_) fun n => absurd rfl n
        refine okP_ifLt hbR R0 (fun hb0 => ?_) fun hb0 => ?_
        · have hng : ¬ 0 < gdm X.b := i2.mp (by
            rcases nth_rg (gud X.b.n X.b.f X.b.t) 0 (X.b.n * X.b.n) with e | ⟨c, e, -⟩
            · exact eb.trans e
            · have := eb.trans e
              omega)
          unfold La_foresees_b270
          exact okP_ifLt R0 hgR (fun z => absurd z hng) fun _ => k280 0 R0
        · have hpg : 0 < gdm X.b := Classical.byContradiction fun z => by
            have := i2.mpr z
            omega
          unfold La_foresees_b270
          exact okP_ifLt R0 hgR (fun _ => k280 1 R1) fun z => absurd hpg z
      have k247 : ∀ t0, (t0 = 0 ∨ t0 = 1) → (t0 = 1 ↔ 0 < gdm X.b) → okP (La_foresees_b247 (Wv X) (gdm X.b) (bsm X.b) X.b.t t0 d) (fun o => o.1 = 1) := by
        intro t0 h01 ht0
        unfold La_foresees_b247
        refine okP_ifLt R0 hgR (fun z => ?_) fun z => ?_
        · have e := ht0.mpr z
          rw [e]
          exact k257 1 R1 (Or.inr rfl) ⟨fun _ => z, fun _ => rfl⟩
        · have e : t0 = 0 := h01.resolve_right fun y => z (ht0.mp y)
          rw [e]
          exact k257 0 R0 (Or.inl rfl) ⟨fun y => absurd y (by decide), fun y => absurd y z⟩
      have htY : (Y.wb X.b 0 Y.H).b.t = X.b.t := rfl
      rw [htY]
      refine okP_ifEq hsR (R_01 ht) (fun z => ?_) fun z => ?_
      · exact k247 1 (Or.inr rfl) ⟨fun _ => i1.mp z, fun _ => rfl⟩
      · exact k247 0 (Or.inl rfl) ⟨fun y => absurd y (by decide), fun y => absurd (i1.mpr y) z⟩
  · refine k323 v hI ⟨?_, ?_, ?_⟩
    · unfold sol; rw [if_neg w]
    · unfold bsm; rw [if_neg w]
    · unfold gdm; rw [if_neg w, if_neg w]
end FRS
