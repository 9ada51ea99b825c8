/-! ===== answers without a change; answers that are floats ===== -/
def OpS (X : Xs) (A : Sg → Option Int) (B : Sg → Option (Int × Sg)) : Prop := ∃ v, R v ∧ (∀ s, CI X s → A s = some v) ∧ ∀ s, MI X s → okP (B s) (MPost 0 v X s)
def CPostG {α : Type} (cI cX c : Int) (v : α) (X : Xs) (s : Sg) (o : (Nat ⊕ α) × Sg) : Prop := CF s o.2 ∧ CI X o.2 ∧ ((c = 0 ∧ o.1 = .inr v) ∨ (o.1 = .inl 0 ∧ c = cI ∧ cI ≠ 0) ∨ (o.1 = .inl 1 ∧ c = cX ∧ cX ≠ 0))
def MPostG {α : Type} (c : Int) (v : α) (X : Xs) (s : Sg) (o : α × Sg) : Prop := MF s o.2 ∧ MI X o.2 ∧ gi o.2 80 0 = c ∧ (c = 0 → o.1 = v)
section FL2
variable {X : Xs}
theorem os_moveAt (hX : XsOK X) {x : Int} (hx : R x) : OpS X (Hx_moveAt x) (Mo_moveAt x) := by
  have hm := hX.1.2.2.2.2.2.1
  have h81 := nn_le hX.n9
  have a12 : alen 12 = 200 := rfl
  by_cases h : ∃ k : Nat, x = (k : Int) ∧ k < X.b.m
  · obtain ⟨k, rfl, hk⟩ := h
    obtain ⟨c, ec, hc⟩ := hX.1.2.2.2.2.2.2 k hk
    refine ⟨X.b.mv k, by rw [ec]; exact R_nat (by omega), fun s hC => ?_, fun s hM => ?_⟩
    · unfold Hx_moveAt Po_moved
      rw [ifLt_eq _ _ hx R0, if_neg (by omega), hC.1.2.2.2.2.1, ifLt_eq _ _ hx (R_nat (by omega)), if_pos (by omega)]
      show bnd (bnd (Hx_at 12 (k : Int) s) _) _ = _
      rw [Hx_at_n (by omega), bnd_some, bnd_some, show gi s 12 k = X.b.mv k from hC.1.2.2.2.2.2.2.2.2 k hk]
    · have hP := MPb hX hM
      have eT : (86 + ((k : Nat) : Int)).toNat = 86 + k := by omega
      unfold Mo_moveAt
      rw [lett_eq, grd_t hx, grd_t ⟨by omega, by omega⟩, hP.2.2.2.2.1, grd_t (show R _ from by unfold R; omega), in_t hx R0 (by unfold R; omega) ⟨by omega, by omega⟩, bnd_some, ifEq_f R1 R0 (by omega), grd_t ⟨by omega, by omega⟩, eT, hP.2.2.2.2.2 k hk]
      exact qM0 hX hM (L := []) (okP_some ⟨Ch.rf _ _, rfl⟩)
  · have hno : ¬ (0 ≤ x ∧ x ≤ (X.b.m : Int) - 1) := fun z => h ⟨x.toNat, by omega, by omega⟩
    refine ⟨-1, R_n1, fun s hC => ?_, fun s hM => ?_⟩
    · unfold Hx_moveAt Po_moved Po_moved_b12
      rw [ifLt_eq _ _ hx R0]
      by_cases z : x < 0
      · rw [if_pos z, bnd_some]
      · rw [if_neg z, hC.1.2.2.2.2.1, ifLt_eq _ _ hx (R_nat (by omega)), if_neg (by omega), bnd_some]
    · have hP := MPb hX hM
      unfold Mo_moveAt
      rw [lett_eq, grd_t hx, grd_t ⟨by omega, by omega⟩, hP.2.2.2.2.1, grd_t (show R _ from by unfold R; omega), in_f hx R0 (by unfold R; omega) hno, bnd_some, ifEq_t R0 R0 rfl]
      exact qM0 hX hM (L := []) (okP_some ⟨Ch.rf _ _, rfl⟩)
theorem os_outputByte (hX : XsOK X) {x : Int} (hx : R x) : OpS X (Hx_outputByte x) (Mo_outputByte x) := by
  have hol := hX.2.2.2.2.2.1
  have a51 : alen (50 + 1) = 9 := rfl
  by_cases h : ∃ k : Nat, x = (k : Int) ∧ k < X.ol
  · obtain ⟨k, rfl, hk⟩ := h
    have hb := hX.2.2.2.2.2.2.1 k hk
    refine ⟨X.ob k, by unfold R; omega, fun s hC => ?_, fun s hM => ?_⟩
    · have h1 := hC.2.2.2.2.1
      unfold Hx_outputByte By_get By_get_b26
      rw [ifLt_eq _ _ hx R0, if_neg (by omega), h1.1, ifLt_eq _ _ hx (R_nat (by omega)), if_pos (by omega), a51, ifLt_eq _ _ hx (R_nat (by omega)), if_pos (by omega), ifEq_t R0 R0 rfl, grd_t ⟨by omega, by omega⟩, bnd_some]
      exact congrArg some (h1.2 k hk)
    · have h1 := (hM.e0 hX 0).2.2.2.2.1
      unfold Mo_outputByte
      rw [lett_eq, grd_t hx, h1.1, grd_t (show R _ from by unfold R; omega), in_t hx R0 (by unfold R; omega) ⟨by omega, by omega⟩, bnd_some, ifEq_f R1 R0 (by omega), grd_t ⟨by omega, by omega⟩]
      exact qM0 hX hM (L := []) (okP_some ⟨Ch.rf _ _, h1.2 k hk⟩)
  · have hno : ¬ (0 ≤ x ∧ x ≤ (X.ol : Int) - 1) := fun z => h ⟨x.toNat, by omega, by omega⟩
    refine ⟨-1, R_n1, fun s hC => ?_, fun s hM => ?_⟩
    · have h1 := hC.2.2.2.2.1
      unfold Hx_outputByte By_get By_get_b21 By_get_b26
      rw [ifLt_eq _ _ hx R0]
      by_cases z : x < 0
      · rw [if_pos z, ifEq_f R1 R0 (by omega), bnd_some]
      · rw [if_neg z, h1.1, ifLt_eq _ _ hx (R_nat (by omega)), if_neg (by omega), ifEq_f R1 R0 (by omega), bnd_some]
    · have h1 := (hM.e0 hX 0).2.2.2.2.1
      unfold Mo_outputByte
      rw [lett_eq, grd_t hx, h1.1, grd_t (show R _ from by unfold R; omega), in_f hx R0 (by unfold R; omega) hno, bnd_some, ifEq_t R0 R0 rfl]
      exact qM0 hX hM (L := []) (okP_some ⟨Ch.rf _ _, rfl⟩)
theorem os_loadError (hX : XsOK X) : OpS X Hx_loadError Mo_loadError := by
  have h := hX.2.2.2.2.2.2.2.1
  refine ⟨X.er, by unfold R; omega, fun s hC => ?_, fun s hM => ?_⟩
  · unfold Hx_loadError
    rw [hC.2.2.2.2.2.1]
  · unfold Mo_loadError
    rw [lett_eq]
    exact qM0 hX hM (L := []) (okP_some ⟨Ch.rf _ _, (hM.e0 hX 0).2.2.2.2.2.1⟩)
theorem os_loadStatement (hX : XsOK X) : OpS X Hx_loadStatement Mo_loadStatement := by
  have h := hX.2.2.2.2.2.2.2.1
  have h2 := hX.2.2.2.2.2.2.2.2
  refine ⟨X.sm, by unfold R; omega, fun s hC => ?_, fun s hM => ?_⟩
  · obtain ⟨h3, h4, h5⟩ := hC.2.2.2.2.2
    unfold Hx_loadStatement
    rw [h3, ifEq_eq _ _ (by unfold R; omega) R0]
    by_cases q : X.er = 0
    · rw [if_pos q, h4 q]
    · rw [if_neg q, h5 q]
  · unfold Mo_loadStatement
    rw [lett_eq]
    exact qM0 hX hM (L := []) (okP_some ⟨Ch.rf _ _, (hM.e0 hX 0).2.2.2.2.2.2⟩)
theorem qMG {α : Type} {m : Option (α × Sg)} {v : α} {s : Sg} (hX : XsOK X) (hM : MI X s) {L : List Nat} (h : okP m (fun o => Ch L (si s 80 0 0) o.2 ∧ o.1 = v)) (hL : ∀ x ∈ L, x ∈ LM := by decide) (h0 : 8000 ∉ L := by decide) : okP m (MPostG 0 v X s) :=
  okP_mono h fun o ⟨h1, h2⟩ => ⟨(mf0 s 0).tr (Ch.mf (h1.mo hL)), (hM.e0 hX 0).ch hX (h1.mo hL), by rw [h1.g8 0 h0]; exact gi_si_s _ _ _ _, fun _ => h2⟩
theorem of_resistance (hX : XsOK X) {x w : Int} (hx : R x) (hw : R w) : ∃ c v, vf_n32 v ∧ R c ∧ (∀ s, CI X s → okP (Hx_resistance x w s) (CPostG 1 0 c v X s)) ∧ ∀ s, MI X s → okP (Mo_resistance x w s) (MPostG c v X s) := by
  have z32 : vf_n32 (0 : UInt32) := by unfold vf_n32; decide
  by_cases h : x = 0 ∨ x = 1
  · by_cases hwr : 0 ≤ w ∧ w ≤ 100
    · obtain ⟨k, rfl⟩ := Int.eq_ofNat_of_zero_le hwr.1
      have hk : k ≤ 100 := by omega
      have hc := cur_R hX.n9 X.b.f x k
      have hcR : R (cur X.b.n X.b.f x (sws X.b.n X.b.f x k) (X.b.n * X.b.n)) := by unfold R; omega
      refine ⟨0, if cur X.b.n X.b.f x (sws X.b.n X.b.f x k) (X.b.n * X.b.n) = 0 then (0 : UInt32) else FP.fdiv (1232348160 : UInt32) (FP.i2f (Int32.ofInt (cur X.b.n X.b.f x (sws X.b.n X.b.f x k) (X.b.n * X.b.n)))), ?_, R0, fun s hC => ?_, fun s hM => ?_⟩
      · split
        · exact z32
        · exact res_nn _
      · unfold Hx_resistance
        rw [rqS_t h, bndx_some, rqR_t hw R0 R100 hwr, bndx_some]
        refine okP_bnd2 (Fl_run_ok hC.G hC.cb hX.fr h hk) ?_
        rintro y t - ⟨h1, h2, h3⟩
        have h1 : Ch [71, 72, 73] s t := h1
        have h3 : y = cur X.b.n X.b.f x (sws X.b.n X.b.f x k) (X.b.n * X.b.n) := h3
        rw [h3, ifEq_eq _ _ hcR R0]
        by_cases q : cur X.b.n X.b.f x (sws X.b.n X.b.f x k) (X.b.n * X.b.n) = 0
        · rw [if_pos q, if_pos q]
          exact okP_some ⟨h1.cf, hC.ch h1, Or.inl ⟨rfl, rfl⟩⟩
        · rw [if_neg q, if_neg q, grd_t (res_nn _)]
          exact okP_some ⟨h1.cf, hC.ch h1, Or.inl ⟨rfl, rfl⟩⟩
      · have hP := MPb hX hM
        unfold Mo_resistance Mo_resistance_b20
        rw [isSide_t h, bnd_some, ifEq_f R1 R0 (by omega), sweeps_t hw hwr, bnd_some, ifEq_f R1 R0 (by omega), wrong_0, bnd2_some, ifEq_t R0 R0 rfl]
        refine qMG hX hM (L := [98]) (okP_bnd2 (currentOf_ok hP.1 hX.fr h hk) ?_)
        rintro y t - ⟨h1, h2, h3⟩
        have h1 : Ch [98] (si s 80 0 0) t := h1
        have h3 : y = cur X.b.n X.b.f x (sws X.b.n X.b.f x k) (X.b.n * X.b.n) := h3
        rw [h3, ifEq_eq _ _ hcR R0]
        by_cases q : cur X.b.n X.b.f x (sws X.b.n X.b.f x k) (X.b.n * X.b.n) = 0
        · rw [if_pos q, if_pos q]
          exact okP_some ⟨h1, rfl⟩
        · rw [if_neg q, if_neg q, grd_t (res_nn _)]
          exact okP_some ⟨h1, rfl⟩
    · refine ⟨1, 0, z32, R1, fun s hC => ?_, fun s hM => ?_⟩
      · unfold Hx_resistance
        rw [rqS_t h, bndx_some, rqR_f hw R0 R100 hwr, bndx_thrown]
        exact okP_some ⟨CF.rf s, hC, Or.inr (Or.inl ⟨rfl, rfl, by omega⟩)⟩
      · unfold Mo_resistance Mo_resistance_b15 Mo_resistance_b20
        rw [isSide_t h, bnd_some, ifEq_f R1 R0 (by omega), sweeps_f hw hwr, bnd_some, ifEq_t R0 R0 rfl, wrong_1, bnd2_some, ifEq_f R1 R0 (by omega)]
        exact okP_some ⟨mf0 s 1, hM.e0 hX 1, gi_si_s _ _ _ _, fun q => absurd q (by omega)⟩
  · refine ⟨1, 0, z32, R1, fun s hC => ?_, fun s hM => ?_⟩
    · unfold Hx_resistance
      rw [rqS_f hx h, bndx_thrown]
      exact okP_some ⟨CF.rf s, hC, Or.inr (Or.inl ⟨rfl, rfl, by omega⟩)⟩
    · unfold Mo_resistance Mo_resistance_b15 Mo_resistance_b20
      rw [isSide_f hx h, bnd_some, ifEq_t R0 R0 rfl, wrong_1, bnd2_some, ifEq_f R1 R0 (by omega)]
      exact okP_some ⟨mf0 s 1, hM.e0 hX 1, gi_si_s _ _ _ _, fun q => absurd q (by omega)⟩
theorem of_balance (hX : XsOK X) {w : Int} (hw : R w) : ∃ c v, vf_n64 v ∧ R c ∧ (∀ s, CI X s → okP (Hx_balance w s) (CPostG 1 0 c v X s)) ∧ ∀ s, MI X s → okP (Mo_balance w s) (MPostG c v X s) := by
  have z64 : vf_n64 (4602678819172646912 : UInt64) := by unfold vf_n64; decide
  by_cases hwr : 0 ≤ w ∧ w ≤ 100
  · obtain ⟨k, rfl⟩ := Int.eq_ofNat_of_zero_le hwr.1
    have hk : k ≤ 100 := by omega
    have hc0 := cur_R hX.n9 X.b.f 0 k
    have hc1 := cur_R hX.n9 X.b.f 1 k
    generalize e0 : cur X.b.n X.b.f 0 (sws X.b.n X.b.f 0 k) (X.b.n * X.b.n) = a0 at hc0
    generalize e1 : cur X.b.n X.b.f 1 (sws X.b.n X.b.f 1 k) (X.b.n * X.b.n) = a1 at hc1
    have hcR : R (a0 + a1) := by unfold R; omega
    have hnn : a0 + a1 ≠ 0 → vf_n64 (FP.ddiv (FP.i2d (Int32.ofInt a0)) (FP.i2d (Int32.ofInt (a0 + a1)))) := fun q => bal_nn (by rw [t32 hcR]; exact q)
    refine ⟨0, if a0 + a1 = 0 then (4602678819172646912 : UInt64) else FP.ddiv (FP.i2d (Int32.ofInt a0)) (FP.i2d (Int32.ofInt (a0 + a1))), ?_, R0, fun s hC => ?_, fun s hM => ?_⟩
    · split
      · exact z64
      · exact hnn ‹_›
    · unfold Hx_balance
      rw [rqR_t hw R0 R100 hwr, bndx_some]
      refine okP_bnd2 (Fl_run_ok hC.G hC.cb hX.fr (Or.inl rfl) hk) ?_
      rintro y t - ⟨h1, h2, h3⟩
      have h1 : Ch [71, 72, 73] s t := h1
      have h3 : y = a0 := h3.trans e0
      have hCt := hC.ch h1
      refine okP_bnd2 (Fl_run_ok hCt.G hCt.cb hX.fr (Or.inr rfl) hk) ?_
      rintro y' u - ⟨k1, k2, k3⟩
      have k1 : Ch [71, 72, 73] t u := k1
      have k3 : y' = a1 := k3.trans e1
      have h9 := h1.tr k1
      rw [lett_eq, h3, k3, ifEq_eq _ _ hcR R0]
      by_cases q : a0 + a1 = 0
      · rw [if_pos q, if_pos q]
        exact okP_some ⟨h9.cf, hC.ch h9, Or.inl ⟨rfl, rfl⟩⟩
      · rw [if_neg q, if_neg q, grd_t (hnn q)]
        exact okP_some ⟨h9.cf, hC.ch h9, Or.inl ⟨rfl, rfl⟩⟩
    · have hP := MPb hX hM
      unfold Mo_balance Mo_balance_b13
      rw [sweeps_t hw hwr, bnd_some, ifEq_f R1 R0 (by omega), wrong_0, bnd2_some, ifEq_t R0 R0 rfl]
      refine qMG hX hM (L := [98]) (okP_bnd2 (currentOf_ok hP.1 hX.fr (Or.inl rfl) hk) ?_)
      rintro y t - ⟨h1, h2, h3⟩
      have h1 : Ch [98] (si s 80 0 0) t := h1
      have h3 : y = a0 := h3.trans e0
      refine okP_bnd2 (currentOf_ok (hP.1.ch h1 (by decide)) hX.fr (Or.inr rfl) hk) ?_
      rintro y' u - ⟨k1, k2, k3⟩
      have k1 : Ch [98] t u := k1
      have k3 : y' = a1 := k3.trans e1
      rw [lett_eq, h3, k3, ifEq_eq _ _ hcR R0]
      by_cases q : a0 + a1 = 0
      · rw [if_pos q, if_pos q]
        exact okP_some ⟨h1.tr k1, rfl⟩
      · rw [if_neg q, if_neg q, grd_t (hnn q)]
        exact okP_some ⟨h1.tr k1, rfl⟩
  · refine ⟨1, _, z64, R1, fun s hC => ?_, fun s hM => ?_⟩
    · unfold Hx_balance
      rw [rqR_f hw R0 R100 hwr, bndx_thrown]
      exact okP_some ⟨CF.rf s, hC, Or.inr (Or.inl ⟨rfl, rfl, by omega⟩)⟩
    · unfold Mo_balance Mo_balance_b13
      rw [sweeps_f hw hwr, bnd_some, ifEq_t R0 R0 rfl, wrong_1, bnd2_some, ifEq_f R1 R0 (by omega)]
      exact okP_some ⟨mf0 s 1, hM.e0 hX 1, gi_si_s _ _ _ _, fun q => absurd q (by omega)⟩
end FL2
