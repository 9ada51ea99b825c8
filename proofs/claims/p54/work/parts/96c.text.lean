/-! ===== the text of the law's start, as a whole ===== -/
def stW (sd : Nat) : List Int := wl_ (if sd = 0 then 23 else 24)
def stS (z sd : Nat) (cs : List Nat) : List Int := if cs = [] then [] else stW sd ++ clTs z cs
theorem txr_sp (c : Int → Int) {z : Nat} (hz : 0 < z) (sd : Nat) : ∀ (r i : Nat) (σ : Tst), ∃ cs : List Nat, cs.length ≤ r ∧ cs.Nodup ∧ (∀ q, q ∈ cs → q < z * z ∧ σ.1 q = 0) ∧ (∀ q, (txr c z sd i r σ).1 q = if q ∈ cs then 1 else σ.1 q) ∧ (txr c z sd i r σ).2.2 = σ.2.2 ++ ((if σ.2.1 = 0 ∨ cs = [] then [] else stW sd) ++ clTs z cs)
  | 0, i, σ => ⟨[], Nat.le_refl _, List.nodup_nil, fun q hq => absurd hq (List.not_mem_nil), fun q => (if_neg (List.not_mem_nil)).symm, by
    show σ.2.2 = σ.2.2 ++ ((if σ.2.1 = 0 ∨ ([] : List Nat) = [] then [] else stW sd) ++ [])
    rw [if_pos (Or.inr rfl), List.append_nil, List.append_nil]⟩
  | r + 1, i, σ => by
    obtain ⟨cs, h1, h2, h3, h4, h5⟩ := txr_sp c hz sd r (i + 1) (txs c z sd i σ)
    have hzz : 0 < z * z := Nat.mul_pos hz hz
    have hq0 : (c (3 + 9 * (sd : Int) + (i : Int)) % ((z * z : Nat) : Int)).toNat < z * z := by
      have e1 := Int.emod_nonneg (c (3 + 9 * (sd : Int) + (i : Int))) (show ((z * z : Nat) : Int) ≠ 0 by omega)
      have e2 := Int.emod_lt_of_pos (c (3 + 9 * (sd : Int) + (i : Int))) (show (0 : Int) < ((z * z : Nat) : Int) by omega)
      omega
    show ∃ cs : List Nat, cs.length ≤ r + 1 ∧ cs.Nodup ∧ (∀ q, q ∈ cs → q < z * z ∧ σ.1 q = 0) ∧ (∀ q, (txr c z sd (i + 1) r (txs c z sd i σ)).1 q = if q ∈ cs then 1 else σ.1 q) ∧ (txr c z sd (i + 1) r (txs c z sd i σ)).2.2 = σ.2.2 ++ ((if σ.2.1 = 0 ∨ cs = [] then [] else stW sd) ++ clTs z cs)
    unfold txs at h3 h4 h5 ⊢
    generalize (c (3 + 9 * (sd : Int) + (i : Int)) % ((z * z : Nat) : Int)).toNat = q0 at *
    by_cases h0 : σ.1 q0 = 0
    · rw [if_pos h0] at h3 h4 h5 ⊢
      have h3 : ∀ q, q ∈ cs → q < z * z ∧ (if q = q0 then 1 else σ.1 q) = 0 := h3
      have n0 : ∀ q, q ∈ cs → q ≠ q0 := fun q hq e => by
        have := (h3 q hq).2
        rw [if_pos e] at this
        exact absurd this (by decide)
      refine ⟨q0 :: cs, Nat.succ_le_succ h1, List.nodup_cons.mpr ⟨fun hq => n0 q0 hq rfl, h2⟩, fun q hq => ?_, fun q => ?_, ?_⟩
      · rcases List.mem_cons.mp hq with e | e
        · rw [e]; exact ⟨hq0, h0⟩
        · have := h3 q e
          rw [if_neg (n0 q e)] at this
          exact this
      · rw [h4 q]
        show (if q ∈ cs then 1 else if q = q0 then 1 else σ.1 q) = _
        by_cases a : q ∈ cs
        · rw [if_pos a, if_pos (List.mem_cons_of_mem _ a)]
        · rw [if_neg a]
          by_cases d : q = q0
          · rw [if_pos d, if_pos (by rw [d]; exact List.mem_cons_self ..)]
          · rw [if_neg d, if_neg (fun w => (List.mem_cons.mp w).elim d a)]
      · rw [h5]
        show ((if σ.2.1 = 0 then σ.2.2 else σ.2.2 ++ stW sd) ++ [32] ++ [97 + ((q0 % z : Nat) : Int)] ++ [48 + (((q0 / z : Nat) : Int) + 1)]) ++ ((if (0 : Int) = 0 ∨ cs = [] then [] else stW sd) ++ clTs z cs) = σ.2.2 ++ ((if σ.2.1 = 0 ∨ q0 :: cs = [] then [] else stW sd) ++ (clT z q0 ++ clTs z cs))
        rw [if_pos (Or.inl rfl)]
        by_cases a : σ.2.1 = 0
        · rw [if_pos a, if_pos (Or.inl a)]
          simp [clT]
        · rw [if_neg a, if_neg (fun w => w.elim a (fun e => by cases e))]
          simp [clT]
    · rw [if_neg h0] at h3 h4 h5 ⊢
      exact ⟨cs, Nat.le_succ_of_le h1, h2, h3, h4, h5⟩
theorem stS_1 (z sd : Nat) (cs : List Nat) : (if (1 : Int) = 0 ∨ cs = [] then [] else stW sd) ++ clTs z cs = stS z sd cs := by
  unfold stS
  by_cases e : cs = []
  · rw [if_pos (Or.inr e), if_pos e, e]
    rfl
  · rw [if_neg (fun w => w.elim (by decide) e), if_neg e]
theorem txE_sp (c : Int → Int) {z : Nat} (hz : 0 < z) : ∃ cs0 cs1 : List Nat, (cs0.length ≤ 7 ∧ cs1.length ≤ 7) ∧ (cs0.Nodup ∧ cs1.Nodup) ∧ (∀ q, q ∈ cs0 → q < z * z) ∧ (∀ q, q ∈ cs1 → q < z * z ∧ q ∉ cs0) ∧ txE c z = tx0 c z ++ (stS z 0 cs0 ++ (stS z 1 cs1 ++ wl_ (if c 21 % 2 = 0 then 25 else 26))) := by
  have hr : (c 2 % 8).toNat ≤ 7 := by omega
  obtain ⟨cs0, a1, a2, a3, a4, a5⟩ := txr_sp c hz 0 (c 2 % 8).toNat 0 (fun _ => 0, 1, tx0 c z)
  have a4 : ∀ q, (txr c z 0 0 (c 2 % 8).toNat (fun _ => 0, 1, tx0 c z)).1 q = if q ∈ cs0 then 1 else 0 := a4
  have a5 : (txr c z 0 0 (c 2 % 8).toNat (fun _ => 0, 1, tx0 c z)).2.2 = tx0 c z ++ ((if (1 : Int) = 0 ∨ cs0 = [] then [] else stW 0) ++ clTs z cs0) := a5
  rw [stS_1] at a5
  obtain ⟨cs1, b1, b2, b3, b4, b5⟩ := txr_sp c hz 1 (c 2 % 8).toNat 0 ((txr c z 0 0 (c 2 % 8).toNat (fun _ => 0, 1, tx0 c z)).1, 1, (txr c z 0 0 (c 2 % 8).toNat (fun _ => 0, 1, tx0 c z)).2.2)
  have b3 : ∀ q, q ∈ cs1 → q < z * z ∧ (txr c z 0 0 (c 2 % 8).toNat (fun _ => 0, 1, tx0 c z)).1 q = 0 := b3
  have b5 : (txr c z 1 0 (c 2 % 8).toNat ((txr c z 0 0 (c 2 % 8).toNat (fun _ => 0, 1, tx0 c z)).1, 1, (txr c z 0 0 (c 2 % 8).toNat (fun _ => 0, 1, tx0 c z)).2.2)).2.2 = (txr c z 0 0 (c 2 % 8).toNat (fun _ => 0, 1, tx0 c z)).2.2 ++ ((if (1 : Int) = 0 ∨ cs1 = [] then [] else stW 1) ++ clTs z cs1) := b5
  rw [stS_1, a5] at b5
  refine ⟨cs0, cs1, ⟨by omega, by omega⟩, ⟨a2, b2⟩, fun q hq => (a3 q hq).1, fun q hq => ⟨(b3 q hq).1, fun h => ?_⟩, ?_⟩
  · have h9 := (b3 q hq).2
    rw [a4 q, if_pos h] at h9
    exact absurd h9 (by decide)
  · have e : txE c z = (txr c z 1 0 (c 2 % 8).toNat ((txr c z 0 0 (c 2 % 8).toNat (fun _ => 0, 1, tx0 c z)).1, 1, (txr c z 0 0 (c 2 % 8).toNat (fun _ => 0, 1, tx0 c z)).2.2)).2.2 ++ wl_ (if c 21 % 2 = 0 then 25 else 26) := rfl
    rw [e, a5, b5, List.append_assoc, List.append_assoc]
theorem wl_pos (w : Nat) (hw : w < 27) : ∀ x, x ∈ wl_ w → 1 ≤ x ∧ x < 128 := by
  have h : ∀ w, w < 27 → ∀ j, j < wlen w → 1 ≤ wch w j ∧ wch w j < 128 := by decide +kernel
  intro x hx
  unfold wl_ at hx
  obtain ⟨j, hj, rfl⟩ := List.mem_map.mp hx
  exact h w hw j (List.mem_range.mp hj)
theorem clTs_pos {z : Nat} (hz : 2 ≤ z ∧ z ≤ 6) : ∀ cs : List Nat, (∀ q, q ∈ cs → q < z * z) → ∀ x, x ∈ clTs z cs → 1 ≤ x ∧ x < 128
  | [], _, x, hx => absurd hx (List.not_mem_nil)
  | q :: t, h, x, hx => by
    have hq := h q (List.mem_cons_self ..)
    have hdiv : q / z < z := Nat.div_lt_of_lt_mul hq
    have hmod : q % z < z := Nat.mod_lt _ (by omega)
    have hx : x ∈ clT z q ++ clTs z t := hx
    rcases List.mem_append.mp hx with h1 | h1
    · unfold clT at h1
      simp only [List.mem_cons, List.not_mem_nil, or_false] at h1
      generalize q / z = a at *
      generalize q % z = d at *
      omega
    · exact clTs_pos hz t (fun q' hq' => h q' (List.mem_cons_of_mem _ hq')) x h1
theorem stS_pos {z : Nat} (hz : 2 ≤ z ∧ z ≤ 6) (sd : Nat) {cs : List Nat} (h : ∀ q, q ∈ cs → q < z * z) (x : Int) (hx : x ∈ stS z sd cs) : 1 ≤ x ∧ x < 128 := by
  unfold stS at hx
  by_cases e : cs = []
  · rw [if_pos e] at hx
    exact absurd hx (List.not_mem_nil)
  · rw [if_neg e] at hx
    rcases List.mem_append.mp hx with h1 | h1
    · unfold stW at h1
      exact wl_pos _ (by split <;> omega) x h1
    · exact clTs_pos hz cs h x h1
theorem txE_ok (c : Int → Int) {z : Nat} (hz : 2 ≤ z ∧ z ≤ 6) : (txE c z).length ≤ 94 ∧ ∀ j, j < (txE c z).length → 1 ≤ (txE c z).getD j 0 ∧ (txE c z).getD j 0 < 128 := by
  obtain ⟨cs0, cs1, ⟨l0, l1⟩, -, q0, q1, e⟩ := txE_sp c (z := z) (by omega)
  have w20 : wlen 20 = 6 := by decide
  have w21 : wlen (if c 1 % 2 = 0 then 21 else 22) ≤ 5 := by split <;> decide
  have w25 : wlen (if c 21 % 2 = 0 then 25 else 26) ≤ 10 := by split <;> decide
  have hS : ∀ sd cs, cs.length ≤ 7 → (stS z sd cs).length ≤ 26 := fun sd cs h => by
    have w23 : wlen (if sd = 0 then 23 else 24) ≤ 5 := by split <;> decide
    unfold stS
    split
    · show 0 ≤ 26
      omega
    · unfold stW
      rw [List.length_append, wlX_len, clTs_len]
      omega
  have h0 := hS 0 cs0 l0
  have h1 := hS 1 cs1 l1
  refine ⟨?_, fun j hj => ?_⟩
  · rw [e]
    unfold tx0
    simp only [List.length_append, wlX_len, List.length_cons, List.length_nil]
    omega
  · have hm : (txE c z).getD j 0 ∈ txE c z := by
      rw [List.getD_eq_getElem?_getD, List.getElem?_eq_getElem hj]
      exact List.getElem_mem hj
    generalize (txE c z).getD j 0 = x at hm ⊢
    rw [e] at hm
    unfold tx0 at hm
    rcases List.mem_append.mp hm with h | h
    · rcases List.mem_append.mp h with h | h
      · rcases List.mem_append.mp h with h | h
        · exact wl_pos 20 (by omega) x h
        · rw [List.mem_singleton.mp h]
          omega
      · exact wl_pos _ (by split <;> omega) x h
    · rcases List.mem_append.mp h with h | h
      · exact stS_pos hz 0 q0 x h
      · rcases List.mem_append.mp h with h | h
        · exact stS_pos hz 1 (fun q hq => (q1 q hq).1) x h
        · exact wl_pos _ (by split <;> omega) x h
