/-! ===== the law's row of cells taken ===== -/
theorem c_La_bridges {C : Cx} {nx : Nat} (hnx : 80 ≤ nx) (hs81 : shC C nx = some (.inr (.boolean, 81))) (x1 : Int) (s : Sg) : ∀ o, La_bridges x1 nx (zr s nx) = some o → mm C M_L_bridges 11 1 81 nx (nx + 1) [.ref 0, vi x1] (hp nx s) (QI (nx + 1) o.2 o.1) (XF) := by
  intro o hs
  refine mm_of rfl rfl (Nat.le_of_ble_eq_true rfl) ?_
  show ww C M_L_bridges 11 1 81 (nx + 1) (QI (nx + 1) o.2 o.1) (XF) nx 0 0 0 [(0, .ref 0), (1, vi x1)] [] (hp nx s)
  refine x_bipush dL_bridges_0 (by decide) ?_
  refine xe_newa .boolean 81 rfl (by decide) dL_bridges_2 rfl hs81 hnx (Or.inr (Or.inl rfl)) nk_boolean (Nat.le_refl _) (Nat.le_refl _) ?_
  refine w_astore_n (lv' := [(2, .ref nx), (0, .ref 0), (1, vi x1)]) dL_bridges_4 rfl (Nat.le_of_ble_eq_true rfl) rfl ?_
  exact q_La_bridges (Nat.le_succ_of_le hnx) x1 nx ⟨hs81, Nat.lt_succ_self nx⟩ (zr s nx) o hs
