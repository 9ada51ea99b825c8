/-! ===== what comes back as a reference ===== -/
theorem p_Hi_latest {x1 : Int} {s : Sg} {o : Nat} (hs : Hi_latest x1 s = some o) : isPos o := by
  unfold Hi_latest Hi_latest_b23 at hs
  refine grd_e hs (fun _ hs => ?_)
  obtain ⟨-, -, h1, h2⟩ := ifLt_u (lett_eq _ _ ▸ hs)
  by_cases q : (gi s 16 1 + x1) % 8 < 0
  · cases h1 q
  · obtain ⟨-, -, h3, h4⟩ := ifLt_u (h2 q)
    by_cases q2 : (gi s 16 1 + x1) % 8 < 8
    · refine grd_e (h3 q2) (fun hg hs => ?_)
      cases hs
      exact pos17 hg
    · cases h4 q2
theorem p_Hx_pathsOf {x1 : Int} {s s1 : Sg} {o : Nat} (hs : Hx_pathsOf x1 s = some (o, s1)) : isPaths o := by
  unfold Hx_pathsOf Hx_pathsOf_b15 at hs
  obtain ⟨-, -, h1, h2⟩ := ifEq_u hs
  by_cases q : x1 = 0
  · refine bnd_e (h1 q) (fun s2 _ hs => ?_)
    cases hs
    exact Or.inl rfl
  · refine bnd_e (h2 q) (fun s2 _ hs => ?_)
    cases hs
    exact Or.inr rfl
