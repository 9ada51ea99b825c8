/-! ===== fillings ===== -/
def nxs (x : Int) : Int := (1103515245 * x + 12345) % 2147483648
def fil (n : Nat) (x : Int) (f : Nat → Int) : Nat → Int × (Nat → Int)
  | 0 => (x, f)
  | i + 1 => if f i = -1 then (nxs (fil n x f i).1, ups (fil n x f i).2 i (nxs (fil n x f i).1 / 65536 % 2)) else fil n x f i
section FILL
variable {n : Nat} {f : Nat → Int} {x : Int}
theorem nxs_rg (x : Int) : 0 ≤ nxs x ∧ nxs x < 2147483648 := by unfold nxs; omega
theorem fil_s (i : Nat) : fil n x f (i + 1) = if f i = -1 then (nxs (fil n x f i).1, ups (fil n x f i).2 i (nxs (fil n x f i).1 / 65536 % 2)) else fil n x f i := rfl
theorem fil_rg (hx : 0 ≤ x ∧ x < 2147483648) : ∀ i, 0 ≤ (fil n x f i).1 ∧ (fil n x f i).1 < 2147483648
  | 0 => hx
  | i + 1 => by
    rw [fil_s]
    split
    · exact nxs_rg _
    · exact fil_rg hx i
/-- what is not reached yet, what is not free -/
theorem fil_o : ∀ (i c : Nat), (i ≤ c ∨ f c ≠ -1) → (fil n x f i).2 c = f c
  | 0, _, _ => rfl
  | i + 1, c, h => by
    have ih := fil_o i c (h.imp (by omega) id)
    rw [fil_s]
    split
    · rename_i q
      show ups _ i _ c = _
      rw [ups_o (by
        rintro rfl
        rcases h with h | h
        · omega
        · exact h q)]
      exact ih
    · exact ih
theorem fil_f : ∀ (i c : Nat), c < i → f c = -1 → (fil n x f i).2 c = 0 ∨ (fil n x f i).2 c = 1
  | 0, c, h, _ => absurd h (Nat.not_lt_zero c)
  | i + 1, c, h, fc => by
    rw [fil_s]
    by_cases e : c = i
    · subst e
      rw [if_pos fc]
      show ups _ c _ c = 0 ∨ ups _ c _ c = 1
      rw [ups_s]
      omega
    · have ih := fil_f i c (by omega) fc
      split
      · show ups _ i _ c = 0 ∨ ups _ i _ c = 1
        rw [ups_o e]; exact ih
      · exact ih
theorem fil_full (hfr : FR n f) : Full n (fil n x f (n * n)).2 := by
  intro c hc
  rcases hfr c hc with q | q | q
  · exact fil_f (n * n) c hc q
  · rw [fil_o (n * n) c (Or.inr (by omega))]; exact Or.inl q
  · rw [fil_o (n * n) c (Or.inr (by omega))]; exact Or.inr q
theorem Full.fr (h : Full n f) : FR n f := fun c hc => Or.inr (h c hc)
/-- who has joined on a full board -/
noncomputable def fow (n : Nat) (f : Nat → Int) : Int := @ite _ (Jn n f 0) (Classical.propDecidable _) 0 1
theorem fow_rg (n : Nat) (f : Nat → Int) : fow n f = 0 ∨ fow n f = 1 := by
  unfold fow
  split
  · exact Or.inl rfl
  · exact Or.inr rfl
theorem fow_jnd (hn : 2 ≤ n) (h : Full n f) : jnd n f = fow n f := by
  unfold fow
  rcases jnd_cases n f with ⟨e, h0⟩ | ⟨e, h0, -⟩ | ⟨-, h0, h1⟩
  · rw [if_pos h0, e]
  · rw [if_neg h0, e]
  · rcases hex_some hn h with q | q
    · exact absurd q h0
    · exact absurd q h1
theorem fow_iff {sd : Int} (hn : 2 ≤ n) (h : Full n f) (hsd : sd = 0 ∨ sd = 1) : fow n f = sd ↔ Jn n f sd := by
  unfold fow
  rcases hsd with rfl | rfl
  · by_cases q : Jn n f 0
    · rw [if_pos q]; exact ⟨fun _ => q, fun _ => rfl⟩
    · rw [if_neg q]; exact ⟨fun k => absurd k (by omega), fun k => absurd k q⟩
  · by_cases q : Jn n f 0
    · rw [if_pos q]; exact ⟨fun k => absurd k (by omega), fun k => absurd k (hex_one hn h q)⟩
    · rw [if_neg q]; exact ⟨fun _ => (hex_some hn h).resolve_left q, fun _ => rfl⟩
/-- seeds and boards, filling by filling -/
def sds (n : Nat) (x : Int) (f : Nat → Int) : Nat → Int
  | 0 => x
  | k + 1 => (fil n (sds n x f k) f (n * n)).1
theorem sds_rg (hx : 0 ≤ x ∧ x < 2147483648) : ∀ k, 0 ≤ sds n x f k ∧ sds n x f k < 2147483648
  | 0 => hx
  | k + 1 => fil_rg (sds_rg hx k) _
/-- a full board where one stone changes sides -/
theorem flip_full {c : Nat} {v : Int} (h : Full n f) (hv : v = 0 ∨ v = 1) : Full n (ups f c v) := by
  intro y hy
  unfold ups
  split
  · exact hv
  · exact h y hy
theorem Rch_away {g : Nat → Int} {c : Nat} {sd : Int} (hg : g c ≠ sd) {v : Int} (hv : v ≠ sd) {y z : Nat} (gy : g y = sd) (hy : y < n * n) (h : Rch (Eb n g) y z) : Rch (Eb n (ups g c v)) y z := by
  refine (h (fun z => z < n * n ∧ g z = sd ∧ Rch (Eb n (ups g c v)) y z) ⟨hy, gy, Rch.rf _ _⟩ ?_).2.2
  rintro u w ⟨hu, gu, ru⟩ e
  have gw : g w = sd := e.2.2.1.symm.trans gu
  have hu2 : u ≠ c := fun q => hg (q ▸ gu)
  have hw2 : w ≠ c := fun q => hg (q ▸ gw)
  exact ⟨e.2.1, gw, ru.st ⟨hu, e.2.1, by rw [ups_o hu2, ups_o hw2]; exact e.2.2.1, by rw [ups_o hu2]; exact e.2.2.2.1, e.2.2.2.2⟩⟩
theorem thr_full {g : Nat → Int} {c : Nat} {sd : Int} (hc : c < n * n) (hg : g c ≠ sd) (hsd : sd = 0 ∨ sd = 1) (hno : ¬ Jn n g sd) : Jn n (ups g c sd) sd ↔ TE n g sd c 1 ∧ TE n g sd c 2 := by
  have hm : -1 ≠ sd := by omega
  have e1 : ups (ups g c (-1)) c sd = ups g c sd := by
    funext y
    unfold ups
    split <;> rfl
  have hno2 : ¬ Jn n (ups g c (-1)) sd := fun h => hno (Jn_mono (by omega) (fun y _ hy => by
    by_cases q : y = c
    · subst q; rw [ups_s] at hy; omega
    · rw [ups_o q] at hy; exact hy) h)
  have hte : ∀ e, TE n (ups g c (-1)) sd c e ↔ TE n g sd c e := by
    intro e
    unfold TE
    refine or_congr Iff.rfl ⟨?_, ?_⟩
    · rintro ⟨j, hj, y, hy, gy, z, hr, he⟩
      have hyc : y ≠ c := fun q => by subst q; rw [ups_s] at gy; omega
      rw [ups_o hyc] at gy
      have hyn : y < n * n := by
        rcases nbj_rg n c j with q | ⟨y', q, hl, -⟩
        · omega
        · have : y' = y := by omega
          exact this ▸ hl
      refine ⟨j, hj, y, hy, gy, z, ?_, he⟩
      have h1 := Rch_away (g := ups g c (-1)) (c := c) (sd := sd) (by rw [ups_s]; exact hm) (v := g c) hg (by rw [ups_o hyc]; exact gy) hyn hr
      have e2 : ups (ups g c (-1)) c (g c) = g := by
        funext w
        exact ups_id (f := g) rfl w
      rw [e2] at h1
      exact h1
    · rintro ⟨j, hj, y, hy, gy, z, hr, he⟩
      have hyc : y ≠ c := fun q => hg (q ▸ gy)
      have hyn : y < n * n := by
        rcases nbj_rg n c j with q | ⟨y', q, hl, -⟩
        · omega
        · have : y' = y := by omega
          exact this ▸ hl
      exact ⟨j, hj, y, hy, by rw [ups_o hyc]; exact gy, z, Rch_away hg hm gy hyn hr, he⟩
  rw [← e1, thr_iff hc (ups_s g c (-1)) (by omega) hno2, hte 1, hte 2]
theorem hex_opp {g : Nat → Int} {w : Int} (hn : 2 ≤ n) (h : FR n g) (hw : w = 0 ∨ w = 1) (k : Jn n g w) : ¬ Jn n g (1 - w) := by
  rcases hw with rfl | rfl
  · exact hex_both hn h k
  · exact fun q => hex_both hn h q k
/-- a free cell whose stone is of no use -/
noncomputable def idl (n : Nat) (f g : Nat → Int) (c : Nat) : Prop := f c = -1 ∧ fow n (ups g c (1 - g c)) = fow n g
theorem idl_iff {g : Nat → Int} {c : Nat} (hn : 2 ≤ n) (h : Full n g) (hc : c < n * n) : fow n (ups g c (1 - g c)) = fow n g ↔ ¬ (g c = fow n g ∧ (TE n g (1 - fow n g) c 1 ∧ TE n g (1 - fow n g) c 2)) := by
  have hw := fow_rg n g
  have hgc := h c hc
  have hfl : Full n (ups g c (1 - g c)) := flip_full h (by omega)
  have hJw := (fow_iff hn h hw).mp rfl
  have hnJ : ¬ Jn n g (1 - fow n g) := by
    rcases hw with e | e
    · rw [e] at hJw ⊢
      exact hex_one hn h hJw
    · rw [e] at hJw ⊢
      exact fun q => hex_one hn h q hJw
  by_cases q : g c = fow n g
  · have hne : g c ≠ 1 - fow n g := by omega
    have ht := thr_full hc hne (by omega) hnJ
    rw [q] at hfl ⊢
    constructor
    · rintro e ⟨-, hT⟩
      have h1 := ht.mpr hT
      have h2 := (fow_iff hn hfl hw).mp e
      exact hex_opp hn hfl.fr hw h2 h1
    · intro hno
      rw [fow_iff hn hfl hw]
      have hn1 : ¬ Jn n (ups g c (1 - fow n g)) (1 - fow n g) := fun k => hno ⟨rfl, ht.mp k⟩
      rcases hex_some hn hfl with k | k
      · rcases hw with e3 | e3
        · rw [e3] at k ⊢; exact k
        · rw [e3] at k hn1; exact absurd k hn1
      · rcases hw with e3 | e3
        · rw [e3] at k hn1; exact absurd k hn1
        · rw [e3] at k ⊢; exact k
  · constructor
    · rintro - ⟨k, -⟩
      exact q k
    · intro _
      rw [fow_iff hn hfl hw]
      refine Jn_mono (by omega) (fun y _ hy => ?_) hJw
      rw [ups_o (show y ≠ c from fun e => by subst e; exact q hy)]; exact hy
end FILL

