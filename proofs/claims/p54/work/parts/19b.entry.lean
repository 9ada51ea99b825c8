/-! THE CLAIM OUT OF ONE WALK OF THE LAW'S BODY. Your part is whole_start (and what it stands on); all else here is the same for every law, but numbers. -/
def R_law : String := "HexArbiterLaw"
def lw_P (b : Addr) (xs : List Int32) (args : Array Value) (s : State) : Prop := args = #[.ref b] ∧ s.IntsAt b xs ∧ xs.length ≤ 260 ∧ (Jvm.Cond.and given_1 narrow_1).before args s = true
def lw_Q (_ : Array Value) (s : State) (o : Outcome) (t : State) : Prop := o = .returned (some (.int 1)) ∧ Framed s o t [] 600130 7301080
def lw_Z (below : List Frame) (a : Array Value) (s : State) : State → Prop := fun t => ∃ o, t.status = .running ∧ Ended t below o ∧ lw_Q a s o t
/-- the law's own end, with 1 on the stack, nothing written that was there before, its room as the claim has it -/
theorem lw_ret {p : Program} {l : Launch} {e : Env} {s : State} {m : MethodId} {below : List Frame} {meth : Method} {c : Code} {b : Nat} (hx : p.tables.exec = Jvm.exec) (hb : c.code = code) (hr : meth.sig.returnType = ret) (hlocks : meth.locks = false) {pc : Nat} {H : Heap} {ls : Array Slot} (hdg : decode code pc = .ok (.ireturn, 1)) : W p l e room_1 s m #[Value.ref b] below meth c H [] 600130 7301080 (lw_Z below #[Value.ref b] s) (F0 m pc ls [.int 1]) := by
  intro T hT X
  obtain ⟨fs, hret, hrun, hended, hW, hframe⟩ := X.leave (v := some (.int 1)) (hlocks := hlocks) (fun h => by rw [hr] at h; cases h)
  have hmeth' : T.vm.method? m = some meth := X.method'
  refine ⟨T.setFrames fs, ?_, .returned (some (.int 1)), hrun, hended, rfl, ⟨_, rfl⟩, hW, hframe⟩
  jvm_step X.here [X.here.top, hx, hb, hdg, hmeth', hr, ret, narrow_b1]
  (try refine ⟨rfl, ?_⟩); (try refine ⟨rfl, ?_⟩)
  first | (intro acts; rw [hret _ acts rfl rfl rfl]) | rw [hret _ _ rfl rfl rfl]
  exact Steps.refl _
/-- what holds at the law's entry: the machine, the code, the tables' words (any of lw_tbl by 'hts w (by decide +kernel)'), the script of L ints xs at the cell b, what the Statement gives of the start (any of its parts by flat_of_before) -/
def lw_At (p : Program) (s : State) (m : MethodId) (meth : Method) (c : Code) (b L : Nat) (xs : Nat → Int32) : Prop :=
  p.tables.exec = Jvm.exec ∧ c.code = code ∧ meth.sig.returnType = ret ∧ c.maxLocals = 3 ∧ s.vm.findClass R_law = some m.cls ∧ (∀ w ∈ lw_tbl, w.before #[Value.ref b] s = true) ∧ va_X b L xs s s.heap ∧ b < s.heap.size ∧ meth.locks = false ∧ (Jvm.Cond.and given_1 narrow_1).before #[Value.ref b] s = true
/-! ===== what the pure part owes; the objects behind the class's ===== -/
def PureLaw : Prop := ∀ (L : Nat) (xs : Nat → Int32) (z : Int32), L ≤ 260 → ∃ (s0 : Sg) (zn T : Nat), Hx_starts (sgS L xs z) = some s0 ∧ (2 ≤ zn ∧ zn ≤ 6) ∧ ((zn : Nat) : Int) = 2 + clv s0 0 % 5 ∧ T = (txE (clv s0) zn).length ∧ T ≤ 94 ∧ (∀ j, j < (txE (clv s0) zn).length → 0 ≤ (txE (clv s0) zn).getD j 0 ∧ (txE (clv s0) zn).getD j 0 < 128) ∧ ((0 ≤ gi s0 1201 0 ∧ gi s0 1201 0 ≤ 260) ∧ ∀ j, R (gi s0 1200 j)) ∧ ∀ s', FrX (cof T) s0 s' → Txt s' (83 + cof T) (txE (clv s0) zn) → ∃ o o2, La_load (83 + cof T) (txE (clv s0) zn) s' = some o ∧ (0 ≤ o.1 ∧ R o.1) ∧ La_tail (83 + cof T + 1 + 1) o.2 = some o2
def xEl (q T : Nat) : List Shp := [.inr (.boolean, q), .inl 13] ++ (List.range (cof T + 1)).map (fun i => .inr (.byte, cpo i)) ++ [.inl 12, .inr (.byte, T), .inr (.boolean, 81), .inr (.boolean, 81)]
theorem xEl_ok {C : Cx} {q T : Nat} (hE : xE C = xEl q T) : (shC C 80 = some (.inr (.boolean, q)) ∧ SHN C (cof T) ∧ shC C (83 + cof T) = some (.inl 12) ∧ shC C (84 + cof T) = some (.inr (.byte, T)) ∧ shC C (83 + cof T + 1 + 1) = some (.inr (.boolean, 81)) ∧ shC C (83 + cof T + 1 + 1 + 1) = some (.inr (.boolean, 81))) ∧ KC C ≤ 1000 ∧ ∀ c, Sum.inl c ∈ xE C → c < 14 := by
  have hc : cof T = 0 ∨ cof T = 1 ∨ cof T = 2 := by have := cof_le T; omega
  have key : ∀ c, (c = 0 ∨ c = 1 ∨ c = 2) → xE C = [.inr (.boolean, q), .inl 13] ++ (List.range (c + 1)).map (fun i => .inr (.byte, cpo i)) ++ [.inl 12, .inr (.byte, T), .inr (.boolean, 81), .inr (.boolean, 81)] → (shC C 80 = some (.inr (.boolean, q)) ∧ SHN C c ∧ shC C (83 + c) = some (.inl 12) ∧ shC C (84 + c) = some (.inr (.byte, T)) ∧ shC C (83 + c + 1 + 1) = some (.inr (.boolean, 81)) ∧ shC C (83 + c + 1 + 1 + 1) = some (.inr (.boolean, 81))) ∧ KC C ≤ 1000 ∧ ∀ c, Sum.inl c ∈ xE C → c < 14 := by
    intro c hc hE
    unfold SHN shC KC
    rw [hE]
    rcases hc with rfl | rfl | rfl
    · refine ⟨⟨rfl, ⟨rfl, fun i hi => ?_⟩, rfl, rfl, rfl, rfl⟩, Nat.le_of_ble_eq_true rfl, fun c hc => ?_⟩
      · match i, hi with
        | 0, _ => rfl
      · simp [List.range_succ] at hc; omega
    · refine ⟨⟨rfl, ⟨rfl, fun i hi => ?_⟩, rfl, rfl, rfl, rfl⟩, Nat.le_of_ble_eq_true rfl, fun c hc => ?_⟩
      · match i, hi with
        | 0, _ => rfl
        | 1, _ => rfl
      · simp [List.range_succ] at hc; omega
    · refine ⟨⟨rfl, ⟨rfl, fun i hi => ?_⟩, rfl, rfl, rfl, rfl⟩, Nat.le_of_ble_eq_true rfl, fun c hc => ?_⟩
      · match i, hi with
        | 0, _ => rfl
        | 1, _ => rfl
        | 2, _ => rfl
      · simp [List.range_succ] at hc; omega
  exact key (cof T) hc hE
theorem room_le {p : Program} {l : Launch} {e : Env} {s : State} {m : MethodId} {args : Array Value} {below : List Frame} {meth : Method} {c : Code} {H : Heap} {locs : List Loc} {cells slots : Nat} {Q : State → Prop} {g : JFrame} (k : W p l e (rmF 17 600130 7301080) s m args below meth c H locs cells slots Q g) : W p l e room_1 s m args below meth c H locs cells slots Q g := by
  intro T hT X
  refine k T hT { X with room := ?_ }
  have h := X.room
  simp only [State.hasRoom, Bool.and_eq_true, decide_eq_true_eq] at h ⊢
  obtain ⟨⟨⟨⟨y, a, b, c, d, e⟩, f⟩, g⟩, i⟩ := h
  have r1 : room_1.frames = 2048 := rfl
  have r2 : room_1.locals = 84000 := rfl
  have r3 : room_1.cells = 600130 := rfl
  have r4 : room_1.slots = 7301080 := rfl
  have q1 : (rmF 17 600130 7301080).frames = 17 := rfl
  have q2 : (rmF 17 600130 7301080).locals = 1190 := rfl
  have q3 : (rmF 17 600130 7301080).cells = 600130 := rfl
  have q4 : (rmF 17 600130 7301080).slots = 7301080 := rfl
  rw [r2] at y c d
  rw [r1] at a b
  rw [r3] at f
  rw [r4] at g
  rw [q1, q2, q3, q4]
  exact ⟨⟨⟨⟨by omega, by omega, by omega, by omega, by omega, e⟩, f⟩, g⟩, i⟩
theorem lw_retR {p : Program} {l : Launch} {e : Env} {s : State} {m : MethodId} {below : List Frame} {meth : Method} {c : Code} {b : Nat} {R : Room} (hx : p.tables.exec = Jvm.exec) (hb : c.code = code) (hr : meth.sig.returnType = ret) (hlocks : meth.locks = false) {pc : Nat} {H : Heap} {ls : Array Slot} (hdg : decode code pc = .ok (.ireturn, 1)) : W p l e R s m #[Value.ref b] below meth c H [] 600130 7301080 (lw_Z below #[Value.ref b] s) (F0 m pc ls [.int 1]) := by
  intro T hT X
  obtain ⟨fs, hret, hrun, hended, hW, hframe⟩ := X.leave (v := some (.int 1)) (hlocks := hlocks) (fun h => by rw [hr] at h; cases h)
  have hmeth' : T.vm.method? m = some meth := X.method'
  refine ⟨T.setFrames fs, ?_, .returned (some (.int 1)), hrun, hended, rfl, ⟨_, rfl⟩, hW, hframe⟩
  jvm_step X.here [X.here.top, hx, hb, hdg, hmeth', hr, ret, narrow_b1]
  (try refine ⟨rfl, ?_⟩); (try refine ⟨rfl, ?_⟩)
  first | (intro acts; rw [hret _ acts rfl rfl rfl]) | rw [hret _ _ rfl rfl rfl]
  exact Steps.refl _
/-- from the entry, for every script of at most 260 ints, the law comes to its end with true -/
theorem whole_start {p : Program} {e : Env} {s : State} {m : MethodId} {below : List Frame} {meth : Method} {c : Code} (hpure : PureLaw) (l : Launch) (hflags : l.flags = flags0) {b L : Nat} {xs : Nat → Int32} (hL : L ≤ 260) (C0 : lw_At p s m meth c b L xs) (hname : meth.name = "law") (htab : c.exceptionTable.toList = []) : W p l e room_1 s m #[Value.ref b] below meth c s.heap [] 0 0 (lw_Z below #[Value.ref b] s) (entryFrame m ([Value.ref b] : List Value).toArray 3) := by
  obtain ⟨hx, hb, hr, hml, hown, hts, hX, hbl, hlocks, hgv⟩ := C0
  have hz : ∃ z : Int32, ∀ E : List Shp, ∃ C : Cx, xB C = s.heap.size ∧ xO C 1200 = b ∧ xL C = L ∧ xV C = oldV L xs z ∧ xE C = E ∧ St C s s.heap := st_all (L := L) (xs := xs) hts (flat_of_before _ hgv) hX hbl hL
  obtain ⟨z, hz⟩ := hz
  obtain ⟨s0, zn, T, p1, p2, p3, p4, p5, p6, p7, p8⟩ := hpure L xs z hL
  obtain ⟨C, hB, hO, hLC, hV, hE, hSt⟩ := hz (xEl (zn * zn) T)
  obtain ⟨⟨e1, e2, e3, e4, e5, e6⟩, e7, e8⟩ := xEl_ok hE
  have hflag : l.stackTraces = false := by
    show (!l.flags.contains noTraceFlag) = false
    rw [hflags]
    decide +kernel
  have hzz : zn * zn ≤ 36 := Nat.le_trans (Nat.mul_le_mul p2.2 p2.2) (by decide)
  have hw := w_law (C := C) (zz := zn * zn) p1 ⟨⟨p2.1, p2.2, rfl, hzz⟩, p5, e2, e1, p7⟩ p3 p4 e2.1 e3 e4 e5 e6 p6 p8
  refine room_le ?_
  have cz : Cz C M_L_law p l s m #[Value.ref b] meth c := ⟨⟨hx, hb, hr, hml, hown⟩, lw_all_hold hts, ⟨hlocks, hname, hflag, htab⟩, hSt, Nat.le_of_eq hB⟩
  have hl := lv_entry ([.ref b]) (n := 3) (Nat.le_of_ble_eq_true rfl)
  rw [lg_entry_eq]
  generalize (lg_sl ([.ref b]) ++ List.replicate (3 - (lg_sl ([.ref b])).length) Slot.unset).toArray = ls at hl ⊢
  have hl : lv_has ls (mL M_L_law) (lm C [(0, .ref 1200)]) := by
    show lv_has ls 3 [(0, .ref (ad C 1200))]
    rw [ad_ge (by omega), hO]
    exact hl
  refine hw p l e s m #[Value.ref b] below meth c (lw_Z below #[Value.ref b] s) cz ?_ (fun E ce q h' H locs ls rest pc k' n' hq => hq.elim) (fun E ce q h' U locs k' n' hq => hq.elim) s.heap [] ls ?_ va_S.rf hl
  · intro v h' H locs ls pc k' n' i hq hP hS hk hn hd hrt
    have hv : v = some (vi 1) := hq
    subst hv
    refine va_forget (fun q hq => by have := hS.2.2 q hq; unfold xAl at this; rw [hB] at this; exact this) ?_
    refine W.widen hk hn ?_
    have hi : i = .ireturn := by
      rcases hrt with ⟨x, h1, h2, -⟩ | ⟨h1, -⟩ | ⟨a, h1, -⟩ | ⟨h1, -⟩ | ⟨x, h1, -⟩ | ⟨x, h1, -⟩
      · exact h2
      · cases h1
      · cases h1
      · cases h1
      · cases h1
      · cases h1
    subst hi
    rw [hb] at hd
    exact lw_retR hx hb hr hlocks hd
  · have hsg : ∀ i j, i < 1000 → gI (hp 0 (sgS L xs z)) i j = 0 := fun i j hi => by
      show Int32.ofInt (if i < 1000 then 0 else (oldV L xs z i j).toInt) = 0
      rw [if_pos hi]
      rfl
    refine ⟨fun k q hk => by simp [wl] at hk, fun i hi j => ?_, by rw [hB]; exact Nat.le_refl _, by rw [hB]; rfl, ⟨Nat.zero_le _, e7, e8⟩, fun i _ hi j => ⟨hsg i j (by omega), ?_, rfl, rfl⟩⟩
    · rw [hV]
      show Int32.ofInt (if i < 1000 then 0 else (oldV L xs z i j).toInt) = _
      rw [if_neg (by omega), Int32.ofInt_toInt]
    · show (if i < 0 then (if i < KN then RT i j else drf ((sgS L xs z).2.2 i j)) else none) = none
      rw [if_neg (Nat.not_lt_zero i)]
