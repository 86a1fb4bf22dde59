/-! THE CLAIM OUT OF ONE WALK OF THE LAW'S BODY. Your part is whole_start (and what it stands on); all else here is the same for every law, but numbers. -/
def R_law : String := "CarSeedsLaw"
def lw_P (b : Addr) (xs : List Int32) (args : Array Value) (s : State) : Prop := args = #[.ref b] ∧ s.IntsAt b xs ∧ xs.length ≤ 2563 ∧ (Jvm.Cond.and given_1 narrow_1).before args s = true
def lw_Q (_ : Array Value) (s : State) (o : Outcome) (t : State) : Prop := o = .returned (some (.int 1)) ∧ Framed s o t [] 600000 7302250
def lw_Z (below : List Frame) (a : Array Value) (s : State) : State → Prop := fun t => ∃ o, t.status = .running ∧ Ended t below o ∧ lw_Q a s o t
/-- the law's own end, with 1 on the stack, nothing written that was there before, its room as the claim has it -/
theorem lw_ret {p : Program} {l : Launch} {e : Env} {s : State} {m : MethodId} {below : List Frame} {meth : Method} {c : Code} {b : Nat} (hx : p.tables.exec = Jvm.exec) (hb : c.code = code) (hr : meth.sig.returnType = ret) (hlocks : meth.locks = false) {pc : Nat} {H : Heap} {ls : Array Slot} (hdg : decode code pc = .ok (.ireturn, 1)) : W p l e room_1 s m #[Value.ref b] below meth c H [] 600000 7302250 (lw_Z below #[Value.ref b] s) (F0 m pc ls [.int 1]) := by
  intro T hT X
  obtain ⟨fs, hret, hrun, hended, hW, hframe⟩ := X.leave (v := some (.int 1)) (hlocks := hlocks) (fun h => by rw [hr] at h; cases h)
  have hmeth' : T.vm.method? m = some meth := X.method'
  refine ⟨T.setFrames fs, ?_, .returned (some (.int 1)), hrun, hended, rfl, ⟨_, rfl⟩, hW, hframe⟩
  jvm_step X.here [X.here.top, hx, hb, hdg, hmeth', hr, ret, narrow_b1]
  (try refine ⟨rfl, ?_⟩); (try refine ⟨rfl, ?_⟩)
  first | (intro acts; rw [hret _ acts rfl rfl rfl]) | rw [hret _ _ rfl rfl rfl]
  exact Steps.refl _
/-- what holds at the law's entry: the machine, the code, the tables' words (any of lw_tbl by 'hts w (by decide +kernel)'), the script of L ints xs at the cell b, what the Statement gives of the start (any of its parts by flat_of_before) -/
def lw_At (p : Program) (s : State) (m : MethodId) (meth : Method) (c : Code) (b L : Nat) (xs : Nat → Int32) : Prop :=
  p.tables.exec = Jvm.exec ∧ c.code = code ∧ meth.sig.returnType = ret ∧ c.maxLocals = 4 ∧ s.vm.findClass R_law = some m.cls ∧ (∀ w ∈ lw_tbl, w.before #[Value.ref b] s = true) ∧ va_X b L xs s s.heap ∧ b < s.heap.size ∧ meth.locks = false ∧ (Jvm.Cond.and given_1 narrow_1).before #[Value.ref b] s = true ∧ meth.name = "law"
theorem arr_of {args : Array Value} {s : State} {ty : FieldType} (h : (Cond.arrayClass ty).before args s = true) : ∃ cA, ArrOfT s cA ty ∧ s.vm.findClass ("[" ++ ty.toString) = some cA := by
  obtain ⟨c, k, comp, h1, h2, h3⟩ := Cond.arrayClass_spec h
  exact ⟨c, fun n z => ⟨fun k h => (by cases h), k, h2, comp, h3⟩, h1⟩
theorem arr_ofO {args : Array Value} {s : State} {C : String} (h : (Cond.arrayOver (.object C)).before args s = true) : ∃ cA, ArrOfT s cA (.object C) ∧ va_RA s cA (.object C) := by
  obtain ⟨comp, c, k, h1, h2, h3, h4, h5⟩ := Cond.arrayOver_spec h
  exact ⟨c, fun n z => ⟨fun k h => (by cases h), k, h3, comp, h4⟩, k, comp, h3, h4, h1, h5⟩
theorem rt_start {b : Nat} {s : State} (hts0 : ∀ w ∈ lw_tbl, w.before #[Value.ref b] s = true) (hts : ∀ w ∈ ktb, w.before #[Value.ref b] s = true) (l : Launch) (L : Nat) (xs : Nat → Int32) : ∃ g : GT, gL g = l ∧ gS g = b ∧ gN g = L ∧ gX g = xs ∧ gB g = s.heap.size ∧ RT g s := by
  have hk : ∀ c : Nat, ∃ cq : ClassId × (Nat → Nat), ∀ q : vw_C, kcl[c]? = some q → u_Kn s q.1 q.2.1 q.2.2 cq.1 cq.2 := by
    intro c
    match c with
    | 0 =>
      obtain ⟨cC, iS, h⟩ := u_known (C := "CarSeeds") (T := kF0) (N := 7) (n := 7) hts kf_in0 (hts (.instantiable "CarSeeds" 7) (by decide +kernel))
      exact ⟨(cC, iS), fun q hq => by cases hq; exact h⟩
    | 1 =>
      obtain ⟨cC, iS, h⟩ := u_known (C := "CarSeeds$Road") (T := kF1) (N := 6) (n := 6) hts kf_in1 (hts (.instantiable "CarSeeds$Road" 6) (by decide +kernel))
      exact ⟨(cC, iS), fun q hq => by cases hq; exact h⟩
    | 2 =>
      obtain ⟨cC, iS, h⟩ := u_known (C := "CarSeeds$Things") (T := kF2) (N := 14) (n := 14) hts kf_in2 (hts (.instantiable "CarSeeds$Things" 14) (by decide +kernel))
      exact ⟨(cC, iS), fun q hq => by cases hq; exact h⟩
    | 3 =>
      obtain ⟨cC, iS, h⟩ := u_known (C := "CarSeeds$State") (T := kF3) (N := 8) (n := 8) hts kf_in3 (hts (.instantiable "CarSeeds$State" 8) (by decide +kernel))
      exact ⟨(cC, iS), fun q hq => by cases hq; exact h⟩
    | 4 =>
      obtain ⟨cC, iS, h⟩ := u_known (C := "CarSeeds$Cars") (T := kF4) (N := 13) (n := 13) hts kf_in4 (hts (.instantiable "CarSeeds$Cars" 13) (by decide +kernel))
      exact ⟨(cC, iS), fun q hq => by cases hq; exact h⟩
    | 5 =>
      obtain ⟨cC, iS, h⟩ := u_known (C := "CarSeeds$Rows") (T := kF5) (N := 2) (n := 2) hts kf_in5 (hts (.instantiable "CarSeeds$Rows" 2) (by decide +kernel))
      exact ⟨(cC, iS), fun q hq => by cases hq; exact h⟩
    | 6 =>
      obtain ⟨cC, iS, h⟩ := u_known (C := "CarSeedsModel") (T := kF6) (N := 20) (n := 20) hts kf_in6 (hts (.instantiable "CarSeedsModel" 20) (by decide +kernel))
      exact ⟨(cC, iS), fun q hq => by cases hq; exact h⟩
    | c + 7 => exact ⟨(0, fun _ => 0), fun q hq => by simp [kcl] at hq⟩
  obtain ⟨f, hf⟩ := Classical.skolem.mp hk
  have ha : ∀ t, ∃ cA, t < kna → ArrOfT s cA (kak t) ∧ va_RA s cA (kak t) := by
    intro t
    match t with
    | 0 =>
      obtain ⟨cA, h1, h2⟩ := arr_of (hts (.arrayClass .int) (by decide +kernel))
      exact ⟨cA, fun _ => ⟨h1, h2⟩⟩
    | 1 =>
      obtain ⟨cA, h1, h2⟩ := arr_ofO (hts0 (.arrayOver (.object "CarSeeds$State")) (by decide +kernel))
      exact ⟨cA, fun _ => ⟨h1, h2⟩⟩
    | 2 =>
      obtain ⟨cA, h1, h2⟩ := arr_of (hts (.arrayClass .boolean) (by decide +kernel))
      exact ⟨cA, fun _ => ⟨h1, h2⟩⟩
    | t + 3 => exact ⟨0, fun h => absurd h (by simp [kna])⟩
  obtain ⟨a, ha⟩ := Classical.skolem.mp ha
  refine ⟨(l, (b, L, xs), s.heap.size, fun c => (f c).1, fun c => (f c).2, a), rfl, rfl, rfl, rfl, rfl, fun c q hq => hf c q hq, ha, ?_, ?_⟩
  · have hin : ∀ w ∈ knst, w ∈ lw_tbl := by decide +kernel
    exact fun w hw => va_Nw.of (knst_tab w hw) (hts0 w (hin w hw))
  · intro C hC
    simp only [kao, List.mem_cons, List.not_mem_nil, or_false] at hC
    subst hC
    exact va_AO.of (hts0 (.arrayOver (.object "CarSeeds$State")) (by decide +kernel))
/-- the walk of the law's body, over what the calls do -/
theorem start_of (hall : ∀ g : GT, ∃ Inv : Nat → AH → Prop, OpA g Inv ∧ (∀ j h, Inv j h → h.2.2.1 0 = (0, 1) ∧ h.1 ≤ 85 ∧ h.2.1 ≤ 7470) ∧ Inv 0 (47, 5228, lS (fun _ => (0, 0)), lI g (fun _ _ => 0), lJ g (fun _ _ => 0), lR (fun _ _ => none))) {p : Program} {e : Env} {s : State} {m : MethodId} {below : List Frame} {meth : Method} {c : Code} (l : Launch) {b L : Nat} {xs : Nat → Int32} (hL : L ≤ 2563) (C0 : lw_At p s m meth c b L xs) : W p l e room_1 s m #[Value.ref b] below meth c s.heap [] 0 0 (lw_Z below #[Value.ref b] s) (entryFrame m ([Value.ref b] : List Value).toArray 4) := by
  obtain ⟨hx, hb, hr, hml, hown, hts0, hX, hbl, hlocks, hgv, hnm⟩ := C0
  have hts : ∀ w ∈ ktb, w.before #[Value.ref b] s = true := fun w hw => hts0 w (List.mem_filter.mp hw).1
  obtain ⟨g, g1, g2, g3, g4, g5, hRT⟩ := rt_start hts0 hts l L xs
  obtain ⟨Inv, hop, hS, h0⟩ := hall g
  obtain ⟨mc, ms, b1, b2, hgo⟩ := l_law (g := g) (S := fun _ => (0, 0)) (I := fun _ _ => 0) (J := fun _ _ => 0) (R := fun _ _ => none) (by rw [g3]; omega) hop hS (by rw [g3]; exact hL) h0
  have hRH : RH g (0, 0, fun _ => (0, 0), fun _ _ => 0, fun _ _ => 0, fun _ _ => none) s.heap := ⟨by rw [g5]; rfl, fun _ => trivial, fun _ _ => rfl, by rw [g2, g5]; exact hbl⟩
  have hX' : va_X (gS g) (gN g) (gX g) s s.heap := by rw [g2, g3, g4]; exact hX
  have hW := hgo p e room_1 s m #[Value.ref b] below meth c s.heap [] _ 0 0 ⟨hx, hb, hr, hml, hown, hts, hlocks, hnm, (show 8 ≤ room_1.frames by decide), (show 40 * 8 ≤ room_1.locals by decide), Nat.le_trans b1 (by decide), Nat.le_trans b2 (by decide), hRT, hX', by rw [g5]; exact Nat.le_refl _⟩ hRH va_S.rf (LV.entry (as := [Value.ref (gS g)]) (n := 4) (show 1 ≤ 4 by decide)) ⟨rfl, Nat.zero_le _⟩ ⟨rfl, Nat.zero_le _⟩
  rw [lg_entry_eq]
  rw [g1, g2] at hW
  intro T hT X
  obtain ⟨t, st, o, q1, q2, ⟨⟨r, h', q3, q4, -, -, -⟩, -⟩, Lc, q5, q6⟩ := hW T hT X
  refine ⟨t, st, o, q1, q2, ?_, ?_⟩
  · rw [q3, q4]
  · refine ⟨q5.1, q5.2.1, q5.2.2.weaken (fun y hy hlt => absurd hlt (Nat.not_lt.mpr ?_)) (Nat.le_trans b1 (by decide)) (Nat.le_trans b2 (by decide))⟩
    have := q6 y hy
    rw [g5] at this
    exact this
