theorem vs_push {A : Nat → Prop} {H0 H H1 : Heap} {locs : List Loc} (h : va_S A H0 H locs) (z : H1.size = H.size + 1) (o : ∀ q : Nat, q < H.size → H1[q]? = H[q]?) : va_S A H0 H1 locs :=
  ⟨by have := h.1; omega, fun q h1 h2 => (o q (Nat.lt_of_lt_of_le h1 h.1)).trans (h.2.1 q h1 h2), h.2.2⟩
theorem go_newa {x : XT} {pc t : Nat} {at_ : ArrayType} {v : Int32} {ls : List (Option Value)} {st : List Value} {n z : Nat} {S : Nat → Nat × Nat} {I : Nat → Nat → Int32} {J : Nat → Nat → Int64} {R0 : Nat → Nat → Option Nat} (hd : decode x.2.1.2.1 pc = .ok (.newarray at_, 2)) (hw : Cond.arrayClass (kak t) ∈ ktb) (hk0 : t < kna) (hty : newarray.typeOf at_ = kak t) (hpr : kak t = .int ∨ kak t = .boolean) (h0 : ¬ v < 0) (h1 : v.toNatClampNeg ≤ 100000) (hc : n + 1 ≤ x.2.2.2.1 + x.2.2.2.2.2.1) (hs : z + v.toNatClampNeg ≤ x.2.2.2.2.1 + x.2.2.2.2.2.2.1)
    (kk : Go x (pc + 2) ls (.ref (gB x.1 + n) :: st) (n + 1, z + v.toNatClampNeg, va_up S n (t + 1, v.toNatClampNeg), va_up I n (fun _ => 0), J, R0)) : Go x pc ls (.int v :: st) (n, z, S, I, J, R0) := by
  intro p e R s m args below meth c' H locs ls' k' w X hR hS hl hn hz
  obtain ⟨r1, r2, r3, r4⟩ := cx_room X
  have hn' : n = x.2.2.2.1 + k' := hn.1
  have hz' : z = x.2.2.2.2.1 + w := hz.1
  have hsz : H.size = gB x.1 + n := hR.1
  refine va_newaK (N := v.toNatClampNeg) (h := gB x.1 + n) X.1 X.2.1 (by rw [hty]; exact X.2.2.2.2.2.1 _ hw) rfl hd rfl h0 rfl (by rw [hty]; rcases hpr with e | e <;> rw [e] <;> (show _ * _ ≤ _; simp only [componentBytes]; omega)) (by omega) (by omega) hsz fun H1 cA e1 z1 o1 hAr hNm => ?_
  have hra := ((cx_rt X).2.1 t hk0).2
  have hra : s.vm.findClass ("[" ++ (newarray.typeOf at_).toString) = some (gA x.1 t) := by
    rw [hty]
    rcases hpr with e | e <;> rw [e] at hra ⊢ <;> exact hra
  have hcA : cA = gA x.1 t := Option.some.inj (hNm.symm.trans hra)
  subst hcA
  refine kk p e R s m args below meth c' H1 locs ls' (k' + 1) (w + v.toNatClampNeg) X (hR.push (by rw [z1, hsz]) (by rw [hsz]; exact o1) (fun a ha => va_up_ne _ _ ha) (fun a ha => rfl) (fun a ha => rfl) ⟨hk0, ?_⟩) (vs_push hS (by rw [z1, hsz]) (by rw [hsz]; exact o1)) hl ⟨by show n + 1 = _; omega, by omega⟩ ⟨by show z + _ = _; omega, by omega⟩
  rw [e1, hty]
  congr 2
  funext i
  show _ = cval (fco (kak t)) _ (va_up I n (fun _ => 0)) _ _ n i
  rcases hpr with e | e <;> rw [e] <;> (show _ = Value.int (va_up I n (fun _ => 0) n i); rw [va_up_self]; rfl)
theorem go_newq {x : XT} {pc idx t : Nat} {C : String} {v : Int32} {ls : List (Option Value)} {st : List Value} {n z : Nat} {S : Nat → Nat × Nat} {I : Nat → Nat → Int32} {J : Nat → Nat → Int64} {R0 : Nat → Nat → Option Nat} (hd : decode x.2.1.2.1 pc = .ok (.anewarray idx, 3)) (hw : Cond.classLink x.2.1.1.cls idx C ∈ ktb) (ho : C ∈ kao) (hk0 : t < kna) (hkt : kak t = .object C) (h0 : ¬ v < 0) (h1 : v.toNatClampNeg ≤ 100000) (hc : n + 1 ≤ x.2.2.2.1 + x.2.2.2.2.2.1) (hs : z + v.toNatClampNeg ≤ x.2.2.2.2.1 + x.2.2.2.2.2.2.1)
    (kk : Go x (pc + 3) ls (.ref (gB x.1 + n) :: st) (n + 1, z + v.toNatClampNeg, va_up S n (t + 1, v.toNatClampNeg), I, J, va_up R0 n (fun _ => none))) : Go x pc ls (.int v :: st) (n, z, S, I, J, R0) := by
  intro p e R s m args below meth c' H locs ls' k' w X hR hS hl hn hz
  obtain ⟨r1, r2, r3, r4⟩ := cx_room X
  have hn' : n = x.2.2.2.1 + k' := hn.1
  have hz' : z = x.2.2.2.2.1 + w := hz.1
  have hsz : H.size = gB x.1 + n := hR.1
  refine W.anew X.1 X.2.1 X.2.2.2.2.1 (X.2.2.2.2.2.1 _ hw) (va_AO.use ((cx_rt X).2.2.2 C ho)) rfl hd rfl h0 (by omega) (by omega) (by omega) fun cA kA comp f1 f2 f3 f4 => ?_
  have hra := ((cx_rt X).2.1 t hk0).2
  rw [hkt] at hra
  obtain ⟨_, _, -, -, -, hra⟩ := hra
  have hcA : cA = gA x.1 t := Option.some.inj (f1.symm.trans hra)
  subst hcA
  generalize hH1 : H.push ({ cls := gA x.1 t, slots := Array.replicate v.toNatClampNeg .null, vm := .none } : Cell) = H1
  have z1 : H1.size = H.size + 1 := by rw [← hH1, Array.size_push]
  have e1 : H1[H.size]? = some (arrV (gA x.1 t) v.toNatClampNeg (fun _ => .null)) := by rw [← hH1, Array.getElem?_push_size, ← arrV_new]
  have o1 : ∀ q : Nat, q < H.size → H1[q]? = H[q]? := fun q hq => by rw [← hH1, Array.getElem?_push, if_neg (Nat.ne_of_lt hq)]
  refine W.eq (g2 := F0 m (pc + 3) ls' (.ref (gB x.1 + n) :: st)) (by rw [hsz]) ?_
  refine kk p e R s m args below meth c' H1 locs ls' (k' + 1) (w + v.toNatClampNeg) X (hR.push z1 o1 (fun a ha => rfl) (fun a ha => rfl) (fun a ha => va_up_ne _ _ ha) ⟨hk0, ?_⟩) (vs_push hS z1 o1) hl ⟨by show n + 1 = _; omega, by omega⟩ ⟨by show z + _ = _; omega, by omega⟩
  rw [← hsz, e1, hkt]
  congr 2
  funext i
  show _ = rv _ (va_up R0 n (fun _ => none) n i)
  rw [va_up_self]
  rfl
theorem go_new {x : XT} {pc idx c : Nat} {q : vw_C} {ls : List (Option Value)} {st : List Value} {n z : Nat} {S : Nat → Nat × Nat} {I : Nat → Nat → Int32} {J : Nat → Nat → Int64} {R0 : Nat → Nat → Option Nat} (hd : decode x.2.1.2.1 pc = .ok (.new idx, 3)) (hq : kcl[c]? = some q) (hw1 : Cond.classLink x.2.1.1.cls idx q.1 ∈ ktb) (hw2 : Cond.instantiable q.1 q.2.2 ∈ ktb) (hw3 : Cond.initialized q.1 ∈ ktb) (hc : n + 1 ≤ x.2.2.2.1 + x.2.2.2.2.2.1) (hs : z + q.2.2 ≤ x.2.2.2.2.1 + x.2.2.2.2.2.2.1)
    (kk : Go x (pc + 3) ls (.ref (gB x.1 + n) :: st) (n + 1, z + q.2.2, va_up S n (0, c + 1), va_up I n (fun _ => 0), va_up J n (fun _ => 0), va_up R0 n (fun _ => none))) : Go x pc ls st (n, z, S, I, J, R0) := by
  intro p e R s m args below meth c' H locs ls' k' w X hR hS hl hn hz
  obtain ⟨r1, r2, r3, r4⟩ := cx_room X
  have hn' : n = x.2.2.2.1 + k' := hn.1
  have hz' : z = x.2.2.2.2.1 + w := hz.1
  have hsz : H.size = gB x.1 + n := hR.1
  have hts := X.2.2.2.2.2.1
  have hKn := (cx_rt X).1 c q hq
  refine W.newcK X.1 X.2.1 X.2.2.2.2.1 (hts _ hw1) (hts _ hw2) (hts _ hw3) rfl hd (by omega) (by omega) hKn.2.1 hsz fun H1 kC hkC e1 z1 o1 => ?_
  refine kk p e R s m args below meth c' H1 locs ls' (k' + 1) (w + q.2.2) X (hR.push (by rw [z1, hsz]) (by rw [hsz]; exact o1) (fun a ha => va_up_ne _ _ ha) (fun a ha => va_up_ne _ _ ha) (fun a ha => va_up_ne _ _ ha) ⟨q, hq, (u_born (ktyp c) hts (kf_in hq) hKn hkC e1 (kf_ty hq)).to (fun i hi => ?_)⟩) (vs_push hS (by rw [z1, hsz]) (by rw [hsz]; exact o1)) hl ⟨by show n + 1 = _; omega, by omega⟩ ⟨by show z + _ = _; omega, by omega⟩
  show _ = cval _ _ (va_up I n _) (va_up J n _) (va_up R0 n _) n i
  unfold cval
  simp only [va_up_self]
  have hdf := kf_df hq i hi
  cases hk : ktyp c i <;> first | rfl | exact absurd hk hdf.1 | exact absurd hk hdf.2
theorem go_objInit {x : XT} {pc idx a : Nat} {ls : List (Option Value)} {st : List Value} {h : AH} (hd : decode x.2.1.2.1 pc = .ok (.invokespecial idx, 3)) (hw1 : Cond.methodLink x.2.1.1.cls idx objectInit ∈ ktb) (hw2 : Cond.instanceMethod objectInit ∈ ktb) (hw3 : Cond.code objectInit ⟨#[0xb1]⟩ 1 none ∈ ktb) (hf : 1 ≤ x.2.2.1) (hr : rs st ≤ 8) (kk : Go x (pc + 3) ls st h) : Go x pc ls (.ref a :: st) h := by
  intro p e R s m args below meth c' H locs ls' k' w X hR hS hl hn hz
  obtain ⟨r1, r2, r3, r4⟩ := cx_room X
  have hts := X.2.2.2.2.2.1
  have hr' : (st.map fun v => v.category).sum ≤ 8 := hr
  refine W.objInit X.1 X.2.1 X.2.2.2.2.1 (hts _ hw1) (hts _ hw2) (hts _ hw3) rfl (by rw [X.2.2.2.1]; exact hl.1.1) rfl hd (by omega) (by show 2 * 0 + _ + 12 ≤ _; omega) ?_
  exact kk p e R s m args below meth c' H locs ls' k' w X hR hS hl hn hz
theorem go_max {x : XT} {pc idx : Nat} {a b : Int32} {ls : List (Option Value)} {st : List Value} {h : AH} (hd : decode x.2.1.2.1 pc = .ok (.invokestatic idx, 3)) (hw1 : Cond.methodLink x.2.1.1.cls idx Lib.Math.max.name ∈ ktb) (hw2 : Cond.static Lib.Math.max.name ∈ ktb) (hw3 : Cond.initialized "java/lang/Math" ∈ ktb) (hw4 : Cond.code Lib.Math.max.name Lib.Math.max.code 2 (some .int) ∈ ktb) (hf : 1 ≤ x.2.2.1) (hr : rs st ≤ 8) (kk : Go x (pc + 3) ls (.int (if a < b then b else a) :: st) h) : Go x pc ls (.int b :: .int a :: st) h := by
  intro p e R s m args below meth c' H locs ls' k' w X hR hS hl hn hz
  obtain ⟨r1, r2, r3, r4⟩ := cx_room X
  have hts := X.2.2.2.2.2.1
  have hr' : (st.map fun v => v.category).sum ≤ 8 := hr
  exact va_mmax X.1 X.2.1 (by rw [X.2.2.2.1]; exact hl.1.1.symm) X.2.2.2.2.1 (hts _ hw1) (hts _ hw2) (hts _ hw3) (hts _ hw4) (by omega) (by omega) (Nat.le_trans hn.2 r3) (Nat.le_trans hz.2 r4) hd (kk p e R s m args below meth c' H locs ls' k' w X hR hS hl hn hz)
theorem go_min {x : XT} {pc idx : Nat} {a b : Int32} {ls : List (Option Value)} {st : List Value} {h : AH} (hd : decode x.2.1.2.1 pc = .ok (.invokestatic idx, 3)) (hw1 : Cond.methodLink x.2.1.1.cls idx Lib.Math.min.name ∈ ktb) (hw2 : Cond.static Lib.Math.min.name ∈ ktb) (hw3 : Cond.initialized "java/lang/Math" ∈ ktb) (hw4 : Cond.code Lib.Math.min.name Lib.Math.min.code 2 (some .int) ∈ ktb) (hf : 1 ≤ x.2.2.1) (hr : rs st ≤ 8) (kk : Go x (pc + 3) ls (.int (if b < a then b else a) :: st) h) : Go x pc ls (.int b :: .int a :: st) h := by
  intro p e R s m args below meth c' H locs ls' k' w X hR hS hl hn hz
  obtain ⟨r1, r2, r3, r4⟩ := cx_room X
  have hts := X.2.2.2.2.2.1
  have hr' : (st.map fun v => v.category).sum ≤ 8 := hr
  exact va_mmin X.1 X.2.1 (by rw [X.2.2.2.1]; exact hl.1.1.symm) X.2.2.2.2.1 (hts _ hw1) (hts _ hw2) (hts _ hw3) (hts _ hw4) (by omega) (by omega) (Nat.le_trans hn.2 r3) (Nat.le_trans hz.2 r4) hd (kk p e R s m args below meth c' H locs ls' k' w X hR hS hl hn hz)
/-- arraycopy of int arrays -/
theorem go_copy {x : XT} {pc idx k k0 len len0 : Nat} {sp dp cnt : Int32} {ls : List (Option Value)} {st : List Value} {n z : Nat} {S : Nat → Nat × Nat} {I : Nat → Nat → Int32} {J : Nat → Nat → Int64} {R0 : Nat → Nat → Option Nat} (hd : decode x.2.1.2.1 pc = .ok (.invokestatic idx, 3)) (hw1 : Cond.methodLink x.2.1.1.cls idx arraycopyName ∈ ktb) (hw2 : Cond.native arraycopyName ∈ ktb) (hw3 : Cond.static arraycopyName ∈ ktb) (hw4 : Cond.initialized "java/lang/System" ∈ ktb)
    (hs : S k = (1, len)) (hs0 : S k0 = (1, len0)) (h1 : ¬ sp < 0) (h2 : ¬ dp < 0) (h3 : ¬ cnt < 0) (h4 : sp.toNatClampNeg + cnt.toNatClampNeg ≤ len0) (h5 : dp.toNatClampNeg + cnt.toNatClampNeg ≤ len) (hf : 1 ≤ x.2.2.1) (hr : rs st ≤ 8)
    (kk : Go x (pc + 3) ls st (n, z, S, va_up I k (va_cpy (I k0) (I k) sp.toNatClampNeg dp.toNatClampNeg cnt.toNatClampNeg), J, R0)) : Go x pc ls (.int cnt :: .int dp :: .ref (gB x.1 + k) :: .int sp :: .ref (gB x.1 + k0) :: st) (n, z, S, I, J, R0) := by
  intro p e R s m args below meth c' H locs ls' k' w X hR hS hl hn hz
  obtain ⟨r1, r2, r3, r4⟩ := cx_room X
  have hts := X.2.2.2.2.2.1
  have hr' : (st.map fun v => v.category).sum ≤ 8 := hr
  obtain ⟨ht, hc1⟩ := hR.arr (h := (n, z, S, I, J, R0)) (t := 0) hs
  obtain ⟨-, hc0⟩ := hR.arr (h := (n, z, S, I, J, R0)) (t := 0) hs0
  have hA := ((cx_rt X).2.1 0 ht)
  rw [kak_0] at hA hc1 hc0
  have hP : va_P ((fun _ => 0), (fun _ _ => 0)) [] [(gB x.1 + k0, .inl (gA x.1 0, len0, .inl (I k0))), (gB x.1 + k, .inl (gA x.1 0, len, .inl (I k)))] H := by
    intro i q hq
    match i, hq with
    | 0, hq => cases hq; exact hc0
    | 1, hq => cases hq; exact hc1
    | i + 2, hq => simp at hq
  intro T hT Y
  have nn : ∀ y : Int32, ¬ y < 0 → y.toInt = (y.toNatClampNeg : Int) := by
    intro y hy
    have hy0 : (0 : Int) ≤ y.toInt := by
      have := Int32.not_lt.mp hy
      simpa using Int32.le_iff_toInt_le.mp this
    show y.toInt = ((y.toInt.toNat : Nat) : Int)
    omega
  have hc0 : H[gB x.1 + k0]? = some (vp_cell (gA x.1 0) (len0, .inl (I k0))) := hc0
  have hc1 : H[gB x.1 + k]? = some (vp_cell (gA x.1 0) (len, .inl (I k))) := hc1
  obtain ⟨-, q0, hq0, cm0, hkk0⟩ := hA.1 len0 (fun j => .int (I k0 j))
  obtain ⟨-, q1, hq1, cm1, hkk1⟩ := hA.1 len (fun j => .int (I k j))
  obtain ⟨vm', X', step⟩ := Y.arraycopy X.1 X.2.2.2.2.1 (hts _ hw1) (hts _ hw2) (hts _ hw3) (hts _ hw4) (src := gB x.1 + k0) (dst := gB x.1 + k) (cs := vp_cell (gA x.1 0) (len0, .inl (I k0))) (cd := vp_cell (gA x.1 0) (len, .inl (I k))) (srcPos := sp) (destPos := dp) (n := cnt) (by rw [hT]; exact hc0) (by rw [hT]; exact hc1)
    (fun _ h => by cases h) (fun _ h => by cases h) (fun h => by cases h) (fun h => by cases h) hq0 hq1 hkk0 hkk1 (by simp [refKind]) h1 h2 h3
    (by rw [nn sp h1, nn cnt h3]; show ¬ _ > ((arrV (gA x.1 0) len0 (fun j => .int (I k0 j))).slots.size : Int); rw [arrV_size]; omega)
    (by rw [nn dp h2, nn cnt h3]; show ¬ _ > ((arrV (gA x.1 0) len (fun j => .int (I k j))).slots.size : Int); rw [arrV_size]; omega)
    (fun vm₁ _ i hi => by
      have e : (vp_cell (gA x.1 0) (len0, .inl (I k0))).slots.getD (sp.toNatClampNeg + i) .null = .int (I k0 (sp.toNatClampNeg + i)) := by
        show (arrV (gA x.1 0) len0 (fun j => .int (I k0 j))).slots.getD _ _ = _
        rw [Array.getD_eq_getD_getElem?, arrV_read _ _ (by omega)]
        rfl
      refine ⟨?_, ?_⟩
      · rw [e]; rfl
      · rw [e]; exact trivial)
    (g := F0 m pc ls' (.int cnt :: .int dp :: .ref (gB x.1 + k) :: .int sp :: .ref (gB x.1 + k0) :: st)) rfl (by rw [X.2.2.2.1]; exact hl.1.1) (rest := st) rfl (by rw [X.2.1]; exact hd) (by omega) (by
      have e5 : nativeFrameWords "java/lang/System" "arraycopy" 5 + 11 ≤ 32 := by decide +kernel
      show 2 * 0 + _ + _ ≤ _
      omega)
  have e1 : copied (vp_cell (gA x.1 0) (len0, .inl (I k0))) (vp_cell (gA x.1 0) (len, .inl (I k))) sp dp cnt = vp_cell (gA x.1 0) (len, .inl (va_cpy (I k0) (I k) sp.toNatClampNeg dp.toNatClampNeg cnt.toNatClampNeg)) := va_copied (fun z => .int z) (gA x.1 0) (gA x.1 0) (I k0) (I k) h4
  rw [e1] at X' step
  have hlt : gB x.1 + k < H.size := (Array.getElem?_eq_some_iff.mp hc1).1
  have hheap : ((T.setVm vm').setCell (gB x.1 + k) (vp_cell (gA x.1 0) (len, .inl (va_cpy (I k0) (I k) sp.toNatClampNeg dp.toNatClampNeg cnt.toNatClampNeg)))).heap = H.setIfInBounds (gB x.1 + k) (vp_cell (gA x.1 0) (len, .inl (va_cpy (I k0) (I k) sp.toNatClampNeg dp.toNatClampNeg cnt.toNatClampNeg))) := by rw [← hT]; rfl
  have oq : ∀ q : Nat, q ≠ gB x.1 + k → (H.setIfInBounds (gB x.1 + k) (vp_cell (gA x.1 0) (len, .inl (va_cpy (I k0) (I k) sp.toNatClampNeg dp.toNatClampNeg cnt.toNatClampNeg))))[q]? = H[q]? := fun q hq => by simp [Array.getElem?_setIfInBounds, Ne.symm hq]
  obtain ⟨t, a1, b1⟩ := kk p e R s m args below meth c' _ _ ls' k' w X (hR.put (H' := H.setIfInBounds (gB x.1 + k) _) (by simp) oq (fun a ha => va_up_ne _ _ ha) (fun a ha => rfl) (fun a ha => rfl) (by
      rw [hs]
      refine ⟨ht, ?_⟩
      rw [kak_0]
      rw [show (H.setIfInBounds (gB x.1 + k) (vp_cell (gA x.1 0) (len, .inl (va_cpy (I k0) (I k) sp.toNatClampNeg dp.toNatClampNeg cnt.toNatClampNeg))))[gB x.1 + k]? = some (vp_cell (gA x.1 0) (len, .inl (va_cpy (I k0) (I k) sp.toNatClampNeg dp.toNatClampNeg cnt.toNatClampNeg))) by simp [Array.getElem?_setIfInBounds, hlt]]
      show some (arrV (gA x.1 0) len (fun j => Value.int (va_cpy (I k0) (I k) sp.toNatClampNeg dp.toNatClampNeg cnt.toNatClampNeg j))) = _
      congr 2
      funext i
      show _ = Value.int (va_up I k _ k i)
      rw [va_up_self])) ⟨by simp; exact hS.1, fun q g1 g2 => by
      rw [oq q (fun e => g2 (by rw [e]; exact Nat.le_add_right _ _))]
      exact hS.2.1 q g1 g2, fun q hq => by
      rcases List.mem_append.mp hq with h | h
      · exact hS.2.2 q h
      · obtain ⟨y, -, hy⟩ := List.mem_map.mp h
        rw [← hy]
        exact Nat.le_add_right _ _⟩ hl hn hz _ hheap X'
  exact ⟨t, step t a1, b1⟩

/-- how a call goes on -/
theorem go_run {x : XT} {p : Program} {e : Env} {R : Room} {s : State} {m : MethodId} {args : Array Value} {below : List Frame} {meth : Method} {c' : Code} {H : Heap} {locs : List Loc} {ls' : Array Slot} {k' w pc mc ms : Nat} {ls : List (Option Value)} {st rest : List Value} {h : AH} {a : Array Value} {Q : Option Value → AH → Prop}
    (X : CX x p R s m args meth c') (hR : RH x.1 h H) (hS : va_S (fun q => gB x.1 ≤ q) s.heap H locs) (hl : LV ls' x.2.1.2.2.1 ls) (hn : h.1 = x.2.2.2.1 + k' ∧ k' ≤ x.2.2.2.2.2.1) (hz : h.2.1 = x.2.2.2.2.1 + w ∧ w ≤ x.2.2.2.2.2.2.1)
    (hr : va_Run p (gL x.1) e R s m args below meth c' H locs k' w mc ms (F0 m pc ls' st) rest (XQ x.1 (h.1 + mc) (h.2.1 + ms) Q a) (fun q => gB x.1 ≤ q)) (hc : h.1 + mc ≤ x.2.2.2.1 + x.2.2.2.2.2.1) (hs : h.2.1 + ms ≤ x.2.2.2.2.1 + x.2.2.2.2.2.2.1)
    (kk : ∀ (r : Option Value) (h' : AH), Q r h' → h'.1 = h.1 + mc → h'.2.1 = h.2.1 + ms → Go x (pc + 3) ls (r.toList ++ rest) h') :
    W p (gL x.1) e R s m args below meth c' H locs k' w (MQ below (XQ x.1 (x.2.2.2.1 + x.2.2.2.2.2.1) (x.2.2.2.2.1 + x.2.2.2.2.2.2.1) x.2.2.2.2.2.2.2) args s x.2.2.2.2.2.1 x.2.2.2.2.2.2.1 (fun q => gB x.1 ≤ q)) (F0 m pc ls' st) := by
  intro T hT Y
  obtain ⟨v, st₀, t, T', L, h0, X', hL, e1, e2, ⟨⟨r, h', ho, hQ, en, ez, hR'⟩, hz1, hk⟩, stp⟩ := hr T hT Y
  cases ho
  rw [h0] at hz1 hk
  have hS' : va_S (fun q => gB x.1 ≤ q) s.heap T'.heap (locs ++ L) := ⟨Nat.le_trans hS.1 (by rw [e1]; exact hz1), fun q h1 h2 => by rw [e1, hk q (Nat.lt_of_lt_of_le h1 hS.1) h2]; exact hS.2.1 q h1 h2, fun q hq => by
      rcases List.mem_append.mp hq with h | h
      · exact hS.2.2 q h
      · exact hL q h⟩
  obtain ⟨t2, a1, b1⟩ := kk v h' hQ en ez p e R s m args below meth c' T'.heap (locs ++ L) ls' (k' + mc) (w + ms) X (by rw [e1]; exact hR') hS' hl ⟨by omega, by omega⟩ ⟨by omega, by omega⟩ T' rfl X'
  exact ⟨t2, stp t2 a1, b1⟩
theorem cn_blind {g : GT} {as : List Value} {h : AH} : FrameBlind (va_Pc as (fun U => RT g U ∧ RH g h U.heap ∧ va_X (gS g) (gN g) (gX g) U U.heap)) :=
  fun a U f mk q => ⟨q.1, RT.same (s := U) (U := U.calling f mk a) rfl q.2.1, q.2.2.1, va_X.moved (u := U) (U := U.calling f mk a) (Vm.Alike.refl U.vm) q.2.2.2⟩
theorem cn_pre {x : XT} {p : Program} {R : Room} {s : State} {m : MethodId} {args : Array Value} {meth : Method} {c' : Code} {H : Heap} {locs : List Loc} {h : AH} {as : List Value} (X : CX x p R s m args meth c') (hR : RH x.1 h H) (hS : va_S (fun q => gB x.1 ≤ q) s.heap H locs) (U : State) (hU : U.heap = H) (hW : s.WarmedH U.vm) :
    va_Pc as (fun U => RT x.1 U ∧ RH x.1 h U.heap ∧ va_X (gS x.1) (gN x.1) (gX x.1) U U.heap) as.toArray U := by
  have hb := hR.2.2.2
  have hbs := cx_base X
  refine ⟨rfl, (cx_rt X).moved hW, by rw [hU]; exact hR, ?_⟩
  have h1 : va_X (gS x.1) (gN x.1) (gX x.1) s U.heap := (cx_scr X).kept (by rw [hU]; exact hS.2.1 _ (by omega) (by show ¬ gB x.1 ≤ gS x.1; omega))
  exact va_X.moved hW.alike h1
/-- what a call's words must be -/
def cwd (own : String) (idx : Nat) (mi : MI) (nA : Nat) : Prop :=
  Cond.initialized mi.1.cls ∈ ktb ∧ (mi.1.cls ≠ "java/lang/invoke/MethodHandle" ∧ mi.1.cls ≠ "java/lang/invoke/VarHandle") ∧ (parseMethodDescriptor mi.1.desc).map (fun d => d.parameters.length) = some nA ∧ mi.2.2.1 ≤ 21
theorem cwd_B {x : XT} {p : Program} {R : Room} {s : State} {m : MethodId} {args : Array Value} {meth : Method} {c' : Code} {idx nA d mc ms : Nat} {mi : MI} (X : CX x p R s m args meth c') (w1 : Cond.code mi.1 mi.2.1 mi.2.2.1 mi.2.2.2 ∈ ktb) (hw : cwd x.2.1.1.cls idx mi nA) (hl : Cond.methodLink x.2.1.1.cls idx mi.1 ∈ ktb) (hdd : d < x.2.2.1) :
    CallB R s args x.2.1.1.cls idx mi.1 mi.2.1 mi.2.2.1 mi.2.2.2 (Cond.code mi.1 mi.2.1 mi.2.2.1 mi.2.2.2 :: ktb) { frames := d, cells := mc, slots := ms, locals := 40 * d } mc ms nA := by
  obtain ⟨w2, w3, w4, w5⟩ := hw
  obtain ⟨r1, r2, r3, r4⟩ := cx_room X
  have hts := X.2.2.2.2.2.1
  refine ⟨rfl, rfl, by show d + 1 ≤ _; omega, by show 8 + (_ + 11) + 40 * d ≤ _; omega, ?_, List.mem_cons_self, hts _ w1, hts _ w2, w3, fun sig h => ?_, hts _ hl⟩
  · refine pay_in (big := ktb) hts (fun w h => ?_)
    rcases List.mem_cons.mp h with rfl | h
    · exact ⟨w1, kgood _ w1⟩
    · exact ⟨h, kgood _ h⟩
  · rw [h] at w4
    exact (Option.some.inj w4).symm
theorem go_callV {x : XT} {pc idx nA d mc ms c k : Nat} {mi : MI} {q : vw_C} {as rest : List Value} {ls : List (Option Value)} {h : AH} {Q : Option Value → AH → Prop} (hd : decode x.2.1.2.1 pc = .ok (.invokevirtual idx, 3)) (hw : cwd x.2.1.1.cls idx mi nA) (hl0 : Cond.methodLink x.2.1.1.cls idx mi.1 ∈ ktb) (hi : Cond.instanceMethod mi.1 ∈ ktb) (hse : Cond.selects mi.1.cls mi.1 mi.1 ∈ ktb) (hq : kcl[c]? = some q) (hqn : q.1 = mi.1.cls) (hk : h.2.2.1 k = (0, c + 1)) (hA : as.length = nA)
    (hM : Cn x.1 mi d mc ms (.ref (gB x.1 + k) :: as) h Q) (hdd : d < x.2.2.1) (hc : h.1 + mc ≤ x.2.2.2.1 + x.2.2.2.2.2.1) (hs : h.2.1 + ms ≤ x.2.2.2.2.1 + x.2.2.2.2.2.2.1) (hr : rs rest ≤ 8)
    (kk : ∀ (r : Option Value) (h' : AH), Q r h' → h'.1 = h.1 + mc → h'.2.1 = h.2.1 + ms → Go x (pc + 3) ls (r.toList ++ rest) h') : Go x pc ls (as.reverse ++ .ref (gB x.1 + k) :: rest) h := by
  intro p e R s m args below meth c' H locs ls' k' w X hR hS hl hn hz
  obtain ⟨r1, r2, r3, r4⟩ := cx_room X
  have hts := X.2.2.2.2.2.1
  obtain ⟨cell, q1, q2, q3, -⟩ := hR.obj hk hq
  refine go_run X hR hS hl hn hz (va_runV (As := as) (rest := rest) (Ts := ktb) ⟨X.1, X.2.1, X.2.2.2.1, X.2.2.2.2.1, hts⟩ hM.2 ⟨cwd_B X hM.1 hw hl0 hdd, hts _ hi, hts _ hse⟩ ⟨cn_blind, ⟨cell, q1, by rw [q3]; rfl, by rw [q2, ← hqn]; exact ((cx_rt X).1 c q hq).2.1⟩, fun U hU hW => cn_pre X hR hS U hU hW⟩ rfl hA hl.1.1 rfl (lv_room hr) hd ⟨by omega, by omega⟩) hc hs kk
theorem go_callS {x : XT} {pc idx nA d mc ms : Nat} {mi : MI} {as rest : List Value} {ls : List (Option Value)} {h : AH} {Q : Option Value → AH → Prop} (hd : decode x.2.1.2.1 pc = .ok (.invokestatic idx, 3)) (hw : cwd x.2.1.1.cls idx mi nA) (hl0 : Cond.methodLink x.2.1.1.cls idx mi.1 ∈ ktb) (hi : Cond.static mi.1 ∈ ktb) (hA : as.length = nA)
    (hM : Cn x.1 mi d mc ms as h Q) (hdd : d < x.2.2.1) (hc : h.1 + mc ≤ x.2.2.2.1 + x.2.2.2.2.2.1) (hs : h.2.1 + ms ≤ x.2.2.2.2.1 + x.2.2.2.2.2.2.1) (hr : rs rest ≤ 8)
    (kk : ∀ (r : Option Value) (h' : AH), Q r h' → h'.1 = h.1 + mc → h'.2.1 = h.2.1 + ms → Go x (pc + 3) ls (r.toList ++ rest) h') : Go x pc ls (as.reverse ++ rest) h := by
  intro p e R s m args below meth c' H locs ls' k' w X hR hS hl hn hz
  obtain ⟨r1, r2, r3, r4⟩ := cx_room X
  have hts := X.2.2.2.2.2.1
  refine go_run X hR hS hl hn hz (va_runS (As := as) (rest := rest) (Ts := ktb) ⟨X.1, X.2.1, X.2.2.2.1, X.2.2.2.2.1, hts⟩ hM.2 ⟨cwd_B X hM.1 hw hl0 hdd, hts _ hi⟩ ⟨cn_blind, fun U hU hW => cn_pre X hR hS U hU hW⟩ rfl hA hl.1.1 rfl (lv_room hr) hd ⟨by omega, by omega⟩) hc hs kk
theorem go_callI {x : XT} {pc idx nA d mc ms a : Nat} {mi : MI} {as rest : List Value} {ls : List (Option Value)} {h : AH} {Q : Option Value → AH → Prop} (hd : decode x.2.1.2.1 pc = .ok (.invokespecial idx, 3)) (hw : cwd x.2.1.1.cls idx mi nA) (hl0 : Cond.methodLink x.2.1.1.cls idx mi.1 ∈ ktb) (hi : Cond.instanceMethod mi.1 ∈ ktb) (hnm : mi.1.name = "<init>") (hret : mi.2.2.2 = none) (hA : as.length = nA)
    (hM : Cn x.1 mi d mc ms (.ref a :: as) h Q) (hdd : d < x.2.2.1) (hc : h.1 + mc ≤ x.2.2.2.1 + x.2.2.2.2.2.1) (hs : h.2.1 + ms ≤ x.2.2.2.2.1 + x.2.2.2.2.2.2.1) (hr : rs rest ≤ 8)
    (kk : ∀ (r : Option Value) (h' : AH), Q r h' → h'.1 = h.1 + mc → h'.2.1 = h.2.1 + ms → Go x (pc + 3) ls (r.toList ++ rest) h') : Go x pc ls (as.reverse ++ .ref a :: rest) h := by
  intro p e R s m args below meth c' H locs ls' k' w X hR hS hl hn hz
  obtain ⟨r1, r2, r3, r4⟩ := cx_room X
  have hts := X.2.2.2.2.2.1
  have hB := cwd_B (mc := mc) (ms := ms) X hM.1 hw hl0 hdd
  have hM' := hM.2
  rw [hret] at hM' hB
  refine go_run X hR hS hl hn hz (va_runI (As := as) (rest := rest) (Ts := ktb) ⟨X.1, X.2.1, X.2.2.2.1, X.2.2.2.2.1, hts⟩ hM' ⟨hB, hnm, hts _ hi⟩ ⟨cn_blind, fun U hU hW => cn_pre X hR hS U hU hW⟩ rfl hA hl.1.1 rfl (lv_room hr) hd ⟨by omega, by omega⟩) hc hs kk
theorem go_callIN {x : XT} {pc idx nA d mc ms a : Nat} {host : String} {mi : MI} {as rest : List Value} {ls : List (Option Value)} {h : AH} {Q : Option Value → AH → Prop} (hd : decode x.2.1.2.1 pc = .ok (.invokespecial idx, 3)) (hw : cwd x.2.1.1.cls idx mi nA) (hl0 : Cond.methodLinkNest x.2.1.1.cls idx mi.1 host ∈ knst) (hi : Cond.instanceMethod mi.1 ∈ ktb) (hnm : mi.1.name = "<init>") (hret : mi.2.2.2 = none) (hA : as.length = nA)
    (hM : Cn x.1 mi d mc ms (.ref a :: as) h Q) (hdd : d < x.2.2.1) (hc : h.1 + mc ≤ x.2.2.2.1 + x.2.2.2.2.2.1) (hs : h.2.1 + ms ≤ x.2.2.2.2.1 + x.2.2.2.2.2.2.1) (hr : rs rest ≤ 8)
    (kk : ∀ (r : Option Value) (h' : AH), Q r h' → h'.1 = h.1 + mc → h'.2.1 = h.2.1 + ms → Go x (pc + 3) ls (r.toList ++ rest) h') : Go x pc ls (as.reverse ++ .ref a :: rest) h := by
  intro p e R s m args below meth c' H locs ls' k' w X hR hS hl hn hz
  obtain ⟨r1, r2, r3, r4⟩ := cx_room X
  have hts := X.2.2.2.2.2.1
  have hM' := hM.2
  rw [hret] at hM'
  obtain ⟨w2, w3, w4, w5⟩ := hw
  have w1 := hM.1
  rw [hret] at w1
  have hG : GoodIn ktb (Cond.code mi.1 mi.2.1 mi.2.2.1 none :: ktb) := fun w h => by
    rcases List.mem_cons.mp h with rfl | h
    · exact ⟨w1, kgood _ w1⟩
    · exact ⟨h, kgood _ h⟩
  refine go_run X hR hS hl hn hz (va_runIN (As := as) (rest := rest) (Ts := ktb) (host := host) ⟨X.1, X.2.1, X.2.2.2.1, X.2.2.2.2.1, hts⟩ hM' ⟨va_cnB nA hts hG rfl rfl rfl ((cx_rt X).2.2.1 _ hl0) (hts _ w2) ⟨w3.1, w3.2, w4⟩ ⟨by show d + 1 ≤ _; omega, by show 8 + (_ + 11) + 40 * d ≤ _; omega⟩, hnm, hts _ hi⟩ ⟨cn_blind, fun U hU hW => cn_pre X hR hS U hU hW⟩ rfl hA hl.1.1 rfl (lv_room hr) hd ⟨by omega, by omega⟩) hc hs kk
/-! ends -/
theorem go_iret {x : XT} {pc : Nat} {v : Int32} {rt : FieldType} {ls : List (Option Value)} {h : AH} (hd : decode x.2.1.2.1 pc = .ok (.ireturn, 1)) (hrt : x.2.1.2.2.2 = some rt) (hna : narrow rt (.int v) = .int v) (he : e_end x (some (.int v)) h) : Go x pc ls [.int v] h := by
  intro p e R s m args below meth c' H locs ls' k' w X hR hS hl hn hz
  obtain ⟨e1, e2, hQ⟩ := he
  have hk : k' = x.2.2.2.2.2.1 := by have := hn.1; omega
  have hw : w = x.2.2.2.2.2.2.1 := by have := hz.1; omega
  rw [← hk] at e1 ⊢
  rw [← hw] at e2 ⊢
  exact W.zret (hlocks := cx_locks X) X.1 X.2.1 (X.2.2.1.trans hrt) hna (fun t ht hW => ⟨⟨_, h, rfl, hQ, e1, e2, by rw [ht]; exact hR⟩, hS.F ht⟩) hS.2.2 hd
theorem go_lret {x : XT} {pc : Nat} {v : Int64} {ls : List (Option Value)} {h : AH} (hd : decode x.2.1.2.1 pc = .ok (.lreturn, 1)) (hrt : x.2.1.2.2.2 = some .long) (he : e_end x (some (.long v)) h) : Go x pc ls [.long v] h := by
  intro p e R s m args below meth c' H locs ls' k' w X hR hS hl hn hz
  obtain ⟨e1, e2, hQ⟩ := he
  have hk : k' = x.2.2.2.2.2.1 := by have := hn.1; omega
  have hw : w = x.2.2.2.2.2.2.1 := by have := hz.1; omega
  rw [← hk] at e1 ⊢
  rw [← hw] at e2 ⊢
  exact W.lret (hlocks := cx_locks X) X.1 X.2.1 (X.2.2.1.trans hrt) (fun t ht hW => ⟨⟨_, h, rfl, hQ, e1, e2, by rw [ht]; exact hR⟩, hS.F ht⟩) hS.2.2 hd
theorem go_vret {x : XT} {pc : Nat} {ls : List (Option Value)} {h : AH} (hd : decode x.2.1.2.1 pc = .ok (.return_, 1)) (hrt : x.2.1.2.2.2 = none) (he : e_end x none h) : Go x pc ls [] h := by
  intro p e R s m args below meth c' H locs ls' k' w X hR hS hl hn hz
  obtain ⟨e1, e2, hQ⟩ := he
  have hk : k' = x.2.2.2.2.2.1 := by have := hn.1; omega
  have hw : w = x.2.2.2.2.2.2.1 := by have := hz.1; omega
  rw [← hk] at e1 ⊢
  rw [← hw] at e2 ⊢
  exact W.vret (hlocks := cx_locks X) X.1 X.2.1 (X.2.2.1.trans hrt) (fun t ht hW => ⟨⟨_, h, rfl, hQ, e1, e2, by rw [ht]; exact hR⟩, hS.F ht⟩) hS.2.2 hd
/-- a contract, out of the walk from the method's first instruction -/
theorem cn_of {g : GT} {mi : MI} {d mc ms : Nat} {as : List Value} {h : AH} {Q : Option Value → AH → Prop} (hco : Cond.code mi.1 mi.2.1 mi.2.2.1 mi.2.2.2 ∈ ktb) (hpl : plainName mi.1.cls = true) (hle : (ent as).length ≤ mi.2.2.1) (kk : Go (g, mi, d, h.1, h.2.1, mc, ms, Q) 0 (entN as mi.2.2.1) [] h) : Cn g mi d mc ms as h Q := by
  refine ⟨hco, Met.ofW (cc := mi.2.1) (maxL := mi.2.2.1) (ret := mi.2.2.2) hpl rfl ?_⟩
  intro p e s m args below meth c s₁ B hml hv
  obtain ⟨rfl, hT, hR, hX⟩ := hv
  have hts := atoms_spec (ws := Cond.code mi.1 mi.2.1 mi.2.2.1 mi.2.2.2 :: ktb) B.pre
  have hown : s.vm.findClass mi.1.cls = some m.cls := findClass_of_methodNamed B.named
  rw [lg_entry_eq]
  have hbase : gB g ≤ s.heap.size := by rw [hR.1]; exact Nat.le_add_right _ _
  refine kk p e _ s m as.toArray below meth c s.heap [] _ 0 0 ⟨B.exec, B.bytes, B.returns, hml, hown, fun w hw => hts w (List.mem_cons_of_mem _ hw), B.notSynchronized, (name_of_methodNamed B.named B.method).1, Nat.le_refl _, Nat.le_refl _, Nat.le_refl _, Nat.le_refl _, hT, hX, hbase⟩ hR va_S.rf (LV.entry hle) ⟨rfl, Nat.zero_le _⟩ ⟨rfl, Nat.zero_le _⟩
