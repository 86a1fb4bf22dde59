/-! the heap's instructions, calls, ends -/
theorem cx_rt {x : XT} {p : Program} {R : Room} {s : State} {m : MethodId} {args : Array Value} {meth : Method} {c : Code} (X : CX x p R s m args meth c) : RT x.1 s := X.2.2.2.2.2.2.2.2.2.2.2.2.1
theorem cx_scr {x : XT} {p : Program} {R : Room} {s : State} {m : MethodId} {args : Array Value} {meth : Method} {c : Code} (X : CX x p R s m args meth c) : va_X (gS x.1) (gN x.1) (gX x.1) s s.heap := X.2.2.2.2.2.2.2.2.2.2.2.2.2.1
theorem cx_base {x : XT} {p : Program} {R : Room} {s : State} {m : MethodId} {args : Array Value} {meth : Method} {c : Code} (X : CX x p R s m args meth c) : gB x.1 ≤ s.heap.size := X.2.2.2.2.2.2.2.2.2.2.2.2.2.2
theorem cx_room {x : XT} {p : Program} {R : Room} {s : State} {m : MethodId} {args : Array Value} {meth : Method} {c : Code} (X : CX x p R s m args meth c) : x.2.2.1 ≤ R.frames ∧ 40 * x.2.2.1 ≤ R.locals ∧ x.2.2.2.2.2.1 ≤ R.cells ∧ x.2.2.2.2.2.2.1 ≤ R.slots := ⟨X.2.2.2.2.2.2.2.2.1, X.2.2.2.2.2.2.2.2.2.1, X.2.2.2.2.2.2.2.2.2.2.1, X.2.2.2.2.2.2.2.2.2.2.2.1⟩
theorem cx_locks {x : XT} {p : Program} {R : Room} {s : State} {m : MethodId} {args : Array Value} {meth : Method} {c : Code} (X : CX x p R s m args meth c) : meth.locks = false := X.2.2.2.2.2.2.1
theorem cx_name {x : XT} {p : Program} {R : Room} {s : State} {m : MethodId} {args : Array Value} {meth : Method} {c : Code} (X : CX x p R s m args meth c) : meth.name = x.2.1.1.name := X.2.2.2.2.2.2.2.1
theorem go_getf {x : XT} {pc idx c j k : Nat} {q : vw_C} {ls : List (Option Value)} {st : List Value} {h : AH} (hd : decode x.2.1.2.1 pc = .ok (.getfield idx, 3)) (hq : kcl[c]? = some q) (hj : j < q.2.2) (hw : Cond.fieldLink x.2.1.1.cls idx (q.2.1 j).1 (q.2.1 j).2.1 (q.2.1 j).2.2.1 ∈ ktb) (hs : h.2.2.1 k = (0, c + 1))
    (kk : Go x (pc + 3) ls (cval (fco (ktyp c j)) (gB x.1) h.2.2.2.1 h.2.2.2.2.1 h.2.2.2.2.2 k j :: st) h) : Go x pc ls (.ref (gB x.1 + k) :: st) h := by
  intro p e R s m args below meth c' H locs ls' k' w X hR hS hl hn hz
  obtain ⟨cell, q1, q2, q3, q4⟩ := hR.obj hs hq
  obtain ⟨hSl, hfc, kC, hkC, hkind⟩ := (cx_rt X).1 c q hq
  obtain ⟨cf, kf, fi, f, hi, hsl⟩ := hSl j hj
  refine W.getf X.1 X.2.1 X.2.2.2.2.1 (X.2.2.2.2.2.1 _ hw) hi (u_facts hfc hkC (u_lays X.2.2.2.2.2.1 (kf_in hq) hj) hi).1 q1 (by rw [q3]; exact fun h => by cases h) (v := cval (fco (ktyp c j)) (gB x.1) h.2.2.2.1 h.2.2.2.2.1 h.2.2.2.2.2 k j) ?_ rfl rfl hd (kk p e R s m args below meth c' H locs ls' k' w X hR hS hl hn hz)
  rw [hsl, q4 j hj]
theorem kc_apart {x : XT} {p : Program} {R : Room} {s : State} {m : MethodId} {args : Array Value} {meth : Method} {c' : Code} {c : Nat} {q : vw_C} (X : CX x p R s m args meth c') (hq : kcl[c]? = some q) : ∀ a b, a < q.2.2 → b < q.2.2 → a ≠ b → (gI x.1 c) a ≠ (gI x.1 c) b := by
  intro a b ha hb hne
  obtain ⟨hS, -⟩ := (cx_rt X).1 c q hq
  obtain ⟨_, _, _, fa, hia, ea⟩ := hS a ha
  obtain ⟨_, _, _, fb, hib, eb⟩ := hS b hb
  rw [← ea, ← eb]
  refine u_apart (u_lays X.2.2.2.2.2.1 (kf_in hq) ha) (u_lays X.2.2.2.2.2.1 (kf_in hq) hb) hia hib ?_
  rw [(State.fieldFound?_type hia (kf_ty hq a ha)).1, (State.fieldFound?_type hib (kf_ty hq b hb)).1]
  exact kf_nm hq a ha b hb hne
/-- a field is written: the object's cell afterwards -/
theorem go_putf {x : XT} {pc idx c j k : Nat} {q : vw_C} {v : Value} {ls : List (Option Value)} {st : List Value} {n z : Nat} {S : Nat → Nat × Nat} {I I' : Nat → Nat → Int32} {J J' : Nat → Nat → Int64} {R0 R' : Nat → Nat → Option Nat} (hd : decode x.2.1.2.1 pc = .ok (.putfield idx, 3)) (hq : kcl[c]? = some q) (hj : j < q.2.2) (hw : Cond.fieldLink x.2.1.1.cls idx (q.2.1 j).1 (q.2.1 j).2.1 (q.2.1 j).2.2.1 ∈ ktb) (hs : S k = (0, c + 1))
    (hfin : (q.2.1 j).2.2.2 = false ∨ (x.2.1.1.name = "<init>" ∧ (q.2.1 j).1 = x.2.1.1.cls)) (hna : narrow (ktyp c j) v = v) (hfit : fits (ktyp c j) v = true)
    (hI : ∀ a, a ≠ k → I' a = I a) (hJ : ∀ a, a ≠ k → J' a = J a) (hRr : ∀ a, a ≠ k → R' a = R0 a)
    (hv : ∀ i, i < q.2.2 → cval (fco (ktyp c i)) (gB x.1) I' J' R' k i = if i = j then v else cval (fco (ktyp c i)) (gB x.1) I J R0 k i)
    (kk : Go x (pc + 3) ls st (n, z, S, I', J', R')) : Go x pc ls (v :: .ref (gB x.1 + k) :: st) (n, z, S, I, J, R0) := by
  intro p e R s m args below meth c' H locs ls' k' w X hR hS hl hn hz
  obtain ⟨cell, q1, q2, q3, q4⟩ := hR.obj (h := (n, z, S, I, J, R0)) hs hq
  obtain ⟨hSl, hfc, kC, hkC, hkind⟩ := (cx_rt X).1 c q hq
  obtain ⟨cf, kf, fi, f, hi, hsl⟩ := hSl j hj
  have hts := X.2.2.2.2.2.1
  have hlay := hts _ (kf_in hq _ (u_in_lay hj))
  have hst := (u_facts hfc hkC (u_lays hts (kf_in hq) hj) hi).1
  have hap := kc_apart X hq
  have fin : ∀ H' : Heap, H'[gB x.1 + k]? = some (cell.setSlot f.slot v) → H'.size = H.size → (∀ q, q ≠ gB x.1 + k → H'[q]? = H[q]?) → W p (gL x.1) e R s m args below meth c' H' (locs ++ [⟨gB x.1 + k, f.slot⟩]) k' w (MQ below (XQ x.1 (x.2.2.2.1 + x.2.2.2.2.2.1) (x.2.2.2.2.1 + x.2.2.2.2.2.2.1) x.2.2.2.2.2.2.2) args s x.2.2.2.2.2.1 x.2.2.2.2.2.2.1 (fun q => gB x.1 ≤ q)) (F0 m (pc + 3) ls' st) := by
    intro H' e1 e2 e3
    rw [hsl] at e1
    refine kk p e R s m args below meth c' H' _ ls' k' w X (hR.put e2 e3 hI hJ hRr ?_) (hS.put e2 e3 (Nat.le_add_right _ _)) hl hn hz
    rw [hs]
    refine ⟨q, hq, t_OB.to (V := updV (fun i => cval (fco (ktyp c i)) (gB x.1) I J R0 k i) j v) ⟨_, e1, q2, q3, t_set q4 hap hj v⟩ (fun i hi => ?_)⟩
    rw [hv i hi]
    rfl
  unfold u_lay at hlay
  by_cases hf : (q.2.1 j).2.2.2 = true
  · rw [if_pos hf] at hlay
    rcases hfin with h0 | ⟨hin, hdecl⟩
    · rw [h0] at hf; cases hf
    have hcf : m.cls = cf := by
      obtain ⟨_, _, c2, _, _, _, -, -, hf', -, -, -, hown2, -⟩ := Cond.laysFinal_spec hlay
      have e1 : c2 = cf := by have := hi.symm.trans hf'; simp at this; exact this.1.symm
      rw [hdecl] at hown2
      rw [← e1]; exact Option.some.inj (X.2.2.2.2.1.symm.trans hown2)
    have h6 := u_fits hfc hkC hkind (Or.inr hlay) hi (kf_ty hq j hj) hna hfit
    exact W.putFinK X.1 X.2.1 X.2.2.2.2.1 (hts _ hw) hi hst hcf ((cx_name X).trans hin) (by rw [q2]; exact h6) q1 q3 (by rw [hsl]; exact k2_hasslot (q4 j hj)) rfl rfl hd fin
  · rw [if_neg hf] at hlay
    have h6 := u_store hfc hkC hkind hlay hi (kf_ty hq j hj) hna hfit
    exact W.putK X.1 X.2.1 (f := f) ⟨X.2.2.2.2.1, hts _ hw, ⟨_, _, _, hi⟩, hst⟩ (by rw [q2]; exact h6) q1 q3 (by rw [hsl]; exact k2_hasslot (q4 j hj)) rfl rfl hd fin
theorem cval_int (B : Nat) (I : Nat → Nat → Int32) (J : Nat → Nat → Int64) (R : Nat → Nat → Option Nat) (k j : Nat) : cval 0 B I J R k j = .int (I k j) := rfl
theorem cval_long (B : Nat) (I : Nat → Nat → Int32) (J : Nat → Nat → Int64) (R : Nat → Nat → Option Nat) (k j : Nat) : cval 1 B I J R k j = .long (J k j) := rfl
theorem cval_ref (B : Nat) (I : Nat → Nat → Int32) (J : Nat → Nat → Int64) (R : Nat → Nat → Option Nat) (k j : Nat) : cval 2 B I J R k j = rv B (R k j) := rfl
theorem rv_some (B q : Nat) : rv B (some q) = .ref (B + q) := rfl
theorem rv_none (B : Nat) : rv B none = .null := rfl
theorem fco_cases (t : FieldType) : fco t = 0 ∨ fco t = 1 ∨ fco t = 2 := by cases t <;> simp [fco]
theorem cval_upI {B : Nat} {I : Nat → Nat → Int32} {J : Nat → Nat → Int64} {R : Nat → Nat → Option Nat} {k j i co : Nat} {v : Int32} (hc : i = j → co = 0) : cval co B (va_up I k (va_up (I k) j v)) J R k i = if i = j then .int v else cval co B I J R k i := by
  by_cases h : i = j
  · rw [if_pos h, hc h, h]
    simp [cval, va_up]
  · rw [if_neg h]
    unfold cval
    rw [va_up_self, va_up_ne _ _ h]
theorem cval_upJ {B : Nat} {I : Nat → Nat → Int32} {J : Nat → Nat → Int64} {R : Nat → Nat → Option Nat} {k j i co : Nat} {v : Int64} (hc : i = j → co = 1) : cval co B I (va_up J k (va_up (J k) j v)) R k i = if i = j then .long v else cval co B I J R k i := by
  by_cases h : i = j
  · rw [if_pos h, hc h, h]
    simp [cval, va_up]
  · rw [if_neg h]
    unfold cval
    rw [va_up_self, va_up_ne _ _ h]
theorem cval_upR {B : Nat} {I : Nat → Nat → Int32} {J : Nat → Nat → Int64} {R : Nat → Nat → Option Nat} {k j i co : Nat} {v : Option Nat} (hc : i = j → co = 2) : cval co B I J (va_up R k (va_up (R k) j v)) k i = if i = j then rv B v else cval co B I J R k i := by
  by_cases h : i = j
  · rw [if_pos h, hc h, h]
    simp [cval, va_up]
  · rw [if_neg h]
    unfold cval
    rw [va_up_self, va_up_ne _ _ h]
theorem go_iald {x : XT} {pc k len : Nat} {j : Int32} {ls : List (Option Value)} {st : List Value} {h : AH} (hd : decode x.2.1.2.1 pc = .ok (.iaload, 1)) (hs : h.2.2.1 k = (1, len)) (hin : vp_in j len) (kk : Go x (pc + 1) ls (.int (h.2.2.2.1 k j.toNatClampNeg) :: st) h) : Go x pc ls (.int j :: .ref (gB x.1 + k) :: st) h := by
  intro p e R s m args below meth c' H locs ls' k' w X hR hS hl hn hz
  obtain ⟨ht, hc⟩ := hR.arr (t := 0) hs
  have hlt : j.toNatClampNeg < len := Nat.not_le.mp fun q => hin (Or.inr q)
  have hA := ((cx_rt X).2.1 0 ht).1
  rw [kak_0] at hA hc
  exact W.iald (v := .int (h.2.2.2.1 k j.toNatClampNeg)) X.1 X.2.1 hc (hA _ _) (fun q => by cases q) (by rw [arrV_size]; exact hin) (by rw [arrV_read _ _ hlt]; rfl) rfl rfl hd (kk p e R s m args below meth c' H locs ls' k' w X hR hS hl hn hz)
theorem go_sld {x : XT} {pc : Nat} {j : Int32} {ls : List (Option Value)} {st : List Value} {h : AH} (hd : decode x.2.1.2.1 pc = .ok (.iaload, 1)) (hin : vp_in j (gN x.1)) (kk : Go x (pc + 1) ls (.int (gX x.1 j.toNatClampNeg) :: st) h) : Go x pc ls (.int j :: .ref (gS x.1) :: st) h := by
  intro p e R s m args below meth c' H locs ls' k' w X hR hS hl hn hz
  have hb := hR.2.2.2
  have hbs := cx_base X
  exact va_sld X.1 X.2.1 (cx_scr X) (by omega) (by show ¬ gB x.1 ≤ gS x.1; omega) hS hin hd (kk p e R s m args below meth c' H locs ls' k' w X hR hS hl hn hz)
theorem go_slen {x : XT} {pc : Nat} {ls : List (Option Value)} {st : List Value} {h : AH} (hd : decode x.2.1.2.1 pc = .ok (.arraylength, 1)) (kk : Go x (pc + 1) ls (.int (nI (gN x.1)) :: st) h) : Go x pc ls (.ref (gS x.1) :: st) h := by
  intro p e R s m args below meth c' H locs ls' k' w X hR hS hl hn hz
  have hb := hR.2.2.2
  have hbs := cx_base X
  exact va_slen X.1 X.2.1 (cx_scr X) (by omega) (by show ¬ gB x.1 ≤ gS x.1; omega) hS hd (kk p e R s m args below meth c' H locs ls' k' w X hR hS hl hn hz)
theorem go_alen {x : XT} {pc k t len : Nat} {ls : List (Option Value)} {st : List Value} {h : AH} (hd : decode x.2.1.2.1 pc = .ok (.arraylength, 1)) (hs : h.2.2.1 k = (t + 1, len)) (kk : Go x (pc + 1) ls (.int (nI len) :: st) h) : Go x pc ls (.ref (gB x.1 + k) :: st) h := by
  intro p e R s m args below meth c' H locs ls' k' w X hR hS hl hn hz
  obtain ⟨ht, hc⟩ := hR.arr hs
  exact W.alen (n := Int32.ofNat len) X.1 X.2.1 hc (((cx_rt X).2.1 t ht).1 _ _) (by rw [arrV_size] <;> rfl) rfl rfl hd (kk p e R s m args below meth c' H locs ls' k' w X hR hS hl hn hz)
theorem go_iast {x : XT} {pc k len : Nat} {j v : Int32} {ls : List (Option Value)} {st : List Value} {n z : Nat} {S : Nat → Nat × Nat} {I : Nat → Nat → Int32} {J : Nat → Nat → Int64} {R0 : Nat → Nat → Option Nat} (hd : decode x.2.1.2.1 pc = .ok (.iastore, 1)) (hs : S k = (1, len)) (hin : vp_in j len)
    (kk : Go x (pc + 1) ls st (n, z, S, va_up I k (va_up (I k) j.toNatClampNeg v), J, R0)) : Go x pc ls (.int v :: .int j :: .ref (gB x.1 + k) :: st) (n, z, S, I, J, R0) := by
  intro p e R s m args below meth c' H locs ls' k' w X hR hS hl hn hz
  obtain ⟨ht, hc⟩ := hR.arr (h := (n, z, S, I, J, R0)) (t := 0) hs
  have hA := ((cx_rt X).2.1 0 ht).1
  have hc0 := hc
  rw [kak_0] at hA hc
  refine W.iast X.1 X.2.1 hc (hA _ _) (fun q => by cases q) (by rw [arrV_size]; exact hin) rfl rfl hd fun H1 e1 z1 oq => ?_
  refine kk p e R s m args below meth c' H1 _ ls' k' w X (hR.put z1 oq (fun a ha => va_up_ne _ _ ha) (fun a ha => rfl) (fun a ha => rfl) ?_) (hS.put z1 oq (Nat.le_add_right _ _)) hl hn hz
  rw [hs]
  refine ⟨ht, ?_⟩
  rw [e1, arrV_store, kak_0]
  congr 2
  funext i
  show updV _ _ _ i = cval 0 _ _ _ _ k i
  rw [cval_upI (fun _ => rfl)]
  rfl
theorem go_bald {x : XT} {pc k len : Nat} {j : Int32} {ls : List (Option Value)} {st : List Value} {h : AH} (hd : decode x.2.1.2.1 pc = .ok (.baload, 1)) (hs : h.2.2.1 k = (3, len)) (hin : vp_in j len) (kk : Go x (pc + 1) ls (.int (h.2.2.2.1 k j.toNatClampNeg) :: st) h) : Go x pc ls (.int j :: .ref (gB x.1 + k) :: st) h := by
  intro p e R s m args below meth c' H locs ls' k' w X hR hS hl hn hz
  obtain ⟨ht, hc⟩ := hR.arr (t := 2) hs
  have hlt : j.toNatClampNeg < len := Nat.not_le.mp fun q => hin (Or.inr q)
  have hA := ((cx_rt X).2.1 2 ht).1
  rw [kak_2] at hA hc
  exact W.zald (v := .int (h.2.2.2.1 k j.toNatClampNeg)) X.1 X.2.1 hc (hA _ _) (fun q => by cases q) (by rw [arrV_size]; exact hin) (by rw [arrV_read _ _ hlt]; rfl) rfl rfl hd (kk p e R s m args below meth c' H locs ls' k' w X hR hS hl hn hz)
theorem go_bast {x : XT} {pc k len : Nat} {j v : Int32} {ls : List (Option Value)} {st : List Value} {n z : Nat} {S : Nat → Nat × Nat} {I : Nat → Nat → Int32} {J : Nat → Nat → Int64} {R0 : Nat → Nat → Option Nat} (hd : decode x.2.1.2.1 pc = .ok (.bastore, 1)) (hs : S k = (3, len)) (hin : vp_in j len) (hna : narrow .boolean (.int v) = .int v)
    (kk : Go x (pc + 1) ls st (n, z, S, va_up I k (va_up (I k) j.toNatClampNeg v), J, R0)) : Go x pc ls (.int v :: .int j :: .ref (gB x.1 + k) :: st) (n, z, S, I, J, R0) := by
  intro p e R s m args below meth c' H locs ls' k' w X hR hS hl hn hz
  obtain ⟨ht, hc⟩ := hR.arr (h := (n, z, S, I, J, R0)) (t := 2) hs
  have hA := ((cx_rt X).2.1 2 ht).1
  rw [kak_2] at hA hc
  refine W.zast X.1 X.2.1 hc (hA _ _) (fun q => by cases q) (by rw [arrV_size]; exact hin) rfl rfl hd fun H1 e1 z1 oq => ?_
  rw [hna] at e1
  refine kk p e R s m args below meth c' H1 _ ls' k' w X (hR.put z1 oq (fun a ha => va_up_ne _ _ ha) (fun a ha => rfl) (fun a ha => rfl) ?_) (hS.put z1 oq (Nat.le_add_right _ _)) hl hn hz
  rw [hs]
  refine ⟨ht, ?_⟩
  rw [e1, arrV_store, kak_2]
  congr 2
  funext i
  show updV _ _ _ i = cval 0 _ _ _ _ k i
  rw [cval_upI (fun _ => rfl)]
  rfl
theorem go_aald {x : XT} {pc k t len : Nat} {j : Int32} {ls : List (Option Value)} {st : List Value} {h : AH} (hd : decode x.2.1.2.1 pc = .ok (.aaload, 1)) (hs : h.2.2.1 k = (t + 1, len)) (hr : (kak t).isReference = true) (hin : vp_in j len) (kk : Go x (pc + 1) ls (rv (gB x.1) (h.2.2.2.2.2 k j.toNatClampNeg) :: st) h) : Go x pc ls (.int j :: .ref (gB x.1 + k) :: st) h := by
  intro p e R s m args below meth c' H locs ls' k' w X hR hS hl hn hz
  obtain ⟨ht, hc⟩ := hR.arr hs
  have hlt : j.toNatClampNeg < len := Nat.not_le.mp fun q => hin (Or.inr q)
  have hf : fco (kak t) = 2 := by
    cases hk : kak t <;> rw [hk] at hr <;> first | rfl | cases hr
  exact W.aald (v := rv (gB x.1) (h.2.2.2.2.2 k j.toNatClampNeg)) (ty := kak t) X.1 X.2.1 hc (((cx_rt X).2.1 t ht).1 _ _) hr (fun q => by cases q) (by rw [arrV_size]; exact hin) (by rw [arrV_read _ _ hlt, hf]; rfl) rfl rfl hd (kk p e R s m args below meth c' H locs ls' k' w X hR hS hl hn hz)
theorem go_aast {x : XT} {pc k t len c q' : Nat} {j : Int32} {q : vw_C} {ls : List (Option Value)} {st : List Value} {n z : Nat} {S : Nat → Nat × Nat} {I : Nat → Nat → Int32} {J : Nat → Nat → Int64} {R0 : Nat → Nat → Option Nat} (hd : decode x.2.1.2.1 pc = .ok (.aastore, 1)) (hs : S k = (t + 1, len)) (hq : kcl[c]? = some q) (hk : kak t = .object q.1) (hv : S q' = (0, c + 1)) (hin : vp_in j len)
    (kk : Go x (pc + 1) ls st (n, z, S, I, J, va_up R0 k (va_up (R0 k) j.toNatClampNeg (some q')))) : Go x pc ls (.ref (gB x.1 + q') :: .int j :: .ref (gB x.1 + k) :: st) (n, z, S, I, J, R0) := by
  intro p e R s m args below meth c' H locs ls' k' w X hR hS hl hn hz
  obtain ⟨ht, hc⟩ := hR.arr (h := (n, z, S, I, J, R0)) hs
  obtain ⟨cellV, g1, g2, g3, -⟩ := hR.obj (h := (n, z, S, I, J, R0)) hv hq
  have hlt : j.toNatClampNeg < len := Nat.not_le.mp fun q => hin (Or.inr q)
  have h0 : ¬ j < 0 := fun q => hin (Or.inl q)
  have hcls := ((cx_rt X).1 c q hq).2
  have hra := ((cx_rt X).2.1 t ht).2
  rw [hk] at hra
  obtain ⟨kA, comp, k1, k2, k3, -⟩ := hra
  have hcomp : comp = gC x.1 c := Option.some.inj (k3.symm.trans hcls.1)
  subst hcomp
  obtain ⟨kC, hkC, -⟩ := hcls.2
  refine W.aast X.1 X.2.1 hc (fun q h => by cases h) (fun h => by cases h) k1 k2 rfl hkC ⟨h0, by rw [arrV_size]; exact hlt⟩ g1 (fun q h => by rw [g3] at h; cases h) (by rw [g2]; exact hkC) (by rw [g2]; exact va_assign hcls) rfl rfl hd fun H1 e1 z1 oq => ?_
  refine kk p e R s m args below meth c' H1 _ ls' k' w X (hR.put z1 oq (fun a ha => rfl) (fun a ha => rfl) (fun a ha => va_up_ne _ _ ha) ?_) (hS.put z1 oq (Nat.le_add_right _ _)) hl hn hz
  rw [hs]
  refine ⟨ht, ?_⟩
  rw [e1, arrV_store, hk]
  congr 2
  funext i
  show updV _ _ _ i = cval 2 _ _ _ _ k i
  rw [cval_upR (fun _ => rfl)]
  rfl
