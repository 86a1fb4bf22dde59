theorem go_iconst {x : XT} {pc : Nat} {ls : List (Option Value)} {st : List Value} {h : AH} {n : Int} {v : Int32} (hd : decode x.2.1.2.1 pc = .ok (.iconst n, 1)) (hv : Int32.ofInt n = v) (kk : Go x (pc + 1) ls (.int v :: st) h) : Go x pc ls st h :=
  fun p e R s m args below meth c' H locs ls' k' w X hR hS hl hn hz => lv_iconst X.1 X.2.1 hd hv (kk p e R s m args below meth c' H locs ls' k' w X hR hS hl hn hz)
theorem go_bipush {x : XT} {pc : Nat} {ls : List (Option Value)} {st : List Value} {h : AH} {n : Int} {v : Int32} (hd : decode x.2.1.2.1 pc = .ok (.bipush n, 2)) (hv : (Int8.ofInt n).toInt32 = v) (kk : Go x (pc + 2) ls (.int v :: st) h) : Go x pc ls st h :=
  fun p e R s m args below meth c' H locs ls' k' w X hR hS hl hn hz => lv_bipush X.1 X.2.1 hd hv (kk p e R s m args below meth c' H locs ls' k' w X hR hS hl hn hz)
theorem go_sipush {x : XT} {pc : Nat} {ls : List (Option Value)} {st : List Value} {h : AH} {n : Int} {v : Int32} (hd : decode x.2.1.2.1 pc = .ok (.sipush n, 3)) (hv : (Int16.ofInt n).toInt32 = v) (kk : Go x (pc + 3) ls (.int v :: st) h) : Go x pc ls st h :=
  fun p e R s m args below meth c' H locs ls' k' w X hR hS hl hn hz => lv_sipush X.1 X.2.1 hd hv (kk p e R s m args below meth c' H locs ls' k' w X hR hS hl hn hz)
theorem go_lconst {x : XT} {pc : Nat} {ls : List (Option Value)} {st : List Value} {h : AH} {n : Fin 2} {v : Int64} (hd : decode x.2.1.2.1 pc = .ok (.lconst n, 1)) (hv : Int64.ofNat (n : Nat) = v) (kk : Go x (pc + 1) ls (.long v :: st) h) : Go x pc ls st h :=
  fun p e R s m args below meth c' H locs ls' k' w X hR hS hl hn hz => lv_lconst X.1 X.2.1 hd hv (kk p e R s m args below meth c' H locs ls' k' w X hR hS hl hn hz)
theorem go_ldc {x : XT} {pc : Nat} {ls : List (Option Value)} {st : List Value} {h : AH} {i : Nat} {v : Int32} (hd : decode x.2.1.2.1 pc = .ok (.ldc i, 2)) (hw : Jvm.Cond.constant x.2.1.1.cls i v ∈ ktb) (kk : Go x (pc + 2) ls (.int v :: st) h) : Go x pc ls st h :=
  fun p e R s m args below meth c' H locs ls' k' w X hR hS hl hn hz => lv_ldc X.1 X.2.1 X.2.2.2.2.1 (X.2.2.2.2.2.1 _ hw) hd (kk p e R s m args below meth c' H locs ls' k' w X hR hS hl hn hz)
theorem go_ldc2 {x : XT} {pc : Nat} {ls : List (Option Value)} {st : List Value} {h : AH} {i : Nat} {v : Int64} (hd : decode x.2.1.2.1 pc = .ok (.ldc2_w i, 3)) (hw : Jvm.Cond.constantLong x.2.1.1.cls i v ∈ ktb) (kk : Go x (pc + 3) ls (.long v :: st) h) : Go x pc ls st h :=
  fun p e R s m args below meth c' H locs ls' k' w X hR hS hl hn hz => lv_ldc2 X.1 X.2.1 X.2.2.2.2.1 (X.2.2.2.2.2.1 _ hw) hd (kk p e R s m args below meth c' H locs ls' k' w X hR hS hl hn hz)
theorem go_null {x : XT} {pc : Nat} {ls : List (Option Value)} {st : List Value} {h : AH}  (hd : decode x.2.1.2.1 pc = .ok (.aconst_null, 1)) (kk : Go x (pc + 1) ls (.null :: st) h) : Go x pc ls st h :=
  fun p e R s m args below meth c' H locs ls' k' w X hR hS hl hn hz => lv_null X.1 X.2.1 hd (kk p e R s m args below meth c' H locs ls' k' w X hR hS hl hn hz)
theorem go_iload {x : XT} {pc : Nat} {ls : List (Option Value)} {st : List Value} {h : AH} {i : Nat} {v : Int32} (hd : decode x.2.1.2.1 pc = .ok (.iload i, 2)) (hv : lgt ls i = some (.int v)) (kk : Go x (pc + 2) ls (.int v :: st) h) : Go x pc ls st h :=
  fun p e R s m args below meth c' H locs ls' k' w X hR hS hl hn hz => lv_iload X.1 X.2.1 hd (hl.get hv) (kk p e R s m args below meth c' H locs ls' k' w X hR hS hl hn hz)
theorem go_iload_n {x : XT} {pc : Nat} {ls : List (Option Value)} {st : List Value} {h : AH} {i : Nat} {f : Fin 4} {v : Int32} (hd : decode x.2.1.2.1 pc = .ok (.iload_n f, 1)) (hi : (f : Nat) = i) (hv : lgt ls i = some (.int v)) (kk : Go x (pc + 1) ls (.int v :: st) h) : Go x pc ls st h :=
  fun p e R s m args below meth c' H locs ls' k' w X hR hS hl hn hz => lv_iload_n X.1 X.2.1 hd hi (hl.get hv) (kk p e R s m args below meth c' H locs ls' k' w X hR hS hl hn hz)
theorem go_lload {x : XT} {pc : Nat} {ls : List (Option Value)} {st : List Value} {h : AH} {i : Nat} {v : Int64} (hd : decode x.2.1.2.1 pc = .ok (.lload i, 2)) (hv : lgt ls i = some (.long v)) (kk : Go x (pc + 2) ls (.long v :: st) h) : Go x pc ls st h :=
  fun p e R s m args below meth c' H locs ls' k' w X hR hS hl hn hz => lv_lload X.1 X.2.1 hd (hl.get hv) (kk p e R s m args below meth c' H locs ls' k' w X hR hS hl hn hz)
theorem go_lload_n {x : XT} {pc : Nat} {ls : List (Option Value)} {st : List Value} {h : AH} {i : Nat} {f : Fin 4} {v : Int64} (hd : decode x.2.1.2.1 pc = .ok (.lload_n f, 1)) (hi : (f : Nat) = i) (hv : lgt ls i = some (.long v)) (kk : Go x (pc + 1) ls (.long v :: st) h) : Go x pc ls st h :=
  fun p e R s m args below meth c' H locs ls' k' w X hR hS hl hn hz => lv_lload_n X.1 X.2.1 hd hi (hl.get hv) (kk p e R s m args below meth c' H locs ls' k' w X hR hS hl hn hz)
theorem go_aload {x : XT} {pc : Nat} {ls : List (Option Value)} {st : List Value} {h : AH} {i : Nat} {v : Nat} (hd : decode x.2.1.2.1 pc = .ok (.aload i, 2)) (hv : lgt ls i = some (.ref v)) (kk : Go x (pc + 2) ls (.ref v :: st) h) : Go x pc ls st h :=
  fun p e R s m args below meth c' H locs ls' k' w X hR hS hl hn hz => lv_aload X.1 X.2.1 hd (hl.get hv) (kk p e R s m args below meth c' H locs ls' k' w X hR hS hl hn hz)
theorem go_aload_n {x : XT} {pc : Nat} {ls : List (Option Value)} {st : List Value} {h : AH} {i : Nat} {f : Fin 4} {v : Nat} (hd : decode x.2.1.2.1 pc = .ok (.aload_n f, 1)) (hi : (f : Nat) = i) (hv : lgt ls i = some (.ref v)) (kk : Go x (pc + 1) ls (.ref v :: st) h) : Go x pc ls st h :=
  fun p e R s m args below meth c' H locs ls' k' w X hR hS hl hn hz => lv_aload_n X.1 X.2.1 hd hi (hl.get hv) (kk p e R s m args below meth c' H locs ls' k' w X hR hS hl hn hz)
theorem go_aloadN {x : XT} {pc : Nat} {ls : List (Option Value)} {st : List Value} {h : AH} {i : Nat} (hd : decode x.2.1.2.1 pc = .ok (.aload i, 2)) (hv : lgt ls i = some .null) (kk : Go x (pc + 2) ls (.null :: st) h) : Go x pc ls st h :=
  fun p e R s m args below meth c' H locs ls' k' w X hR hS hl hn hz => lv_aloadN X.1 X.2.1 hd (hl.get hv) (kk p e R s m args below meth c' H locs ls' k' w X hR hS hl hn hz)
theorem go_aload_nN {x : XT} {pc : Nat} {ls : List (Option Value)} {st : List Value} {h : AH} {i : Nat} {f : Fin 4} (hd : decode x.2.1.2.1 pc = .ok (.aload_n f, 1)) (hi : (f : Nat) = i) (hv : lgt ls i = some .null) (kk : Go x (pc + 1) ls (.null :: st) h) : Go x pc ls st h :=
  fun p e R s m args below meth c' H locs ls' k' w X hR hS hl hn hz => lv_aload_nN X.1 X.2.1 hd hi (hl.get hv) (kk p e R s m args below meth c' H locs ls' k' w X hR hS hl hn hz)
theorem go_istore {x : XT} {pc : Nat} {ls : List (Option Value)} {st : List Value} {h : AH} {i : Nat} {v : Int32} (hd : decode x.2.1.2.1 pc = .ok (.istore i, 2)) (hi2 : i < x.2.1.2.2.1) (kk : Go x (pc + 2) (lst (.int v) i ls) st h) : Go x pc ls (.int v :: st) h :=
  fun p e R s m args below meth c' H locs ls' k' w X hR hS hl hn hz => lv_istore X.1 X.2.1 hd hl.1 hi2 rfl (fun ls'' hl'' => kk p e R s m args below meth c' H locs ls'' k' w X hR hS (LV.put hl.2 hl'') hn hz)
theorem go_istore_n {x : XT} {pc : Nat} {ls : List (Option Value)} {st : List Value} {h : AH} {i : Nat} {f : Fin 4} {v : Int32} (hd : decode x.2.1.2.1 pc = .ok (.istore_n f, 1)) (hi : (f : Nat) = i) (hi2 : i < x.2.1.2.2.1) (kk : Go x (pc + 1) (lst (.int v) i ls) st h) : Go x pc ls (.int v :: st) h :=
  fun p e R s m args below meth c' H locs ls' k' w X hR hS hl hn hz => lv_istore_n X.1 X.2.1 hd hi hl.1 hi2 rfl (fun ls'' hl'' => kk p e R s m args below meth c' H locs ls'' k' w X hR hS (LV.put hl.2 hl'') hn hz)
theorem go_astore {x : XT} {pc : Nat} {ls : List (Option Value)} {st : List Value} {h : AH} {i : Nat} {v : Nat} (hd : decode x.2.1.2.1 pc = .ok (.astore i, 2)) (hi2 : i < x.2.1.2.2.1) (kk : Go x (pc + 2) (lst (.ref v) i ls) st h) : Go x pc ls (.ref v :: st) h :=
  fun p e R s m args below meth c' H locs ls' k' w X hR hS hl hn hz => lv_astore X.1 X.2.1 hd hl.1 hi2 rfl (fun ls'' hl'' => kk p e R s m args below meth c' H locs ls'' k' w X hR hS (LV.put hl.2 hl'') hn hz)
theorem go_astore_n {x : XT} {pc : Nat} {ls : List (Option Value)} {st : List Value} {h : AH} {i : Nat} {f : Fin 4} {v : Nat} (hd : decode x.2.1.2.1 pc = .ok (.astore_n f, 1)) (hi : (f : Nat) = i) (hi2 : i < x.2.1.2.2.1) (kk : Go x (pc + 1) (lst (.ref v) i ls) st h) : Go x pc ls (.ref v :: st) h :=
  fun p e R s m args below meth c' H locs ls' k' w X hR hS hl hn hz => lv_astore_n X.1 X.2.1 hd hi hl.1 hi2 rfl (fun ls'' hl'' => kk p e R s m args below meth c' H locs ls'' k' w X hR hS (LV.put hl.2 hl'') hn hz)
theorem go_astoreN {x : XT} {pc : Nat} {ls : List (Option Value)} {st : List Value} {h : AH} {i : Nat} (hd : decode x.2.1.2.1 pc = .ok (.astore i, 2)) (hi2 : i < x.2.1.2.2.1) (kk : Go x (pc + 2) (lst .null i ls) st h) : Go x pc ls (.null :: st) h :=
  fun p e R s m args below meth c' H locs ls' k' w X hR hS hl hn hz => lv_astoreN X.1 X.2.1 hd hl.1 hi2 rfl (fun ls'' hl'' => kk p e R s m args below meth c' H locs ls'' k' w X hR hS (LV.put hl.2 hl'') hn hz)
theorem go_astore_nN {x : XT} {pc : Nat} {ls : List (Option Value)} {st : List Value} {h : AH} {i : Nat} {f : Fin 4} (hd : decode x.2.1.2.1 pc = .ok (.astore_n f, 1)) (hi : (f : Nat) = i) (hi2 : i < x.2.1.2.2.1) (kk : Go x (pc + 1) (lst .null i ls) st h) : Go x pc ls (.null :: st) h :=
  fun p e R s m args below meth c' H locs ls' k' w X hR hS hl hn hz => lv_astore_nN X.1 X.2.1 hd hi hl.1 hi2 rfl (fun ls'' hl'' => kk p e R s m args below meth c' H locs ls'' k' w X hR hS (LV.put hl.2 hl'') hn hz)
theorem go_lstore {x : XT} {pc : Nat} {ls : List (Option Value)} {st : List Value} {h : AH} {i : Nat} {v : Int64} (hd : decode x.2.1.2.1 pc = .ok (.lstore i, 2)) (hi2 : i + 1 < x.2.1.2.2.1) (kk : Go x (pc + 2) (lst2 (.long v) i ls) st h) : Go x pc ls (.long v :: st) h :=
  fun p e R s m args below meth c' H locs ls' k' w X hR hS hl hn hz => lv_lstore X.1 X.2.1 hd hl.1 hi2 rfl (fun ls'' hl'' => kk p e R s m args below meth c' H locs ls'' k' w X hR hS (LV.put2 hl.2 hl'') hn hz)
theorem go_lstore_n {x : XT} {pc : Nat} {ls : List (Option Value)} {st : List Value} {h : AH} {i : Nat} {f : Fin 4} {v : Int64} (hd : decode x.2.1.2.1 pc = .ok (.lstore_n f, 1)) (hi : (f : Nat) = i) (hi2 : i + 1 < x.2.1.2.2.1) (kk : Go x (pc + 1) (lst2 (.long v) i ls) st h) : Go x pc ls (.long v :: st) h :=
  fun p e R s m args below meth c' H locs ls' k' w X hR hS hl hn hz => lv_lstore_n X.1 X.2.1 hd hi hl.1 hi2 rfl (fun ls'' hl'' => kk p e R s m args below meth c' H locs ls'' k' w X hR hS (LV.put2 hl.2 hl'') hn hz)
theorem go_iinc {x : XT} {pc : Nat} {ls : List (Option Value)} {st : List Value} {h : AH} {i : Nat} {n : Int} {v u : Int32} (hd : decode x.2.1.2.1 pc = .ok (.iinc i n, 3)) (hv : lgt ls i = some (.int v)) (hu : Int32.ofInt n = u) (hi2 : i < x.2.1.2.2.1) (kk : Go x (pc + 3) (lst (.int (v + u)) i ls) st h) : Go x pc ls st h := by
  intro p e R s m args below meth c' H locs ls' k' w X hR hS hl hn hz
  obtain ⟨k1, hk1⟩ := List.getElem?_of_mem ((asc_mem ls 0 (i, .int v)).mpr ⟨i, by simp, hv⟩)
  exact lv_iinc X.1 X.2.1 hd hl.1 hk1 (by rw [hu]) hi2 rfl (fun ls'' hl'' => kk p e R s m args below meth c' H locs ls'' k' w X hR hS (LV.put hl.2 hl'') hn hz)
theorem go_iadd {x : XT} {pc : Nat} {ls : List (Option Value)} {st : List Value} {h : AH} {a b : Int32} (hd : decode x.2.1.2.1 pc = .ok (.iadd, 1)) (kk : Go x (pc + 1) ls (.int (a + b) :: st) h) : Go x pc ls (.int b :: .int a :: st) h :=
  fun p e R s m args below meth c' H locs ls' k' w X hR hS hl hn hz => lv_iadd X.1 X.2.1 hd (kk p e R s m args below meth c' H locs ls' k' w X hR hS hl hn hz)
theorem go_isub {x : XT} {pc : Nat} {ls : List (Option Value)} {st : List Value} {h : AH} {a b : Int32} (hd : decode x.2.1.2.1 pc = .ok (.isub, 1)) (kk : Go x (pc + 1) ls (.int (a - b) :: st) h) : Go x pc ls (.int b :: .int a :: st) h :=
  fun p e R s m args below meth c' H locs ls' k' w X hR hS hl hn hz => lv_isub X.1 X.2.1 hd (kk p e R s m args below meth c' H locs ls' k' w X hR hS hl hn hz)
theorem go_imul {x : XT} {pc : Nat} {ls : List (Option Value)} {st : List Value} {h : AH} {a b : Int32} (hd : decode x.2.1.2.1 pc = .ok (.imul, 1)) (kk : Go x (pc + 1) ls (.int (a * b) :: st) h) : Go x pc ls (.int b :: .int a :: st) h :=
  fun p e R s m args below meth c' H locs ls' k' w X hR hS hl hn hz => lv_imul X.1 X.2.1 hd (kk p e R s m args below meth c' H locs ls' k' w X hR hS hl hn hz)
theorem go_iand {x : XT} {pc : Nat} {ls : List (Option Value)} {st : List Value} {h : AH} {a b : Int32} (hd : decode x.2.1.2.1 pc = .ok (.iand, 1)) (kk : Go x (pc + 1) ls (.int (a &&& b) :: st) h) : Go x pc ls (.int b :: .int a :: st) h :=
  fun p e R s m args below meth c' H locs ls' k' w X hR hS hl hn hz => lv_iand X.1 X.2.1 hd (kk p e R s m args below meth c' H locs ls' k' w X hR hS hl hn hz)
theorem go_idiv {x : XT} {pc : Nat} {ls : List (Option Value)} {st : List Value} {h : AH} {a b : Int32} (hd : decode x.2.1.2.1 pc = .ok (.idiv, 1)) (hb0 : ¬ b = 0) (kk : Go x (pc + 1) ls (.int (a / b) :: st) h) : Go x pc ls (.int b :: .int a :: st) h :=
  fun p e R s m args below meth c' H locs ls' k' w X hR hS hl hn hz => lv_idiv X.1 X.2.1 hd hb0 (kk p e R s m args below meth c' H locs ls' k' w X hR hS hl hn hz)
theorem go_irem {x : XT} {pc : Nat} {ls : List (Option Value)} {st : List Value} {h : AH} {a b : Int32} (hd : decode x.2.1.2.1 pc = .ok (.irem, 1)) (hb0 : ¬ b = 0) (kk : Go x (pc + 1) ls (.int (a - a / b * b) :: st) h) : Go x pc ls (.int b :: .int a :: st) h :=
  fun p e R s m args below meth c' H locs ls' k' w X hR hS hl hn hz => lv_irem X.1 X.2.1 hd hb0 (kk p e R s m args below meth c' H locs ls' k' w X hR hS hl hn hz)
theorem go_ineg {x : XT} {pc : Nat} {ls : List (Option Value)} {st : List Value} {h : AH} {a : Int32} (hd : decode x.2.1.2.1 pc = .ok (.ineg, 1)) (kk : Go x (pc + 1) ls (.int (-a) :: st) h) : Go x pc ls (.int a :: st) h :=
  fun p e R s m args below meth c' H locs ls' k' w X hR hS hl hn hz => lv_ineg X.1 X.2.1 hd (kk p e R s m args below meth c' H locs ls' k' w X hR hS hl hn hz)
theorem go_ladd {x : XT} {pc : Nat} {ls : List (Option Value)} {st : List Value} {h : AH} {a b : Int64} (hd : decode x.2.1.2.1 pc = .ok (.ladd, 1)) (kk : Go x (pc + 1) ls (.long (a + b) :: st) h) : Go x pc ls (.long b :: .long a :: st) h :=
  fun p e R s m args below meth c' H locs ls' k' w X hR hS hl hn hz => lv_ladd X.1 X.2.1 hd (kk p e R s m args below meth c' H locs ls' k' w X hR hS hl hn hz)
theorem go_lsub {x : XT} {pc : Nat} {ls : List (Option Value)} {st : List Value} {h : AH} {a b : Int64} (hd : decode x.2.1.2.1 pc = .ok (.lsub, 1)) (kk : Go x (pc + 1) ls (.long (a - b) :: st) h) : Go x pc ls (.long b :: .long a :: st) h :=
  fun p e R s m args below meth c' H locs ls' k' w X hR hS hl hn hz => lv_lsub X.1 X.2.1 hd (kk p e R s m args below meth c' H locs ls' k' w X hR hS hl hn hz)
theorem go_lmul {x : XT} {pc : Nat} {ls : List (Option Value)} {st : List Value} {h : AH} {a b : Int64} (hd : decode x.2.1.2.1 pc = .ok (.lmul, 1)) (kk : Go x (pc + 1) ls (.long (a * b) :: st) h) : Go x pc ls (.long b :: .long a :: st) h :=
  fun p e R s m args below meth c' H locs ls' k' w X hR hS hl hn hz => lv_lmul X.1 X.2.1 hd (kk p e R s m args below meth c' H locs ls' k' w X hR hS hl hn hz)
theorem go_land {x : XT} {pc : Nat} {ls : List (Option Value)} {st : List Value} {h : AH} {a b : Int64} (hd : decode x.2.1.2.1 pc = .ok (.land, 1)) (kk : Go x (pc + 1) ls (.long (a &&& b) :: st) h) : Go x pc ls (.long b :: .long a :: st) h :=
  fun p e R s m args below meth c' H locs ls' k' w X hR hS hl hn hz => lv_land X.1 X.2.1 hd (kk p e R s m args below meth c' H locs ls' k' w X hR hS hl hn hz)
theorem go_ldiv {x : XT} {pc : Nat} {ls : List (Option Value)} {st : List Value} {h : AH} {a b : Int64} (hd : decode x.2.1.2.1 pc = .ok (.ldiv, 1)) (hb0 : ¬ b = 0) (kk : Go x (pc + 1) ls (.long (a / b) :: st) h) : Go x pc ls (.long b :: .long a :: st) h :=
  fun p e R s m args below meth c' H locs ls' k' w X hR hS hl hn hz => lv_ldiv X.1 X.2.1 hd hb0 (kk p e R s m args below meth c' H locs ls' k' w X hR hS hl hn hz)
theorem go_lrem {x : XT} {pc : Nat} {ls : List (Option Value)} {st : List Value} {h : AH} {a b : Int64} (hd : decode x.2.1.2.1 pc = .ok (.lrem, 1)) (hb0 : ¬ b = 0) (kk : Go x (pc + 1) ls (.long (a - a / b * b) :: st) h) : Go x pc ls (.long b :: .long a :: st) h :=
  fun p e R s m args below meth c' H locs ls' k' w X hR hS hl hn hz => lv_lrem X.1 X.2.1 hd hb0 (kk p e R s m args below meth c' H locs ls' k' w X hR hS hl hn hz)
theorem go_i2l {x : XT} {pc : Nat} {ls : List (Option Value)} {st : List Value} {h : AH} {v : Int32} (hd : decode x.2.1.2.1 pc = .ok (.i2l, 1)) (kk : Go x (pc + 1) ls (.long v.toInt64 :: st) h) : Go x pc ls (.int v :: st) h :=
  fun p e R s m args below meth c' H locs ls' k' w X hR hS hl hn hz => lv_i2l X.1 X.2.1 hd rfl (kk p e R s m args below meth c' H locs ls' k' w X hR hS hl hn hz)
theorem go_l2i {x : XT} {pc : Nat} {ls : List (Option Value)} {st : List Value} {h : AH} {v : Int64} (hd : decode x.2.1.2.1 pc = .ok (.l2i, 1)) (kk : Go x (pc + 1) ls (.int v.toInt32 :: st) h) : Go x pc ls (.long v :: st) h :=
  fun p e R s m args below meth c' H locs ls' k' w X hR hS hl hn hz => lv_l2i X.1 X.2.1 hd rfl (kk p e R s m args below meth c' H locs ls' k' w X hR hS hl hn hz)
theorem go_dup {x : XT} {pc : Nat} {ls : List (Option Value)} {st : List Value} {h : AH} {v : Value} (hd : decode x.2.1.2.1 pc = .ok (.dup, 1)) (h1 : v.category = 1) (kk : Go x (pc + 1) ls (v :: v :: st) h) : Go x pc ls (v :: st) h :=
  fun p e R s m args below meth c' H locs ls' k' w X hR hS hl hn hz => lv_dup X.1 X.2.1 hd h1 (kk p e R s m args below meth c' H locs ls' k' w X hR hS hl hn hz)
theorem go_pop {x : XT} {pc : Nat} {ls : List (Option Value)} {st : List Value} {h : AH} {v : Value} (hd : decode x.2.1.2.1 pc = .ok (.pop, 1)) (h1 : v.category = 1) (kk : Go x (pc + 1) ls st h) : Go x pc ls (v :: st) h :=
  fun p e R s m args below meth c' H locs ls' k' w X hR hS hl hn hz => lv_pop X.1 X.2.1 hd h1 (kk p e R s m args below meth c' H locs ls' k' w X hR hS hl hn hz)
theorem go_dup2 {x : XT} {pc : Nat} {ls : List (Option Value)} {st : List Value} {h : AH} {a b : Value} (hd : decode x.2.1.2.1 pc = .ok (.dup2, 1)) (h1 : a.category = 1) (h2 : b.category = 1) (kk : Go x (pc + 1) ls (a :: b :: a :: b :: st) h) : Go x pc ls (a :: b :: st) h :=
  fun p e R s m args below meth c' H locs ls' k' w X hR hS hl hn hz => lv_dup2_11 X.1 X.2.1 hd h1 h2 (kk p e R s m args below meth c' H locs ls' k' w X hR hS hl hn hz)
theorem go_dup_x1 {x : XT} {pc : Nat} {ls : List (Option Value)} {st : List Value} {h : AH} {a b : Value} (hd : decode x.2.1.2.1 pc = .ok (.dup_x1, 1)) (h1 : a.category = 1) (h2 : b.category = 1) (kk : Go x (pc + 1) ls (a :: b :: a :: st) h) : Go x pc ls (a :: b :: st) h :=
  fun p e R s m args below meth c' H locs ls' k' w X hR hS hl hn hz => lv_dup_x1 X.1 X.2.1 hd h1 h2 (kk p e R s m args below meth c' H locs ls' k' w X hR hS hl hn hz)
theorem go_dup_x2 {x : XT} {pc : Nat} {ls : List (Option Value)} {st : List Value} {h : AH} {a b u : Value} (hd : decode x.2.1.2.1 pc = .ok (.dup_x2, 1)) (h1 : a.category = 1) (h2 : b.category = 1) (h3 : u.category = 1) (kk : Go x (pc + 1) ls (a :: b :: u :: a :: st) h) : Go x pc ls (a :: b :: u :: st) h :=
  fun p e R s m args below meth c' H locs ls' k' w X hR hS hl hn hz => lv_dup_x2 X.1 X.2.1 hd h1 h2 h3 (kk p e R s m args below meth c' H locs ls' k' w X hR hS hl hn hz)
theorem go_goto {x : XT} {pc : Nat} {ls : List (Option Value)} {st : List Value} {h : AH} {off : Int} {t : Nat} (hd : decode x.2.1.2.1 pc = .ok (.goto off, 3)) (ht : (pc : Int) + off = (t : Int)) (kk : Go x t ls st h) : Go x pc ls st h :=
  fun p e R s m args below meth c' H locs ls' k' w X hR hS hl hn hz => lv_goto X.1 X.2.1 hd ht (kk p e R s m args below meth c' H locs ls' k' w X hR hS hl hn hz)
theorem go_if_eq {x : XT} {pc : Nat} {ls : List (Option Value)} {st : List Value} {h : AH} {a : Int32} {off : Int} {t : Nat} (hd : decode x.2.1.2.1 pc = .ok (.ifCond .eq off, 3)) (ht : (pc : Int) + off = (t : Int)) (hb2 : e_br (a = 0) (Go x t ls st h) (Go x (pc + 3) ls st h)) : Go x pc ls (.int a :: st) h :=
  fun p e R s m args below meth c' H locs ls' k' w X hR hS hl hn hz => lv_if_eq X.1 X.2.1 hd ht (fun q => hb2.1 q p e R s m args below meth c' H locs ls' k' w X hR hS hl hn hz) (fun q => hb2.2 q p e R s m args below meth c' H locs ls' k' w X hR hS hl hn hz)
theorem go_if_ne {x : XT} {pc : Nat} {ls : List (Option Value)} {st : List Value} {h : AH} {a : Int32} {off : Int} {t : Nat} (hd : decode x.2.1.2.1 pc = .ok (.ifCond .ne off, 3)) (ht : (pc : Int) + off = (t : Int)) (hb2 : e_br (a = 0) (Go x (pc + 3) ls st h) (Go x t ls st h)) : Go x pc ls (.int a :: st) h :=
  fun p e R s m args below meth c' H locs ls' k' w X hR hS hl hn hz => lv_if_ne X.1 X.2.1 hd ht (fun q => hb2.2 q p e R s m args below meth c' H locs ls' k' w X hR hS hl hn hz) (fun q => hb2.1 q p e R s m args below meth c' H locs ls' k' w X hR hS hl hn hz)
theorem go_if_lt {x : XT} {pc : Nat} {ls : List (Option Value)} {st : List Value} {h : AH} {a : Int32} {off : Int} {t : Nat} (hd : decode x.2.1.2.1 pc = .ok (.ifCond .lt off, 3)) (ht : (pc : Int) + off = (t : Int)) (hb2 : e_br (a < 0) (Go x t ls st h) (Go x (pc + 3) ls st h)) : Go x pc ls (.int a :: st) h :=
  fun p e R s m args below meth c' H locs ls' k' w X hR hS hl hn hz => lv_if_lt X.1 X.2.1 hd ht (fun q => hb2.1 q p e R s m args below meth c' H locs ls' k' w X hR hS hl hn hz) (fun q => hb2.2 q p e R s m args below meth c' H locs ls' k' w X hR hS hl hn hz)
theorem go_if_ge {x : XT} {pc : Nat} {ls : List (Option Value)} {st : List Value} {h : AH} {a : Int32} {off : Int} {t : Nat} (hd : decode x.2.1.2.1 pc = .ok (.ifCond .ge off, 3)) (ht : (pc : Int) + off = (t : Int)) (hb2 : e_br (a < 0) (Go x (pc + 3) ls st h) (Go x t ls st h)) : Go x pc ls (.int a :: st) h :=
  fun p e R s m args below meth c' H locs ls' k' w X hR hS hl hn hz => lv_if_ge X.1 X.2.1 hd ht (fun q => hb2.2 (Int32.not_lt.mpr q) p e R s m args below meth c' H locs ls' k' w X hR hS hl hn hz) (fun q => hb2.1 (Int32.not_le.mp q) p e R s m args below meth c' H locs ls' k' w X hR hS hl hn hz)
theorem go_if_gt {x : XT} {pc : Nat} {ls : List (Option Value)} {st : List Value} {h : AH} {a : Int32} {off : Int} {t : Nat} (hd : decode x.2.1.2.1 pc = .ok (.ifCond .gt off, 3)) (ht : (pc : Int) + off = (t : Int)) (hb2 : e_br (0 < a) (Go x t ls st h) (Go x (pc + 3) ls st h)) : Go x pc ls (.int a :: st) h :=
  fun p e R s m args below meth c' H locs ls' k' w X hR hS hl hn hz => lv_if_gt X.1 X.2.1 hd ht (fun q => hb2.1 q p e R s m args below meth c' H locs ls' k' w X hR hS hl hn hz) (fun q => hb2.2 q p e R s m args below meth c' H locs ls' k' w X hR hS hl hn hz)
theorem go_if_le {x : XT} {pc : Nat} {ls : List (Option Value)} {st : List Value} {h : AH} {a : Int32} {off : Int} {t : Nat} (hd : decode x.2.1.2.1 pc = .ok (.ifCond .le off, 3)) (ht : (pc : Int) + off = (t : Int)) (hb2 : e_br (0 < a) (Go x (pc + 3) ls st h) (Go x t ls st h)) : Go x pc ls (.int a :: st) h :=
  fun p e R s m args below meth c' H locs ls' k' w X hR hS hl hn hz => lv_if_le X.1 X.2.1 hd ht (fun q => hb2.2 (Int32.not_lt.mpr q) p e R s m args below meth c' H locs ls' k' w X hR hS hl hn hz) (fun q => hb2.1 (Int32.not_le.mp q) p e R s m args below meth c' H locs ls' k' w X hR hS hl hn hz)
theorem go_icmp_eq {x : XT} {pc : Nat} {ls : List (Option Value)} {st : List Value} {h : AH} {a b : Int32} {off : Int} {t : Nat} (hd : decode x.2.1.2.1 pc = .ok (.if_icmp .eq off, 3)) (ht : (pc : Int) + off = (t : Int)) (hb2 : e_br (a = b) (Go x t ls st h) (Go x (pc + 3) ls st h)) : Go x pc ls (.int b :: .int a :: st) h :=
  fun p e R s m args below meth c' H locs ls' k' w X hR hS hl hn hz => lv_icmp_eq X.1 X.2.1 hd ht (fun q => hb2.1 q p e R s m args below meth c' H locs ls' k' w X hR hS hl hn hz) (fun q => hb2.2 q p e R s m args below meth c' H locs ls' k' w X hR hS hl hn hz)
theorem go_icmp_ne {x : XT} {pc : Nat} {ls : List (Option Value)} {st : List Value} {h : AH} {a b : Int32} {off : Int} {t : Nat} (hd : decode x.2.1.2.1 pc = .ok (.if_icmp .ne off, 3)) (ht : (pc : Int) + off = (t : Int)) (hb2 : e_br (a = b) (Go x (pc + 3) ls st h) (Go x t ls st h)) : Go x pc ls (.int b :: .int a :: st) h :=
  fun p e R s m args below meth c' H locs ls' k' w X hR hS hl hn hz => lv_icmp_ne X.1 X.2.1 hd ht (fun q => hb2.2 q p e R s m args below meth c' H locs ls' k' w X hR hS hl hn hz) (fun q => hb2.1 q p e R s m args below meth c' H locs ls' k' w X hR hS hl hn hz)
theorem go_icmp_lt {x : XT} {pc : Nat} {ls : List (Option Value)} {st : List Value} {h : AH} {a b : Int32} {off : Int} {t : Nat} (hd : decode x.2.1.2.1 pc = .ok (.if_icmp .lt off, 3)) (ht : (pc : Int) + off = (t : Int)) (hb2 : e_br (a < b) (Go x t ls st h) (Go x (pc + 3) ls st h)) : Go x pc ls (.int b :: .int a :: st) h :=
  fun p e R s m args below meth c' H locs ls' k' w X hR hS hl hn hz => lv_icmp_lt X.1 X.2.1 hd ht (fun q => hb2.1 q p e R s m args below meth c' H locs ls' k' w X hR hS hl hn hz) (fun q => hb2.2 q p e R s m args below meth c' H locs ls' k' w X hR hS hl hn hz)
theorem go_icmp_ge {x : XT} {pc : Nat} {ls : List (Option Value)} {st : List Value} {h : AH} {a b : Int32} {off : Int} {t : Nat} (hd : decode x.2.1.2.1 pc = .ok (.if_icmp .ge off, 3)) (ht : (pc : Int) + off = (t : Int)) (hb2 : e_br (a < b) (Go x (pc + 3) ls st h) (Go x t ls st h)) : Go x pc ls (.int b :: .int a :: st) h :=
  fun p e R s m args below meth c' H locs ls' k' w X hR hS hl hn hz => lv_icmp_ge X.1 X.2.1 hd ht (fun q => hb2.2 (Int32.not_lt.mpr q) p e R s m args below meth c' H locs ls' k' w X hR hS hl hn hz) (fun q => hb2.1 (Int32.not_le.mp q) p e R s m args below meth c' H locs ls' k' w X hR hS hl hn hz)
theorem go_icmp_gt {x : XT} {pc : Nat} {ls : List (Option Value)} {st : List Value} {h : AH} {a b : Int32} {off : Int} {t : Nat} (hd : decode x.2.1.2.1 pc = .ok (.if_icmp .gt off, 3)) (ht : (pc : Int) + off = (t : Int)) (hb2 : e_br (b < a) (Go x t ls st h) (Go x (pc + 3) ls st h)) : Go x pc ls (.int b :: .int a :: st) h :=
  fun p e R s m args below meth c' H locs ls' k' w X hR hS hl hn hz => lv_icmp_gt X.1 X.2.1 hd ht (fun q => hb2.1 q p e R s m args below meth c' H locs ls' k' w X hR hS hl hn hz) (fun q => hb2.2 q p e R s m args below meth c' H locs ls' k' w X hR hS hl hn hz)
theorem go_icmp_le {x : XT} {pc : Nat} {ls : List (Option Value)} {st : List Value} {h : AH} {a b : Int32} {off : Int} {t : Nat} (hd : decode x.2.1.2.1 pc = .ok (.if_icmp .le off, 3)) (ht : (pc : Int) + off = (t : Int)) (hb2 : e_br (b < a) (Go x (pc + 3) ls st h) (Go x t ls st h)) : Go x pc ls (.int b :: .int a :: st) h :=
  fun p e R s m args below meth c' H locs ls' k' w X hR hS hl hn hz => lv_icmp_le X.1 X.2.1 hd ht (fun q => hb2.2 (Int32.not_lt.mpr q) p e R s m args below meth c' H locs ls' k' w X hR hS hl hn hz) (fun q => hb2.1 (Int32.not_le.mp q) p e R s m args below meth c' H locs ls' k' w X hR hS hl hn hz)
theorem go_ifnullN {x : XT} {pc : Nat} {ls : List (Option Value)} {st : List Value} {h : AH} {off : Int} {t : Nat} (hd : decode x.2.1.2.1 pc = .ok (.ifnull off, 3)) (ht : (pc : Int) + off = (t : Int)) (kk : Go x t ls st h) : Go x pc ls (.null :: st) h :=
  fun p e R s m args below meth c' H locs ls' k' w X hR hS hl hn hz => lv_ifnullN X.1 X.2.1 hd ht (kk p e R s m args below meth c' H locs ls' k' w X hR hS hl hn hz)
theorem go_ifnull {x : XT} {pc : Nat} {ls : List (Option Value)} {st : List Value} {h : AH} {off : Int} {q : Nat} (hd : decode x.2.1.2.1 pc = .ok (.ifnull off, 3)) (kk : Go x (pc + 3) ls st h) : Go x pc ls (.ref q :: st) h :=
  fun p e R s m args below meth c' H locs ls' k' w X hR hS hl hn hz => lv_ifnull X.1 X.2.1 hd (kk p e R s m args below meth c' H locs ls' k' w X hR hS hl hn hz)
theorem go_ifnonnullN {x : XT} {pc : Nat} {ls : List (Option Value)} {st : List Value} {h : AH} {off : Int} (hd : decode x.2.1.2.1 pc = .ok (.ifnonnull off, 3)) (kk : Go x (pc + 3) ls st h) : Go x pc ls (.null :: st) h :=
  fun p e R s m args below meth c' H locs ls' k' w X hR hS hl hn hz => lv_ifnonnullN X.1 X.2.1 hd (kk p e R s m args below meth c' H locs ls' k' w X hR hS hl hn hz)
theorem go_ifnonnull {x : XT} {pc : Nat} {ls : List (Option Value)} {st : List Value} {h : AH} {off : Int} {q t : Nat} (hd : decode x.2.1.2.1 pc = .ok (.ifnonnull off, 3)) (ht : (pc : Int) + off = (t : Int)) (kk : Go x t ls st h) : Go x pc ls (.ref q :: st) h :=
  fun p e R s m args below meth c' H locs ls' k' w X hR hS hl hn hz => lv_ifnonnull X.1 X.2.1 hd ht (kk p e R s m args below meth c' H locs ls' k' w X hR hS hl hn hz)
theorem e_sw_spec {v : Int32} {d : Nat} {f : Nat → Prop} : ∀ (cs : List (Int32 × Nat)), e_sw cs d v f → (∃ q ∈ cs, v = q.1 ∧ f q.2) ∨ ((∀ q ∈ cs, ¬ v = q.1) ∧ f d)
  | [], h => Or.inr ⟨fun q hq => (by cases hq), h⟩
  | q :: r, h => by
    by_cases hv : v = q.1
    · exact Or.inl ⟨q, List.mem_cons_self, hv, h.1 hv⟩
    · rcases e_sw_spec r (h.2 hv) with ⟨q', h1, h2⟩ | ⟨h1, h2⟩
      · exact Or.inl ⟨q', List.mem_cons_of_mem _ h1, h2⟩
      · refine Or.inr ⟨fun q' hq' => ?_, h2⟩
        rcases List.mem_cons.mp hq' with h3 | h3
        · rw [h3]; exact hv
        · exact h1 q' h3
theorem go_table {x : XT} {pc : Nat} {ls : List (Option Value)} {st : List Value} {h : AH} {v : Int32} {cs : List (Int32 × Nat)} {dt len : Nat} {dflt lo hi : Int} {offs : Array Int} (hd : decode x.2.1.2.1 pc = .ok (.tableswitch dflt lo hi offs, len)) (hdt : (pc : Int) + dflt = (dt : Int))
    (hcs : cs.all (fun q => decide (lo ≤ q.1.toInt) && decide (q.1.toInt ≤ hi) && (match offs[(q.1.toInt - lo).toNat]? with | some o => decide ((pc : Int) + o = (q.2 : Int)) | none => false)) = true)
    (hall : (List.range (hi - lo + 1).toNat).all (fun i => cs.any (fun q => decide (q.1.toInt = lo + (i : Int)))) = true)
    (kk : e_sw cs dt v (fun t => Go x t ls st h)) : Go x pc ls (.int v :: st) h := by
  intro p e R s m args below meth c' H locs ls' k' w X hR hS hl hn hz
  rcases e_sw_spec cs kk with ⟨q, hq, rfl, hg⟩ | ⟨hno, hg⟩
  · have h1 := List.all_eq_true.mp hcs q hq
    simp only [Bool.and_eq_true, decide_eq_true_eq] at h1
    obtain ⟨⟨h2, h3⟩, h4⟩ := h1
    cases ho : offs[(q.1.toInt - lo).toNat]? with
    | none => rw [ho] at h4; cases h4
    | some o =>
      rw [ho] at h4
      exact lv_tableIn X.1 X.2.1 hd (by omega) (by omega) ho (of_decide_eq_true h4) (hg p e R s m args below meth c' H locs ls' k' w X hR hS hl hn hz)
  · refine lv_tableOut X.1 X.2.1 hd ?_ hdt (hg p e R s m args below meth c' H locs ls' k' w X hR hS hl hn hz)
    by_cases h1 : v.toInt < lo
    · exact Or.inl h1
    · by_cases h2 : hi < v.toInt
      · exact Or.inr h2
      · exfalso
        have h3 := List.all_eq_true.mp hall (v.toInt - lo).toNat (List.mem_range.mpr (by omega))
        obtain ⟨q, hq, he⟩ := List.any_eq_true.mp h3
        have he' := of_decide_eq_true he
        refine hno q hq (Int32.toInt_inj.mp ?_)
        rw [he']
        omega
theorem go_lookup {x : XT} {pc : Nat} {ls : List (Option Value)} {st : List Value} {h : AH} {v : Int32} {cs : List (Int32 × Nat)} {dt len : Nat} {dflt : Int} {ps : Array (Int × Int)} (hd : decode x.2.1.2.1 pc = .ok (.lookupswitch dflt ps, len)) (hdt : (pc : Int) + dflt = (dt : Int))
    (hp : (ps.toList.zip (ps.toList.drop 1)).all (fun (a, next) => a.1 < next.1) = true)
    (hcs : cs.all (fun q => decide ((pc : Int) + Op.lookupswitch.offset ps.toList dflt q.1.toInt = (q.2 : Int))) = true)
    (hall : ps.toList.all (fun r => cs.any (fun q => decide (q.1.toInt = r.1))) = true)
    (kk : e_sw cs dt v (fun t => Go x t ls st h)) : Go x pc ls (.int v :: st) h := by
  intro p e R s m args below meth c' H locs ls' k' w X hR hS hl hn hz
  rcases e_sw_spec cs kk with ⟨q, hq, rfl, hg⟩ | ⟨hno, hg⟩
  · exact lv_lookup X.1 X.2.1 hd hp rfl (of_decide_eq_true (List.all_eq_true.mp hcs q hq)) (hg p e R s m args below meth c' H locs ls' k' w X hR hS hl hn hz)
  · refine lv_lookup X.1 X.2.1 hd hp (Op.lookupswitch.offset_none ?_) hdt (hg p e R s m args below meth c' H locs ls' k' w X hR hS hl hn hz)
    rw [List.find?_eq_none]
    intro r hr hk
    obtain ⟨q, hq, he⟩ := List.any_eq_true.mp (List.all_eq_true.mp hall r hr)
    have he' := of_decide_eq_true he
    have hk' : r.1 = v.toInt := by simpa using hk
    exact hno q hq (Int32.toInt_inj.mp (by rw [he', hk']))
