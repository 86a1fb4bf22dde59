/-! the rules by which simp walks a stretch -/
section Rules2
variable {x : XT} {g : GT} {y : MI × Nat × Nat × Nat × Nat × Nat × (Option Value → AH → Prop)} {is : List IT} {pe : Nat} {K : KT} {ls : List (Option Value)} {st : List Value} {h : AH} {l : Nat} {ps : List Nat}
theorem q_nil : wp x [] pe K ls st h = K pe ls st h := id rfl
theorem q_iconst {n : Int} {v : Int32} : wp x ((.iconst n, l, oI v, ps) :: is) pe K ls st h = wp x is pe K ls (.int v :: st) h := id rfl
theorem q_bipush {n : Int} {v : Int32} : wp x ((.bipush n, l, oI v, ps) :: is) pe K ls st h = wp x is pe K ls (.int v :: st) h := id rfl
theorem q_sipush {n : Int} {v : Int32} : wp x ((.sipush n, l, oI v, ps) :: is) pe K ls st h = wp x is pe K ls (.int v :: st) h := id rfl
theorem q_ldc {n : Nat} {v : Int32} : wp x ((.ldc n, l, oI v, ps) :: is) pe K ls st h = wp x is pe K ls (.int v :: st) h := id rfl
theorem q_lconst {n : Fin 2} {v : Int64} : wp x ((.lconst n, l, oL v, ps) :: is) pe K ls st h = wp x is pe K ls (.long v :: st) h := id rfl
theorem q_ldc2 {n : Nat} {v : Int64} : wp x ((.ldc2_w n, l, oL v, ps) :: is) pe K ls st h = wp x is pe K ls (.long v :: st) h := id rfl
theorem q_null : wp x ((.aconst_null, l, oN 0 0 0, ps) :: is) pe K ls st h = wp x is pe K ls (.null :: st) h := id rfl
theorem q_iload {n i : Nat} : wp x ((.iload n, l, oN i 0 0, ps) :: is) pe K ls st h = e_i (lgt ls i) (fun v => wp x is pe K ls (.int v :: st) h) := id rfl
theorem q_iload_n {n : Fin 4} {i : Nat} : wp x ((.iload_n n, l, oN i 0 0, ps) :: is) pe K ls st h = e_i (lgt ls i) (fun v => wp x is pe K ls (.int v :: st) h) := id rfl
theorem q_lload {n i : Nat} : wp x ((.lload n, l, oN i 0 0, ps) :: is) pe K ls st h = e_l (lgt ls i) (fun v => wp x is pe K ls (.long v :: st) h) := id rfl
theorem q_lload_n {n : Fin 4} {i : Nat} : wp x ((.lload_n n, l, oN i 0 0, ps) :: is) pe K ls st h = e_l (lgt ls i) (fun v => wp x is pe K ls (.long v :: st) h) := id rfl
theorem q_aload {n i : Nat} : wp x ((.aload n, l, oN i 0 0, ps) :: is) pe K ls st h = e_a (lgt ls i) (fun v => wp x is pe K ls (v :: st) h) := id rfl
theorem q_aload_n {n : Fin 4} {i : Nat} : wp x ((.aload_n n, l, oN i 0 0, ps) :: is) pe K ls st h = e_a (lgt ls i) (fun v => wp x is pe K ls (v :: st) h) := id rfl
theorem q_e_i_int {v : Int32} {f : Int32 → Prop} : e_i (some (.int v)) f = f v := id rfl
theorem q_e_l_long {v : Int64} {f : Int64 → Prop} : e_l (some (.long v)) f = f v := id rfl
theorem q_e_a_ref {v : Nat} {f : Value → Prop} : e_a (some (.ref v)) f = f (.ref v) := id rfl
theorem q_e_a_null {f : Value → Prop} : e_a (some .null) f = f .null := id rfl
theorem q_istore {n i : Nat} {v : Int32} : wp x ((.istore n, l, oN i 0 0, ps) :: is) pe K ls (.int v :: st) h = wp x is pe K (lst (.int v) i ls) st h := id rfl
theorem q_istore_n {n : Fin 4} {i : Nat} {v : Int32} : wp x ((.istore_n n, l, oN i 0 0, ps) :: is) pe K ls (.int v :: st) h = wp x is pe K (lst (.int v) i ls) st h := id rfl
theorem q_lstore {n i : Nat} {v : Int64} : wp x ((.lstore n, l, oN i 0 0, ps) :: is) pe K ls (.long v :: st) h = wp x is pe K (lst2 (.long v) i ls) st h := id rfl
theorem q_lstore_n {n : Fin 4} {i : Nat} {v : Int64} : wp x ((.lstore_n n, l, oN i 0 0, ps) :: is) pe K ls (.long v :: st) h = wp x is pe K (lst2 (.long v) i ls) st h := id rfl
theorem q_astore {n i a : Nat} : wp x ((.astore n, l, oN i 0 0, ps) :: is) pe K ls (.ref a :: st) h = wp x is pe K (lst (.ref a) i ls) st h := id rfl
theorem q_astore_n {n : Fin 4} {i a : Nat} : wp x ((.astore_n n, l, oN i 0 0, ps) :: is) pe K ls (.ref a :: st) h = wp x is pe K (lst (.ref a) i ls) st h := id rfl
theorem q_iinc {n i : Nat} {m : Int} {u : Int32} : wp x ((.iinc n m, l, oJ i u, ps) :: is) pe K ls st h = e_i (lgt ls i) (fun v => wp x is pe K (lst (.int (v + u)) i ls) st h) := id rfl
theorem q_iadd {o : LK} {a b : Int32} : wp x ((.iadd, l, o, ps) :: is) pe K ls (.int b :: .int a :: st) h = wp x is pe K ls (.int (a + b) :: st) h := id rfl
theorem q_isub {o : LK} {a b : Int32} : wp x ((.isub, l, o, ps) :: is) pe K ls (.int b :: .int a :: st) h = wp x is pe K ls (.int (a - b) :: st) h := id rfl
theorem q_imul {o : LK} {a b : Int32} : wp x ((.imul, l, o, ps) :: is) pe K ls (.int b :: .int a :: st) h = wp x is pe K ls (.int (a * b) :: st) h := id rfl
theorem q_iand {o : LK} {a b : Int32} : wp x ((.iand, l, o, ps) :: is) pe K ls (.int b :: .int a :: st) h = wp x is pe K ls (.int (a &&& b) :: st) h := id rfl
theorem q_idiv {o : LK} {a b : Int32} : wp x ((.idiv, l, o, ps) :: is) pe K ls (.int b :: .int a :: st) h = (¬ b = 0 ∧ wp x is pe K ls (.int (a / b) :: st) h) := id rfl
theorem q_irem {o : LK} {a b : Int32} : wp x ((.irem, l, o, ps) :: is) pe K ls (.int b :: .int a :: st) h = (¬ b = 0 ∧ wp x is pe K ls (.int (a - a / b * b) :: st) h) := id rfl
theorem q_ineg {o : LK} {a : Int32} : wp x ((.ineg, l, o, ps) :: is) pe K ls (.int a :: st) h = wp x is pe K ls (.int (-a) :: st) h := id rfl
theorem q_ladd {o : LK} {a b : Int64} : wp x ((.ladd, l, o, ps) :: is) pe K ls (.long b :: .long a :: st) h = wp x is pe K ls (.long (a + b) :: st) h := id rfl
theorem q_lsub {o : LK} {a b : Int64} : wp x ((.lsub, l, o, ps) :: is) pe K ls (.long b :: .long a :: st) h = wp x is pe K ls (.long (a - b) :: st) h := id rfl
theorem q_lmul {o : LK} {a b : Int64} : wp x ((.lmul, l, o, ps) :: is) pe K ls (.long b :: .long a :: st) h = wp x is pe K ls (.long (a * b) :: st) h := id rfl
theorem q_land {o : LK} {a b : Int64} : wp x ((.land, l, o, ps) :: is) pe K ls (.long b :: .long a :: st) h = wp x is pe K ls (.long (a &&& b) :: st) h := id rfl
theorem q_ldiv {o : LK} {a b : Int64} : wp x ((.ldiv, l, o, ps) :: is) pe K ls (.long b :: .long a :: st) h = (¬ b = 0 ∧ wp x is pe K ls (.long (a / b) :: st) h) := id rfl
theorem q_lrem {o : LK} {a b : Int64} : wp x ((.lrem, l, o, ps) :: is) pe K ls (.long b :: .long a :: st) h = (¬ b = 0 ∧ wp x is pe K ls (.long (a - a / b * b) :: st) h) := id rfl
theorem q_i2l {o : LK} {a : Int32} : wp x ((.i2l, l, o, ps) :: is) pe K ls (.int a :: st) h = wp x is pe K ls (.long a.toInt64 :: st) h := id rfl
theorem q_l2i {o : LK} {a : Int64} : wp x ((.l2i, l, o, ps) :: is) pe K ls (.long a :: st) h = wp x is pe K ls (.int a.toInt32 :: st) h := id rfl
theorem q_dup {o : LK} {v : Value} : wp x ((.dup, l, o, ps) :: is) pe K ls (v :: st) h = (v.category = 1 ∧ wp x is pe K ls (v :: v :: st) h) := id rfl
theorem q_pop {o : LK} {v : Value} : wp x ((.pop, l, o, ps) :: is) pe K ls (v :: st) h = (v.category = 1 ∧ wp x is pe K ls st h) := id rfl
theorem q_dup2 {o : LK} {a b : Value} : wp x ((.dup2, l, o, ps) :: is) pe K ls (a :: b :: st) h = (a.category = 1 ∧ b.category = 1 ∧ wp x is pe K ls (a :: b :: a :: b :: st) h) := id rfl
theorem q_dup_x1 {o : LK} {a b : Value} : wp x ((.dup_x1, l, o, ps) :: is) pe K ls (a :: b :: st) h = (a.category = 1 ∧ b.category = 1 ∧ wp x is pe K ls (a :: b :: a :: st) h) := id rfl
theorem q_cat_int {v : Int32} : (Value.int v).category = 1 := id rfl
theorem q_cat_ref {v : Nat} : (Value.ref v).category = 1 := id rfl
theorem q_cat_null : Value.null.category = 1 := id rfl
theorem q_cat_long {v : Int64} : (Value.long v).category = 2 := id rfl
theorem q_goto {off : Int} {t : Nat} : wp x ((.goto off, l, oN t 0 0, ps) :: is) pe K ls st h = K t ls st h := id rfl
theorem q_if_eq {off : Int} {t : Nat} {v : Int32} : wp x ((.ifCond .eq off, l, oN t 0 0, ps) :: is) pe K ls (.int v :: st) h = e_br (v = 0) (K t ls st h) (wp x is pe K ls st h) := id rfl
theorem q_if_ne {off : Int} {t : Nat} {v : Int32} : wp x ((.ifCond .ne off, l, oN t 0 0, ps) :: is) pe K ls (.int v :: st) h = e_br (v = 0) (wp x is pe K ls st h) (K t ls st h) := id rfl
theorem q_if_lt {off : Int} {t : Nat} {v : Int32} : wp x ((.ifCond .lt off, l, oN t 0 0, ps) :: is) pe K ls (.int v :: st) h = e_br (v < 0) (K t ls st h) (wp x is pe K ls st h) := id rfl
theorem q_if_ge {off : Int} {t : Nat} {v : Int32} : wp x ((.ifCond .ge off, l, oN t 0 0, ps) :: is) pe K ls (.int v :: st) h = e_br (v < 0) (wp x is pe K ls st h) (K t ls st h) := id rfl
theorem q_if_gt {off : Int} {t : Nat} {v : Int32} : wp x ((.ifCond .gt off, l, oN t 0 0, ps) :: is) pe K ls (.int v :: st) h = e_br (0 < v) (K t ls st h) (wp x is pe K ls st h) := id rfl
theorem q_if_le {off : Int} {t : Nat} {v : Int32} : wp x ((.ifCond .le off, l, oN t 0 0, ps) :: is) pe K ls (.int v :: st) h = e_br (0 < v) (wp x is pe K ls st h) (K t ls st h) := id rfl
theorem q_icmp_eq {off : Int} {t : Nat} {a b : Int32} : wp x ((.if_icmp .eq off, l, oN t 0 0, ps) :: is) pe K ls (.int b :: .int a :: st) h = e_br (a = b) (K t ls st h) (wp x is pe K ls st h) := id rfl
theorem q_icmp_ne {off : Int} {t : Nat} {a b : Int32} : wp x ((.if_icmp .ne off, l, oN t 0 0, ps) :: is) pe K ls (.int b :: .int a :: st) h = e_br (a = b) (wp x is pe K ls st h) (K t ls st h) := id rfl
theorem q_icmp_lt {off : Int} {t : Nat} {a b : Int32} : wp x ((.if_icmp .lt off, l, oN t 0 0, ps) :: is) pe K ls (.int b :: .int a :: st) h = e_br (a < b) (K t ls st h) (wp x is pe K ls st h) := id rfl
theorem q_icmp_ge {off : Int} {t : Nat} {a b : Int32} : wp x ((.if_icmp .ge off, l, oN t 0 0, ps) :: is) pe K ls (.int b :: .int a :: st) h = e_br (a < b) (wp x is pe K ls st h) (K t ls st h) := id rfl
theorem q_icmp_gt {off : Int} {t : Nat} {a b : Int32} : wp x ((.if_icmp .gt off, l, oN t 0 0, ps) :: is) pe K ls (.int b :: .int a :: st) h = e_br (b < a) (K t ls st h) (wp x is pe K ls st h) := id rfl
theorem q_icmp_le {off : Int} {t : Nat} {a b : Int32} : wp x ((.if_icmp .le off, l, oN t 0 0, ps) :: is) pe K ls (.int b :: .int a :: st) h = e_br (b < a) (wp x is pe K ls st h) (K t ls st h) := id rfl
theorem q_ifnullN {off : Int} {t : Nat} : wp x ((.ifnull off, l, oN t 0 0, ps) :: is) pe K ls (.null :: st) h = K t ls st h := id rfl
theorem q_ifnull {off : Int} {t a : Nat} : wp x ((.ifnull off, l, oN t 0 0, ps) :: is) pe K ls (.ref a :: st) h = wp x is pe K ls st h := id rfl
theorem q_ifnonnullN {off : Int} {t : Nat} : wp x ((.ifnonnull off, l, oN t 0 0, ps) :: is) pe K ls (.null :: st) h = wp x is pe K ls st h := id rfl
theorem q_ifnonnull {off : Int} {t a : Nat} : wp x ((.ifnonnull off, l, oN t 0 0, ps) :: is) pe K ls (.ref a :: st) h = K t ls st h := id rfl
theorem q_table {d lo hi : Int} {offs : Array Int} {t : Nat} {cs : List (Int32 × Nat)} {v : Int32} : wp x ((.tableswitch d lo hi offs, l, oS t cs, ps) :: is) pe K ls (.int v :: st) h = e_sw cs t v (fun t => K t ls st h) := id rfl
theorem q_lookup {d : Int} {qs : Array (Int × Int)} {t : Nat} {cs : List (Int32 × Nat)} {v : Int32} : wp x ((.lookupswitch d qs, l, oS t cs, ps) :: is) pe K ls (.int v :: st) h = e_sw cs t v (fun t => K t ls st h) := id rfl
theorem q_e_sw_nil {v : Int32} {d : Nat} {f : Nat → Prop} : e_sw [] d v f = f d := id rfl
theorem q_e_sw_cons {v k : Int32} {d t : Nat} {r : List (Int32 × Nat)} {f : Nat → Prop} : e_sw ((k, t) :: r) d v f = ((v = k → f t) ∧ (¬ v = k → e_sw r d v f)) := id rfl
variable {n z : Nat} {S : Nat → Nat × Nat} {I : Nat → Nat → Int32} {J : Nat → Nat → Int64} {R : Nat → Nat → Option Nat} {k c j co : Nat}
theorem q_getf {i : Nat} : wp (g, y) ((.getfield i, l, oN c j co, ps) :: is) pe K ls (.ref (gB g + k) :: st) (n, z, S, I, J, R) = (S k = (0, c + 1) ∧ wp (g, y) is pe K ls (cval co (gB g) I J R k j :: st) (n, z, S, I, J, R)) :=
  ex_add (p := fun k => S k = (0, c + 1) ∧ wp (g, y) is pe K ls (cval co (gB g) I J R k j :: st) (n, z, S, I, J, R))
theorem q_putI {i : Nat} {v : Int32} : wp (g, y) ((.putfield i, l, oN c j 0, ps) :: is) pe K ls (.int v :: .ref (gB g + k) :: st) (n, z, S, I, J, R) = (S k = (0, c + 1) ∧ wp (g, y) is pe K ls st (n, z, S, va_up I k (va_up (I k) j v), J, R)) :=
  propext ⟨fun ⟨_, q, e, h⟩ => by
    have e3 : k = q := Nat.add_left_cancel (show gB g + k = gB g + q from e)
    subst e3
    exact h, fun h => ⟨rfl, k, rfl, h⟩⟩
theorem q_putJ {i : Nat} {v : Int64} : wp (g, y) ((.putfield i, l, oN c j 1, ps) :: is) pe K ls (.long v :: .ref (gB g + k) :: st) (n, z, S, I, J, R) = (S k = (0, c + 1) ∧ wp (g, y) is pe K ls st (n, z, S, I, va_up J k (va_up (J k) j v), R)) :=
  propext ⟨fun ⟨_, q, e, h⟩ => by
    have e3 : k = q := Nat.add_left_cancel (show gB g + k = gB g + q from e)
    subst e3
    exact h, fun h => ⟨rfl, k, rfl, h⟩⟩
theorem q_putR {i q : Nat} : wp (g, y) ((.putfield i, l, oN c j 2, ps) :: is) pe K ls (.ref (gB g + q) :: .ref (gB g + k) :: st) (n, z, S, I, J, R) = (S k = (0, c + 1) ∧ wp (g, y) is pe K ls st (n, z, S, I, J, va_up R k (va_up (R k) j (some q)))) :=
  propext ⟨fun ⟨_, k', q', e1, e2, h1, h2⟩ => by
    have e3 : k = k' := Nat.add_left_cancel (show gB g + k = gB g + k' from e1)
    have e4 : q = q' := Nat.add_left_cancel (show gB g + q = gB g + q' from e2)
    subst e3; subst e4
    exact ⟨h1, h2⟩, fun ⟨h1, h2⟩ => ⟨rfl, k, q, rfl, rfl, h1, h2⟩⟩
theorem q_iald {j : Int32} : wp (g, y) ((.iaload, l, oN 0 0 0, ps) :: is) pe K ls (.int j :: .ref (gB g + k) :: st) (n, z, S, I, J, R) = ((S k).1 = 1 ∧ vp_in j (S k).2 ∧ wp (g, y) is pe K ls (.int (I k j.toNatClampNeg) :: st) (n, z, S, I, J, R)) :=
  ex_add (p := fun k => (S k).1 = 1 ∧ vp_in j (S k).2 ∧ wp (g, y) is pe K ls (.int (I k j.toNatClampNeg) :: st) (n, z, S, I, J, R))
theorem q_sld {j : Int32} : wp (g, y) ((.iaload, l, oN 1 0 0, ps) :: is) pe K ls (.int j :: .ref (gS g) :: st) h = (vp_in j (gN g) ∧ wp (g, y) is pe K ls (.int (gX g j.toNatClampNeg) :: st) h) :=
  propext ⟨fun q => q.2, fun q => ⟨rfl, q⟩⟩
theorem q_slen : wp (g, y) ((.arraylength, l, oN 1 0 0, ps) :: is) pe K ls (.ref (gS g) :: st) h = wp (g, y) is pe K ls (.int (nI (gN g)) :: st) h :=
  propext ⟨fun q => q.2, fun q => ⟨rfl, q⟩⟩
theorem q_alen : wp (g, y) ((.arraylength, l, oN 0 0 0, ps) :: is) pe K ls (.ref (gB g + k) :: st) (n, z, S, I, J, R) = (¬ (S k).1 = 0 ∧ wp (g, y) is pe K ls (.int (nI (S k).2) :: st) (n, z, S, I, J, R)) :=
  ex_add (p := fun k => ¬ (S k).1 = 0 ∧ wp (g, y) is pe K ls (.int (nI (S k).2) :: st) (n, z, S, I, J, R))
theorem q_iast {o : LK} {j v : Int32} : wp (g, y) ((.iastore, l, o, ps) :: is) pe K ls (.int v :: .int j :: .ref (gB g + k) :: st) (n, z, S, I, J, R) = ((S k).1 = 1 ∧ vp_in j (S k).2 ∧ wp (g, y) is pe K ls st (n, z, S, va_up I k (va_up (I k) j.toNatClampNeg v), J, R)) :=
  ex_add (p := fun k => (S k).1 = 1 ∧ vp_in j (S k).2 ∧ wp (g, y) is pe K ls st (n, z, S, va_up I k (va_up (I k) j.toNatClampNeg v), J, R))
theorem q_bald {o : LK} {j : Int32} : wp (g, y) ((.baload, l, o, ps) :: is) pe K ls (.int j :: .ref (gB g + k) :: st) (n, z, S, I, J, R) = ((S k).1 = 3 ∧ vp_in j (S k).2 ∧ wp (g, y) is pe K ls (.int (I k j.toNatClampNeg) :: st) (n, z, S, I, J, R)) :=
  ex_add (p := fun k => (S k).1 = 3 ∧ vp_in j (S k).2 ∧ wp (g, y) is pe K ls (.int (I k j.toNatClampNeg) :: st) (n, z, S, I, J, R))
theorem q_bast {o : LK} {j v : Int32} : wp (g, y) ((.bastore, l, o, ps) :: is) pe K ls (.int v :: .int j :: .ref (gB g + k) :: st) (n, z, S, I, J, R) = ((S k).1 = 3 ∧ vp_in j (S k).2 ∧ narrow .boolean (.int v) = .int v ∧ wp (g, y) is pe K ls st (n, z, S, va_up I k (va_up (I k) j.toNatClampNeg v), J, R)) :=
  ex_add (p := fun k => (S k).1 = 3 ∧ vp_in j (S k).2 ∧ narrow .boolean (.int v) = .int v ∧ wp (g, y) is pe K ls st (n, z, S, va_up I k (va_up (I k) j.toNatClampNeg v), J, R))
theorem q_aald {t : Nat} {j : Int32} : wp (g, y) ((.aaload, l, oN t 0 0, ps) :: is) pe K ls (.int j :: .ref (gB g + k) :: st) (n, z, S, I, J, R) = ((S k).1 = t + 1 ∧ vp_in j (S k).2 ∧ wp (g, y) is pe K ls (rv (gB g) (R k j.toNatClampNeg) :: st) (n, z, S, I, J, R)) :=
  ex_add (p := fun k => (S k).1 = t + 1 ∧ vp_in j (S k).2 ∧ wp (g, y) is pe K ls (rv (gB g) (R k j.toNatClampNeg) :: st) (n, z, S, I, J, R))
theorem q_aast {t q : Nat} {j : Int32} : wp (g, y) ((.aastore, l, oN t c 0, ps) :: is) pe K ls (.ref (gB g + q) :: .int j :: .ref (gB g + k) :: st) (n, z, S, I, J, R) = ((S k).1 = t + 1 ∧ S q = (0, c + 1) ∧ vp_in j (S k).2 ∧ wp (g, y) is pe K ls st (n, z, S, I, J, va_up R k (va_up (R k) j.toNatClampNeg (some q)))) :=
  propext ⟨fun ⟨k', q', e1, e2, h1⟩ => by
    have e3 : k = k' := Nat.add_left_cancel (show gB g + k = gB g + k' from e1)
    have e4 : q = q' := Nat.add_left_cancel (show gB g + q = gB g + q' from e2)
    subst e3; subst e4
    exact h1, fun h1 => ⟨k, q, rfl, rfl, h1⟩⟩
variable {mi : MI} {d n0 z0 mc ms : Nat} {Q : Option Value → AH → Prop}
theorem q_newa {t : ArrayType} {v : Int32} : wp (g, mi, d, n0, z0, mc, ms, Q) ((.newarray t, l, oN c 0 0, ps) :: is) pe K ls (.int v :: st) (n, z, S, I, J, R) = (¬ v < 0 ∧ v.toNatClampNeg ≤ 100000 ∧ n + 1 ≤ n0 + mc ∧ z + v.toNatClampNeg ≤ z0 + ms ∧ wp (g, mi, d, n0, z0, mc, ms, Q) is pe K ls (.ref (gB g + n) :: st) (n + 1, z + v.toNatClampNeg, va_up S n (c + 1, v.toNatClampNeg), va_up I n (fun _ => 0), J, R)) := id rfl
theorem q_newq {i t : Nat} {v : Int32} : wp (g, mi, d, n0, z0, mc, ms, Q) ((.anewarray i, l, oN t 0 0, ps) :: is) pe K ls (.int v :: st) (n, z, S, I, J, R) = (¬ v < 0 ∧ v.toNatClampNeg ≤ 100000 ∧ n + 1 ≤ n0 + mc ∧ z + v.toNatClampNeg ≤ z0 + ms ∧ wp (g, mi, d, n0, z0, mc, ms, Q) is pe K ls (.ref (gB g + n) :: st) (n + 1, z + v.toNatClampNeg, va_up S n (t + 1, v.toNatClampNeg), I, J, va_up R n (fun _ => none))) := id rfl
theorem q_new {i N : Nat} : wp (g, mi, d, n0, z0, mc, ms, Q) ((.new i, l, oN c N 0, ps) :: is) pe K ls st (n, z, S, I, J, R) = (n + 1 ≤ n0 + mc ∧ z + N ≤ z0 + ms ∧ wp (g, mi, d, n0, z0, mc, ms, Q) is pe K ls (.ref (gB g + n) :: st) (n + 1, z + N, va_up S n (0, c + 1), va_up I n (fun _ => 0), va_up J n (fun _ => 0), va_up R n (fun _ => none))) := id rfl
theorem q_objInit {i a : Nat} : wp (g, mi, d, n0, z0, mc, ms, Q) ((.invokespecial i, l, oN 0 0 1, ps) :: is) pe K ls (.ref a :: st) h = (1 ≤ d ∧ rs st ≤ 8 ∧ wp (g, mi, d, n0, z0, mc, ms, Q) is pe K ls st h) := id rfl
theorem q_max {i : Nat} {a b : Int32} : wp (g, mi, d, n0, z0, mc, ms, Q) ((.invokestatic i, l, oN 0 0 1, ps) :: is) pe K ls (.int b :: .int a :: st) h = (1 ≤ d ∧ rs st ≤ 8 ∧ wp (g, mi, d, n0, z0, mc, ms, Q) is pe K ls (.int (if a < b then b else a) :: st) h) := id rfl
theorem q_min {i : Nat} {a b : Int32} : wp (g, mi, d, n0, z0, mc, ms, Q) ((.invokestatic i, l, oN 0 0 2, ps) :: is) pe K ls (.int b :: .int a :: st) h = (1 ≤ d ∧ rs st ≤ 8 ∧ wp (g, mi, d, n0, z0, mc, ms, Q) is pe K ls (.int (if b < a then b else a) :: st) h) := id rfl
theorem q_copy {i k0 : Nat} {cnt sp dp : Int32} : wp (g, mi, d, n0, z0, mc, ms, Q) ((.invokestatic i, l, oN 0 0 3, ps) :: is) pe K ls (.int cnt :: .int dp :: .ref (gB g + k) :: .int sp :: .ref (gB g + k0) :: st) (n, z, S, I, J, R) = ((S k).1 = 1 ∧ (S k0).1 = 1 ∧ ¬ sp < 0 ∧ ¬ dp < 0 ∧ ¬ cnt < 0 ∧ sp.toNatClampNeg + cnt.toNatClampNeg ≤ (S k0).2 ∧ dp.toNatClampNeg + cnt.toNatClampNeg ≤ (S k).2 ∧ 1 ≤ d ∧ rs st ≤ 8 ∧
    wp (g, mi, d, n0, z0, mc, ms, Q) is pe K ls st (n, z, S, va_up I k (va_cpy (I k0) (I k) sp.toNatClampNeg dp.toNatClampNeg cnt.toNatClampNeg), J, R)) :=
  propext ⟨fun ⟨k', q', e1, e2, h1⟩ => by
    have e3 : k = k' := Nat.add_left_cancel (show gB g + k = gB g + k' from e1)
    have e4 : k0 = q' := Nat.add_left_cancel (show gB g + k0 = gB g + q' from e2)
    subst e3; subst e4
    exact h1, fun h1 => ⟨k, k0, rfl, rfl, h1⟩⟩
theorem q_callS0 {i : Nat} {m : MI} : wp (g, mi, d, n0, z0, mc, ms, Q) ((.invokestatic i, l, oM m 0 0, ps) :: is) pe K ls (st) h = call g d n0 z0 mc ms m [] st h (fun st' h' => wp (g, mi, d, n0, z0, mc, ms, Q) is pe K ls st' h') := id <| call_of (nA := 0) (st := st) (F := fun ls' st' h' => wp (g, mi, d, n0, z0, mc, ms, Q) is pe K ls' st' h') rfl rfl (by simp)
theorem q_callV0 {i : Nat} {m : MI} : wp (g, mi, d, n0, z0, mc, ms, Q) ((.invokevirtual i, l, oM m 1 c, ps) :: is) pe K ls (.ref (gB g + k) :: st) (n, z, S, I, J, R) = (S k = (0, c + 1) ∧ call g d n0 z0 mc ms m [.ref (gB g + k)] st (n, z, S, I, J, R) (fun st' h' => wp (g, mi, d, n0, z0, mc, ms, Q) is pe K ls st' h')) :=
  congr (congrArg And (ex_add (B := gB g) (k := k) (p := fun k => S k = (0, c + 1)))) (call_of (nA := 1) (st := .ref (gB g + k) :: st) (F := fun ls' st' h' => wp (g, mi, d, n0, z0, mc, ms, Q) is pe K ls' st' h') rfl rfl (by simp))
theorem q_callI0 {i a : Nat} {m : MI} : wp (g, mi, d, n0, z0, mc, ms, Q) ((.invokespecial i, l, oM m 1 0, ps) :: is) pe K ls (.ref a :: st) h = call g d n0 z0 mc ms m [.ref a] st h (fun st' h' => wp (g, mi, d, n0, z0, mc, ms, Q) is pe K ls st' h') := id <| call_of (nA := 1) (st := .ref a :: st) (F := fun ls' st' h' => wp (g, mi, d, n0, z0, mc, ms, Q) is pe K ls' st' h') rfl rfl (by simp)
theorem q_callS1 {i : Nat} {m : MI} {v0 : Value} : wp (g, mi, d, n0, z0, mc, ms, Q) ((.invokestatic i, l, oM m 1 0, ps) :: is) pe K ls (v0 :: st) h = call g d n0 z0 mc ms m [v0] st h (fun st' h' => wp (g, mi, d, n0, z0, mc, ms, Q) is pe K ls st' h') := id <| call_of (nA := 1) (st := v0 :: st) (F := fun ls' st' h' => wp (g, mi, d, n0, z0, mc, ms, Q) is pe K ls' st' h') rfl rfl (by simp)
theorem q_callV1 {i : Nat} {m : MI} {v0 : Value} : wp (g, mi, d, n0, z0, mc, ms, Q) ((.invokevirtual i, l, oM m 2 c, ps) :: is) pe K ls (v0 :: .ref (gB g + k) :: st) (n, z, S, I, J, R) = (S k = (0, c + 1) ∧ call g d n0 z0 mc ms m [.ref (gB g + k), v0] st (n, z, S, I, J, R) (fun st' h' => wp (g, mi, d, n0, z0, mc, ms, Q) is pe K ls st' h')) :=
  congr (congrArg And (ex_add (B := gB g) (k := k) (p := fun k => S k = (0, c + 1)))) (call_of (nA := 2) (st := v0 :: .ref (gB g + k) :: st) (F := fun ls' st' h' => wp (g, mi, d, n0, z0, mc, ms, Q) is pe K ls' st' h') rfl rfl (by simp))
theorem q_callI1 {i a : Nat} {m : MI} {v0 : Value} : wp (g, mi, d, n0, z0, mc, ms, Q) ((.invokespecial i, l, oM m 2 0, ps) :: is) pe K ls (v0 :: .ref a :: st) h = call g d n0 z0 mc ms m [.ref a, v0] st h (fun st' h' => wp (g, mi, d, n0, z0, mc, ms, Q) is pe K ls st' h') := id <| call_of (nA := 2) (st := v0 :: .ref a :: st) (F := fun ls' st' h' => wp (g, mi, d, n0, z0, mc, ms, Q) is pe K ls' st' h') rfl rfl (by simp)
theorem q_callS2 {i : Nat} {m : MI} {v0 v1 : Value} : wp (g, mi, d, n0, z0, mc, ms, Q) ((.invokestatic i, l, oM m 2 0, ps) :: is) pe K ls (v1 :: v0 :: st) h = call g d n0 z0 mc ms m [v0, v1] st h (fun st' h' => wp (g, mi, d, n0, z0, mc, ms, Q) is pe K ls st' h') := id <| call_of (nA := 2) (st := v1 :: v0 :: st) (F := fun ls' st' h' => wp (g, mi, d, n0, z0, mc, ms, Q) is pe K ls' st' h') rfl rfl (by simp)
theorem q_callV2 {i : Nat} {m : MI} {v0 v1 : Value} : wp (g, mi, d, n0, z0, mc, ms, Q) ((.invokevirtual i, l, oM m 3 c, ps) :: is) pe K ls (v1 :: v0 :: .ref (gB g + k) :: st) (n, z, S, I, J, R) = (S k = (0, c + 1) ∧ call g d n0 z0 mc ms m [.ref (gB g + k), v0, v1] st (n, z, S, I, J, R) (fun st' h' => wp (g, mi, d, n0, z0, mc, ms, Q) is pe K ls st' h')) :=
  congr (congrArg And (ex_add (B := gB g) (k := k) (p := fun k => S k = (0, c + 1)))) (call_of (nA := 3) (st := v1 :: v0 :: .ref (gB g + k) :: st) (F := fun ls' st' h' => wp (g, mi, d, n0, z0, mc, ms, Q) is pe K ls' st' h') rfl rfl (by simp))
theorem q_callI2 {i a : Nat} {m : MI} {v0 v1 : Value} : wp (g, mi, d, n0, z0, mc, ms, Q) ((.invokespecial i, l, oM m 3 0, ps) :: is) pe K ls (v1 :: v0 :: .ref a :: st) h = call g d n0 z0 mc ms m [.ref a, v0, v1] st h (fun st' h' => wp (g, mi, d, n0, z0, mc, ms, Q) is pe K ls st' h') := id <| call_of (nA := 3) (st := v1 :: v0 :: .ref a :: st) (F := fun ls' st' h' => wp (g, mi, d, n0, z0, mc, ms, Q) is pe K ls' st' h') rfl rfl (by simp)
theorem q_callS3 {i : Nat} {m : MI} {v0 v1 v2 : Value} : wp (g, mi, d, n0, z0, mc, ms, Q) ((.invokestatic i, l, oM m 3 0, ps) :: is) pe K ls (v2 :: v1 :: v0 :: st) h = call g d n0 z0 mc ms m [v0, v1, v2] st h (fun st' h' => wp (g, mi, d, n0, z0, mc, ms, Q) is pe K ls st' h') := id <| call_of (nA := 3) (st := v2 :: v1 :: v0 :: st) (F := fun ls' st' h' => wp (g, mi, d, n0, z0, mc, ms, Q) is pe K ls' st' h') rfl rfl (by simp)
theorem q_callV3 {i : Nat} {m : MI} {v0 v1 v2 : Value} : wp (g, mi, d, n0, z0, mc, ms, Q) ((.invokevirtual i, l, oM m 4 c, ps) :: is) pe K ls (v2 :: v1 :: v0 :: .ref (gB g + k) :: st) (n, z, S, I, J, R) = (S k = (0, c + 1) ∧ call g d n0 z0 mc ms m [.ref (gB g + k), v0, v1, v2] st (n, z, S, I, J, R) (fun st' h' => wp (g, mi, d, n0, z0, mc, ms, Q) is pe K ls st' h')) :=
  congr (congrArg And (ex_add (B := gB g) (k := k) (p := fun k => S k = (0, c + 1)))) (call_of (nA := 4) (st := v2 :: v1 :: v0 :: .ref (gB g + k) :: st) (F := fun ls' st' h' => wp (g, mi, d, n0, z0, mc, ms, Q) is pe K ls' st' h') rfl rfl (by simp))
theorem q_callI3 {i a : Nat} {m : MI} {v0 v1 v2 : Value} : wp (g, mi, d, n0, z0, mc, ms, Q) ((.invokespecial i, l, oM m 4 0, ps) :: is) pe K ls (v2 :: v1 :: v0 :: .ref a :: st) h = call g d n0 z0 mc ms m [.ref a, v0, v1, v2] st h (fun st' h' => wp (g, mi, d, n0, z0, mc, ms, Q) is pe K ls st' h') := id <| call_of (nA := 4) (st := v2 :: v1 :: v0 :: .ref a :: st) (F := fun ls' st' h' => wp (g, mi, d, n0, z0, mc, ms, Q) is pe K ls' st' h') rfl rfl (by simp)
theorem q_callS4 {i : Nat} {m : MI} {v0 v1 v2 v3 : Value} : wp (g, mi, d, n0, z0, mc, ms, Q) ((.invokestatic i, l, oM m 4 0, ps) :: is) pe K ls (v3 :: v2 :: v1 :: v0 :: st) h = call g d n0 z0 mc ms m [v0, v1, v2, v3] st h (fun st' h' => wp (g, mi, d, n0, z0, mc, ms, Q) is pe K ls st' h') := id <| call_of (nA := 4) (st := v3 :: v2 :: v1 :: v0 :: st) (F := fun ls' st' h' => wp (g, mi, d, n0, z0, mc, ms, Q) is pe K ls' st' h') rfl rfl (by simp)
theorem q_callV4 {i : Nat} {m : MI} {v0 v1 v2 v3 : Value} : wp (g, mi, d, n0, z0, mc, ms, Q) ((.invokevirtual i, l, oM m 5 c, ps) :: is) pe K ls (v3 :: v2 :: v1 :: v0 :: .ref (gB g + k) :: st) (n, z, S, I, J, R) = (S k = (0, c + 1) ∧ call g d n0 z0 mc ms m [.ref (gB g + k), v0, v1, v2, v3] st (n, z, S, I, J, R) (fun st' h' => wp (g, mi, d, n0, z0, mc, ms, Q) is pe K ls st' h')) :=
  congr (congrArg And (ex_add (B := gB g) (k := k) (p := fun k => S k = (0, c + 1)))) (call_of (nA := 5) (st := v3 :: v2 :: v1 :: v0 :: .ref (gB g + k) :: st) (F := fun ls' st' h' => wp (g, mi, d, n0, z0, mc, ms, Q) is pe K ls' st' h') rfl rfl (by simp))
theorem q_callI4 {i a : Nat} {m : MI} {v0 v1 v2 v3 : Value} : wp (g, mi, d, n0, z0, mc, ms, Q) ((.invokespecial i, l, oM m 5 0, ps) :: is) pe K ls (v3 :: v2 :: v1 :: v0 :: .ref a :: st) h = call g d n0 z0 mc ms m [.ref a, v0, v1, v2, v3] st h (fun st' h' => wp (g, mi, d, n0, z0, mc, ms, Q) is pe K ls st' h') := id <| call_of (nA := 5) (st := v3 :: v2 :: v1 :: v0 :: .ref a :: st) (F := fun ls' st' h' => wp (g, mi, d, n0, z0, mc, ms, Q) is pe K ls' st' h') rfl rfl (by simp)
theorem q_callS5 {i : Nat} {m : MI} {v0 v1 v2 v3 v4 : Value} : wp (g, mi, d, n0, z0, mc, ms, Q) ((.invokestatic i, l, oM m 5 0, ps) :: is) pe K ls (v4 :: v3 :: v2 :: v1 :: v0 :: st) h = call g d n0 z0 mc ms m [v0, v1, v2, v3, v4] st h (fun st' h' => wp (g, mi, d, n0, z0, mc, ms, Q) is pe K ls st' h') := id <| call_of (nA := 5) (st := v4 :: v3 :: v2 :: v1 :: v0 :: st) (F := fun ls' st' h' => wp (g, mi, d, n0, z0, mc, ms, Q) is pe K ls' st' h') rfl rfl (by simp)
theorem q_callV5 {i : Nat} {m : MI} {v0 v1 v2 v3 v4 : Value} : wp (g, mi, d, n0, z0, mc, ms, Q) ((.invokevirtual i, l, oM m 6 c, ps) :: is) pe K ls (v4 :: v3 :: v2 :: v1 :: v0 :: .ref (gB g + k) :: st) (n, z, S, I, J, R) = (S k = (0, c + 1) ∧ call g d n0 z0 mc ms m [.ref (gB g + k), v0, v1, v2, v3, v4] st (n, z, S, I, J, R) (fun st' h' => wp (g, mi, d, n0, z0, mc, ms, Q) is pe K ls st' h')) :=
  congr (congrArg And (ex_add (B := gB g) (k := k) (p := fun k => S k = (0, c + 1)))) (call_of (nA := 6) (st := v4 :: v3 :: v2 :: v1 :: v0 :: .ref (gB g + k) :: st) (F := fun ls' st' h' => wp (g, mi, d, n0, z0, mc, ms, Q) is pe K ls' st' h') rfl rfl (by simp))
theorem q_callI5 {i a : Nat} {m : MI} {v0 v1 v2 v3 v4 : Value} : wp (g, mi, d, n0, z0, mc, ms, Q) ((.invokespecial i, l, oM m 6 0, ps) :: is) pe K ls (v4 :: v3 :: v2 :: v1 :: v0 :: .ref a :: st) h = call g d n0 z0 mc ms m [.ref a, v0, v1, v2, v3, v4] st h (fun st' h' => wp (g, mi, d, n0, z0, mc, ms, Q) is pe K ls st' h') := id <| call_of (nA := 6) (st := v4 :: v3 :: v2 :: v1 :: v0 :: .ref a :: st) (F := fun ls' st' h' => wp (g, mi, d, n0, z0, mc, ms, Q) is pe K ls' st' h') rfl rfl (by simp)
theorem q_callS6 {i : Nat} {m : MI} {v0 v1 v2 v3 v4 v5 : Value} : wp (g, mi, d, n0, z0, mc, ms, Q) ((.invokestatic i, l, oM m 6 0, ps) :: is) pe K ls (v5 :: v4 :: v3 :: v2 :: v1 :: v0 :: st) h = call g d n0 z0 mc ms m [v0, v1, v2, v3, v4, v5] st h (fun st' h' => wp (g, mi, d, n0, z0, mc, ms, Q) is pe K ls st' h') := id <| call_of (nA := 6) (st := v5 :: v4 :: v3 :: v2 :: v1 :: v0 :: st) (F := fun ls' st' h' => wp (g, mi, d, n0, z0, mc, ms, Q) is pe K ls' st' h') rfl rfl (by simp)
theorem q_callV6 {i : Nat} {m : MI} {v0 v1 v2 v3 v4 v5 : Value} : wp (g, mi, d, n0, z0, mc, ms, Q) ((.invokevirtual i, l, oM m 7 c, ps) :: is) pe K ls (v5 :: v4 :: v3 :: v2 :: v1 :: v0 :: .ref (gB g + k) :: st) (n, z, S, I, J, R) = (S k = (0, c + 1) ∧ call g d n0 z0 mc ms m [.ref (gB g + k), v0, v1, v2, v3, v4, v5] st (n, z, S, I, J, R) (fun st' h' => wp (g, mi, d, n0, z0, mc, ms, Q) is pe K ls st' h')) :=
  congr (congrArg And (ex_add (B := gB g) (k := k) (p := fun k => S k = (0, c + 1)))) (call_of (nA := 7) (st := v5 :: v4 :: v3 :: v2 :: v1 :: v0 :: .ref (gB g + k) :: st) (F := fun ls' st' h' => wp (g, mi, d, n0, z0, mc, ms, Q) is pe K ls' st' h') rfl rfl (by simp))
theorem q_callI6 {i a : Nat} {m : MI} {v0 v1 v2 v3 v4 v5 : Value} : wp (g, mi, d, n0, z0, mc, ms, Q) ((.invokespecial i, l, oM m 7 0, ps) :: is) pe K ls (v5 :: v4 :: v3 :: v2 :: v1 :: v0 :: .ref a :: st) h = call g d n0 z0 mc ms m [.ref a, v0, v1, v2, v3, v4, v5] st h (fun st' h' => wp (g, mi, d, n0, z0, mc, ms, Q) is pe K ls st' h') := id <| call_of (nA := 7) (st := v5 :: v4 :: v3 :: v2 :: v1 :: v0 :: .ref a :: st) (F := fun ls' st' h' => wp (g, mi, d, n0, z0, mc, ms, Q) is pe K ls' st' h') rfl rfl (by simp)
theorem q_callS7 {i : Nat} {m : MI} {v0 v1 v2 v3 v4 v5 v6 : Value} : wp (g, mi, d, n0, z0, mc, ms, Q) ((.invokestatic i, l, oM m 7 0, ps) :: is) pe K ls (v6 :: v5 :: v4 :: v3 :: v2 :: v1 :: v0 :: st) h = call g d n0 z0 mc ms m [v0, v1, v2, v3, v4, v5, v6] st h (fun st' h' => wp (g, mi, d, n0, z0, mc, ms, Q) is pe K ls st' h') := id <| call_of (nA := 7) (st := v6 :: v5 :: v4 :: v3 :: v2 :: v1 :: v0 :: st) (F := fun ls' st' h' => wp (g, mi, d, n0, z0, mc, ms, Q) is pe K ls' st' h') rfl rfl (by simp)
theorem q_callV7 {i : Nat} {m : MI} {v0 v1 v2 v3 v4 v5 v6 : Value} : wp (g, mi, d, n0, z0, mc, ms, Q) ((.invokevirtual i, l, oM m 8 c, ps) :: is) pe K ls (v6 :: v5 :: v4 :: v3 :: v2 :: v1 :: v0 :: .ref (gB g + k) :: st) (n, z, S, I, J, R) = (S k = (0, c + 1) ∧ call g d n0 z0 mc ms m [.ref (gB g + k), v0, v1, v2, v3, v4, v5, v6] st (n, z, S, I, J, R) (fun st' h' => wp (g, mi, d, n0, z0, mc, ms, Q) is pe K ls st' h')) :=
  congr (congrArg And (ex_add (B := gB g) (k := k) (p := fun k => S k = (0, c + 1)))) (call_of (nA := 8) (st := v6 :: v5 :: v4 :: v3 :: v2 :: v1 :: v0 :: .ref (gB g + k) :: st) (F := fun ls' st' h' => wp (g, mi, d, n0, z0, mc, ms, Q) is pe K ls' st' h') rfl rfl (by simp))
theorem q_callI7 {i a : Nat} {m : MI} {v0 v1 v2 v3 v4 v5 v6 : Value} : wp (g, mi, d, n0, z0, mc, ms, Q) ((.invokespecial i, l, oM m 8 0, ps) :: is) pe K ls (v6 :: v5 :: v4 :: v3 :: v2 :: v1 :: v0 :: .ref a :: st) h = call g d n0 z0 mc ms m [.ref a, v0, v1, v2, v3, v4, v5, v6] st h (fun st' h' => wp (g, mi, d, n0, z0, mc, ms, Q) is pe K ls st' h') := id <| call_of (nA := 8) (st := v6 :: v5 :: v4 :: v3 :: v2 :: v1 :: v0 :: .ref a :: st) (F := fun ls' st' h' => wp (g, mi, d, n0, z0, mc, ms, Q) is pe K ls' st' h') rfl rfl (by simp)
theorem q_callS8 {i : Nat} {m : MI} {v0 v1 v2 v3 v4 v5 v6 v7 : Value} : wp (g, mi, d, n0, z0, mc, ms, Q) ((.invokestatic i, l, oM m 8 0, ps) :: is) pe K ls (v7 :: v6 :: v5 :: v4 :: v3 :: v2 :: v1 :: v0 :: st) h = call g d n0 z0 mc ms m [v0, v1, v2, v3, v4, v5, v6, v7] st h (fun st' h' => wp (g, mi, d, n0, z0, mc, ms, Q) is pe K ls st' h') := id <| call_of (nA := 8) (st := v7 :: v6 :: v5 :: v4 :: v3 :: v2 :: v1 :: v0 :: st) (F := fun ls' st' h' => wp (g, mi, d, n0, z0, mc, ms, Q) is pe K ls' st' h') rfl rfl (by simp)
theorem q_callV8 {i : Nat} {m : MI} {v0 v1 v2 v3 v4 v5 v6 v7 : Value} : wp (g, mi, d, n0, z0, mc, ms, Q) ((.invokevirtual i, l, oM m 9 c, ps) :: is) pe K ls (v7 :: v6 :: v5 :: v4 :: v3 :: v2 :: v1 :: v0 :: .ref (gB g + k) :: st) (n, z, S, I, J, R) = (S k = (0, c + 1) ∧ call g d n0 z0 mc ms m [.ref (gB g + k), v0, v1, v2, v3, v4, v5, v6, v7] st (n, z, S, I, J, R) (fun st' h' => wp (g, mi, d, n0, z0, mc, ms, Q) is pe K ls st' h')) :=
  congr (congrArg And (ex_add (B := gB g) (k := k) (p := fun k => S k = (0, c + 1)))) (call_of (nA := 9) (st := v7 :: v6 :: v5 :: v4 :: v3 :: v2 :: v1 :: v0 :: .ref (gB g + k) :: st) (F := fun ls' st' h' => wp (g, mi, d, n0, z0, mc, ms, Q) is pe K ls' st' h') rfl rfl (by simp))
theorem q_callI8 {i a : Nat} {m : MI} {v0 v1 v2 v3 v4 v5 v6 v7 : Value} : wp (g, mi, d, n0, z0, mc, ms, Q) ((.invokespecial i, l, oM m 9 0, ps) :: is) pe K ls (v7 :: v6 :: v5 :: v4 :: v3 :: v2 :: v1 :: v0 :: .ref a :: st) h = call g d n0 z0 mc ms m [.ref a, v0, v1, v2, v3, v4, v5, v6, v7] st h (fun st' h' => wp (g, mi, d, n0, z0, mc, ms, Q) is pe K ls st' h') := id <| call_of (nA := 9) (st := v7 :: v6 :: v5 :: v4 :: v3 :: v2 :: v1 :: v0 :: .ref a :: st) (F := fun ls' st' h' => wp (g, mi, d, n0, z0, mc, ms, Q) is pe K ls' st' h') rfl rfl (by simp)
theorem q_iret {o : LK} {v : Int32} {a : MethodName} {b : ByteArray} {m : Nat} {rt : FieldType} : wp (g, (a, b, m, some rt), d, n0, z0, mc, ms, Q) ((.ireturn, l, o, ps) :: is) pe K ls [.int v] (n, z, S, I, J, R) = (narrow rt (.int v) = .int v ∧ n = n0 + mc ∧ z = z0 + ms ∧ Q (some (.int v)) (n, z, S, I, J, R)) := id rfl
theorem q_lret {o : LK} {v : Int64} {a : MethodName} {b : ByteArray} {m : Nat} : wp (g, (a, b, m, some .long), d, n0, z0, mc, ms, Q) ((.lreturn, l, o, ps) :: is) pe K ls [.long v] (n, z, S, I, J, R) = (n = n0 + mc ∧ z = z0 + ms ∧ Q (some (.long v)) (n, z, S, I, J, R)) := propext ⟨fun q => q.2, fun q => ⟨rfl, q⟩⟩
theorem q_vret {o : LK} {a : MethodName} {b : ByteArray} {m : Nat} : wp (g, (a, b, m, none), d, n0, z0, mc, ms, Q) ((.return_, l, o, ps) :: is) pe K ls [] (n, z, S, I, J, R) = (n = n0 + mc ∧ z = z0 + ms ∧ Q none (n, z, S, I, J, R)) := propext ⟨fun q => q.2, fun q => ⟨rfl, q⟩⟩
theorem q_na_int {v : Int32} : (narrow .int (.int v) = .int v) = True := eq_true (id rfl)
end Rules2
theorem q_lgt_z (o : Option Value) (t : List (Option Value)) : lgt (o :: t) 0 = o := id rfl
theorem q_lgt_s (o : Option Value) (t : List (Option Value)) (i : Nat) : lgt (o :: t) (i + 1) = lgt t i := id rfl
theorem q_lst0 (v : Value) (a : Option Value) (t : List (Option Value)) : lst v 0 (a :: t) = some v :: t := id rfl
theorem q_lst1 (v : Value) (a b : Option Value) (t : List (Option Value)) : lst v 1 (a :: b :: t) = lclr a :: some v :: t := id rfl
theorem q_lstS (v : Value) (i : Nat) (a : Option Value) (t : List (Option Value)) : lst v (i + 2) (a :: t) = a :: lst v (i + 1) t := id rfl
theorem q_lst20 (v : Value) (a b : Option Value) (t : List (Option Value)) : lst2 v 0 (a :: b :: t) = some v :: none :: t := id rfl
theorem q_lst21 (v : Value) (a b c : Option Value) (t : List (Option Value)) : lst2 v 1 (a :: b :: c :: t) = lclr a :: some v :: none :: t := id rfl
theorem q_lst2S (v : Value) (i : Nat) (a : Option Value) (t : List (Option Value)) : lst2 v (i + 2) (a :: t) = a :: lst2 v (i + 1) t := id rfl
theorem q_clr_i (v : Int32) : lclr (some (.int v)) = some (.int v) := id rfl
theorem q_clr_r (v : Nat) : lclr (some (.ref v)) = some (.ref v) := id rfl
theorem q_clr_n : lclr (some .null) = some .null := id rfl
theorem q_clr_0 : lclr none = none := id rfl
theorem q_clr_l (v : Int64) : lclr (some (.long v)) = none := id rfl
theorem q_cv_i (B : Nat) (I : Nat → Nat → Int32) (J : Nat → Nat → Int64) (R : Nat → Nat → Option Nat) (k j : Nat) : cval 0 B I J R k j = .int (I k j) := id rfl
theorem q_cv_l (B : Nat) (I : Nat → Nat → Int32) (J : Nat → Nat → Int64) (R : Nat → Nat → Option Nat) (k j : Nat) : cval 1 B I J R k j = .long (J k j) := id rfl
theorem q_cv_r (B : Nat) (I : Nat → Nat → Int32) (J : Nat → Nat → Int64) (R : Nat → Nat → Option Nat) (k j : Nat) : cval 2 B I J R k j = rv B (R k j) := id rfl
theorem q_rv_s (B q : Nat) : rv B (some q) = .ref (B + q) := id rfl
theorem q_rv_n (B : Nat) : rv B none = .null := id rfl
theorem q_toL_s (v : Value) (r : List Value) : (some v).toList ++ r = v :: r := id rfl
theorem q_toL_n (r : List Value) : (none : Option Value).toList ++ r = r := id rfl
