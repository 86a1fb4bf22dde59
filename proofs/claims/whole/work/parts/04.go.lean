/-! CONTRACTS (Cn), the walk (Go), what a stretch asks for (wp) -/
abbrev XT : Type := GT × MI × Nat × Nat × Nat × Nat × Nat × (Option Value → AH → Prop)
def XQ (g : GT) (n1 z1 : Nat) (Q : Option Value → AH → Prop) : Array Value → State → Outcome → State → Prop := fun _ st o t =>
  (∃ (r : Option Value) (h' : AH), o = .returned r ∧ Q r h' ∧ h'.1 = n1 ∧ h'.2.1 = z1 ∧ RH g h' t.heap) ∧ va_F (fun q => gB g ≤ q) st t
def Cn (g : GT) (mi : MI) (d mc ms : Nat) (as : List Value) (h : AH) (Q : Option Value → AH → Prop) : Prop :=
  Cond.code mi.1 mi.2.1 mi.2.2.1 mi.2.2.2 ∈ ktb ∧ Met (gL g) mi.1 (Cond.code mi.1 mi.2.1 mi.2.2.1 mi.2.2.2 :: ktb) { frames := d, cells := mc, slots := ms, locals := 40 * d } (va_Pc as (fun U => RT g U ∧ RH g h U.heap ∧ va_X (gS g) (gN g) (gX g) U U.heap)) (XQ g (h.1 + mc) (h.2.1 + ms) Q) mc ms (fun q => gB g ≤ q)
/-- what stands at every instruction of a method -/
def CX (x : XT) (p : Program) (R : Room) (s : State) (m : MethodId) (args : Array Value) (meth : Method) (c : Code) : Prop :=
  p.tables.exec = Jvm.exec ∧ c.code = x.2.1.2.1 ∧ meth.sig.returnType = x.2.1.2.2.2 ∧ c.maxLocals = x.2.1.2.2.1 ∧ s.vm.findClass x.2.1.1.cls = some m.cls ∧ (∀ w ∈ ktb, w.before args s = true) ∧ meth.locks = false ∧ meth.name = x.2.1.1.name ∧
  x.2.2.1 ≤ R.frames ∧ 40 * x.2.2.1 ≤ R.locals ∧ x.2.2.2.2.2.1 ≤ R.cells ∧ x.2.2.2.2.2.2.1 ≤ R.slots ∧ RT x.1 s ∧ va_X (gS x.1) (gN x.1) (gX x.1) s s.heap ∧ gB x.1 ≤ s.heap.size
def Go (x : XT) (pc : Nat) (ls : List (Option Value)) (st : List Value) (h : AH) : Prop :=
  ∀ (p : Program) (e : Env) (R : Room) (s : State) (m : MethodId) (args : Array Value) (below : List Frame) (meth : Method) (c : Code) (H : Heap) (locs : List Loc) (ls' : Array Slot) (k w : Nat),
    CX x p R s m args meth c → RH x.1 h H → va_S (fun q => gB x.1 ≤ q) s.heap H locs → LV ls' x.2.1.2.2.1 ls → h.1 = x.2.2.2.1 + k ∧ k ≤ x.2.2.2.2.2.1 → h.2.1 = x.2.2.2.2.1 + w ∧ w ≤ x.2.2.2.2.2.2.1 →
    W p (gL x.1) e R s m args below meth c H locs k w (MQ below (XQ x.1 (x.2.2.2.1 + x.2.2.2.2.2.1) (x.2.2.2.2.1 + x.2.2.2.2.2.2.1) x.2.2.2.2.2.2.2) args s x.2.2.2.2.2.1 x.2.2.2.2.2.2.1 (fun q => gB x.1 ≤ q)) (F0 m pc ls' st)
abbrev LK : Type := (Nat × Nat × Nat) × Int32 × Int64 × MI × List (Int32 × Nat)
abbrev IT : Type := Instr × Nat × LK × List Nat
def mi0 : MI := (⟨"", "", ""⟩, ByteArray.empty, 0, none)
def oN (a b c : Nat) : LK := ((a, b, c), 0, 0, mi0, [])
def oI (v : Int32) : LK := ((0, 0, 0), v, 0, mi0, [])
def oJ (a : Nat) (v : Int32) : LK := ((a, 0, 0), v, 0, mi0, [])
def oL (v : Int64) : LK := ((0, 0, 0), 0, v, mi0, [])
def oM (m : MI) (a b : Nat) : LK := ((a, b, 0), 0, 0, m, [])
def oS (d : Nat) (cs : List (Int32 × Nat)) : LK := ((d, 0, 0), 0, 0, mi0, cs)
abbrev FT : Type := List (Option Value) → List Value → AH → Prop
abbrev KT : Type := Nat → List (Option Value) → List Value → AH → Prop
def e_i (o : Option Value) (f : Int32 → Prop) : Prop := match o with | some (.int v) => f v | _ => False
def e_l (o : Option Value) (f : Int64 → Prop) : Prop := match o with | some (.long v) => f v | _ => False
def e_a (o : Option Value) (f : Value → Prop) : Prop := match o with | some (.ref q) => f (.ref q) | some .null => f .null | _ => False
def p_i (st : List Value) (f : Int32 → List Value → Prop) : Prop := match st with | .int v :: r => f v r | _ => False
def p_l (st : List Value) (f : Int64 → List Value → Prop) : Prop := match st with | .long v :: r => f v r | _ => False
def p_a (st : List Value) (f : Value → List Value → Prop) : Prop := match st with | .ref q :: r => f (.ref q) r | .null :: r => f .null r | _ => False
def p_ii (st : List Value) (f : Int32 → Int32 → List Value → Prop) : Prop := match st with | .int b :: .int a :: r => f a b r | _ => False
def p_ll (st : List Value) (f : Int64 → Int64 → List Value → Prop) : Prop := match st with | .long b :: .long a :: r => f a b r | _ => False
def rs (r : List Value) : Nat := (r.map fun v => v.category).sum
/-- a call: by the callee's contract -/
def e_call (x : XT) (mi : MI) (nA : Nat) (F : FT) (ls : List (Option Value)) (st : List Value) (h : AH) : Prop :=
  ∃ (d mc ms : Nat) (Q : Option Value → AH → Prop), nA ≤ st.length ∧ Cn x.1 mi d mc ms (st.take nA).reverse h Q ∧ d < x.2.2.1 ∧ h.1 + mc ≤ x.2.2.2.1 + x.2.2.2.2.2.1 ∧ h.2.1 + ms ≤ x.2.2.2.2.1 + x.2.2.2.2.2.2.1 ∧ rs (st.drop nA) ≤ 8 ∧
    ∀ (r : Option Value) (h' : AH), Q r h' → h'.1 = h.1 + mc → h'.2.1 = h.2.1 + ms → F ls (r.toList ++ st.drop nA) h'
def e_recv (x : XT) (c : Nat) (S : Nat → Nat × Nat) (st : List Value) : Prop := match st with | .ref a :: _ => ∃ k, a = gB x.1 + k ∧ S k = (0, c + 1) | _ => False
def e_end (x : XT) (r : Option Value) (h : AH) : Prop := h.1 = x.2.2.2.1 + x.2.2.2.2.2.1 ∧ h.2.1 = x.2.2.2.2.1 + x.2.2.2.2.2.2.1 ∧ x.2.2.2.2.2.2.2 r h
def e_sw (cs : List (Int32 × Nat)) (d : Nat) (v : Int32) (f : Nat → Prop) : Prop := match cs with
  | [] => f d
  | q :: r => (v = q.1 → f q.2) ∧ (¬ v = q.1 → e_sw r d v f)
def e_br (b : Prop) (T F : Prop) : Prop := (b → T) ∧ (¬ b → F)
def wp1 (x : XT) (i : Instr) (o : LK) (F : FT) (K : KT) (ls : List (Option Value)) (st : List Value) (h : AH) : Prop :=
  match i with
  | .iconst _ => F ls (.int o.2.1 :: st) h
  | .bipush _ => F ls (.int o.2.1 :: st) h
  | .sipush _ => F ls (.int o.2.1 :: st) h
  | .ldc _ => F ls (.int o.2.1 :: st) h
  | .lconst _ => F ls (.long o.2.2.1 :: st) h
  | .ldc2_w _ => F ls (.long o.2.2.1 :: st) h
  | .aconst_null => F ls (.null :: st) h
  | .iload _ => e_i (lgt ls o.1.1) fun v => F ls (.int v :: st) h
  | .iload_n _ => e_i (lgt ls o.1.1) fun v => F ls (.int v :: st) h
  | .lload _ => e_l (lgt ls o.1.1) fun v => F ls (.long v :: st) h
  | .lload_n _ => e_l (lgt ls o.1.1) fun v => F ls (.long v :: st) h
  | .aload _ => e_a (lgt ls o.1.1) fun v => F ls (v :: st) h
  | .aload_n _ => e_a (lgt ls o.1.1) fun v => F ls (v :: st) h
  | .istore _ => p_i st fun v r => F (lst (.int v) o.1.1 ls) r h
  | .istore_n _ => p_i st fun v r => F (lst (.int v) o.1.1 ls) r h
  | .lstore _ => p_l st fun v r => F (lst2 (.long v) o.1.1 ls) r h
  | .lstore_n _ => p_l st fun v r => F (lst2 (.long v) o.1.1 ls) r h
  | .astore _ => p_a st fun v r => F (lst v o.1.1 ls) r h
  | .astore_n _ => p_a st fun v r => F (lst v o.1.1 ls) r h
  | .iinc _ _ => e_i (lgt ls o.1.1) fun v => F (lst (.int (v + o.2.1)) o.1.1 ls) st h
  | .iadd => p_ii st fun a b r => F ls (.int (a + b) :: r) h
  | .isub => p_ii st fun a b r => F ls (.int (a - b) :: r) h
  | .imul => p_ii st fun a b r => F ls (.int (a * b) :: r) h
  | .iand => p_ii st fun a b r => F ls (.int (a &&& b) :: r) h
  | .idiv => p_ii st fun a b r => ¬ b = 0 ∧ F ls (.int (a / b) :: r) h
  | .irem => p_ii st fun a b r => ¬ b = 0 ∧ F ls (.int (a - a / b * b) :: r) h
  | .ineg => p_i st fun a r => F ls (.int (-a) :: r) h
  | .ladd => p_ll st fun a b r => F ls (.long (a + b) :: r) h
  | .lsub => p_ll st fun a b r => F ls (.long (a - b) :: r) h
  | .lmul => p_ll st fun a b r => F ls (.long (a * b) :: r) h
  | .land => p_ll st fun a b r => F ls (.long (a &&& b) :: r) h
  | .ldiv => p_ll st fun a b r => ¬ b = 0 ∧ F ls (.long (a / b) :: r) h
  | .lrem => p_ll st fun a b r => ¬ b = 0 ∧ F ls (.long (a - a / b * b) :: r) h
  | .i2l => p_i st fun v r => F ls (.long v.toInt64 :: r) h
  | .l2i => p_l st fun v r => F ls (.int v.toInt32 :: r) h
  | .dup => (match st with
    | v :: r => v.category = 1 ∧ F ls (v :: v :: r) h
    | _ => False)
  | .pop => (match st with
    | v :: r => v.category = 1 ∧ F ls r h
    | _ => False)
  | .dup2 => (match st with
    | a :: b :: r => a.category = 1 ∧ b.category = 1 ∧ F ls (a :: b :: a :: b :: r) h
    | _ => False)
  | .dup_x1 => (match st with
    | a :: b :: r => a.category = 1 ∧ b.category = 1 ∧ F ls (a :: b :: a :: r) h
    | _ => False)
  | .dup_x2 => (match st with
    | a :: b :: c :: r => a.category = 1 ∧ b.category = 1 ∧ c.category = 1 ∧ F ls (a :: b :: c :: a :: r) h
    | _ => False)
  | .goto _ => K o.1.1 ls st h
  | .ifCond .eq _ => p_i st fun v r => e_br (v = 0) (K o.1.1 ls r h) (F ls r h)
  | .ifCond .ne _ => p_i st fun v r => e_br (v = 0) (F ls r h) (K o.1.1 ls r h)
  | .ifCond .lt _ => p_i st fun v r => e_br (v < 0) (K o.1.1 ls r h) (F ls r h)
  | .ifCond .ge _ => p_i st fun v r => e_br (v < 0) (F ls r h) (K o.1.1 ls r h)
  | .ifCond .gt _ => p_i st fun v r => e_br (0 < v) (K o.1.1 ls r h) (F ls r h)
  | .ifCond .le _ => p_i st fun v r => e_br (0 < v) (F ls r h) (K o.1.1 ls r h)
  | .if_icmp .eq _ => p_ii st fun a b r => e_br (a = b) (K o.1.1 ls r h) (F ls r h)
  | .if_icmp .ne _ => p_ii st fun a b r => e_br (a = b) (F ls r h) (K o.1.1 ls r h)
  | .if_icmp .lt _ => p_ii st fun a b r => e_br (a < b) (K o.1.1 ls r h) (F ls r h)
  | .if_icmp .ge _ => p_ii st fun a b r => e_br (a < b) (F ls r h) (K o.1.1 ls r h)
  | .if_icmp .gt _ => p_ii st fun a b r => e_br (b < a) (K o.1.1 ls r h) (F ls r h)
  | .if_icmp .le _ => p_ii st fun a b r => e_br (b < a) (F ls r h) (K o.1.1 ls r h)
  | .ifnull _ => (match st with
    | .null :: r => K o.1.1 ls r h
    | .ref _ :: r => F ls r h
    | _ => False)
  | .ifnonnull _ => (match st with
    | .null :: r => F ls r h
    | .ref _ :: r => K o.1.1 ls r h
    | _ => False)
  | .getfield _ => (match st with
    | .ref a :: r => ∃ k, a = gB x.1 + k ∧ h.2.2.1 k = (0, o.1.1 + 1) ∧ F ls (cval o.1.2.2 (gB x.1) h.2.2.2.1 h.2.2.2.2.1 h.2.2.2.2.2 k o.1.2.1 :: r) h
    | _ => False)
  | .putfield _ => (match st with
    | .int v :: .ref a :: r => o.1.2.2 = 0 ∧ ∃ k, a = gB x.1 + k ∧ h.2.2.1 k = (0, o.1.1 + 1) ∧ F ls r (h.1, h.2.1, h.2.2.1, va_up h.2.2.2.1 k (va_up (h.2.2.2.1 k) o.1.2.1 v), h.2.2.2.2.1, h.2.2.2.2.2)
    | .long v :: .ref a :: r => o.1.2.2 = 1 ∧ ∃ k, a = gB x.1 + k ∧ h.2.2.1 k = (0, o.1.1 + 1) ∧ F ls r (h.1, h.2.1, h.2.2.1, h.2.2.2.1, va_up h.2.2.2.2.1 k (va_up (h.2.2.2.2.1 k) o.1.2.1 v), h.2.2.2.2.2)
    | .ref q :: .ref a :: r => o.1.2.2 = 2 ∧ ∃ k q', a = gB x.1 + k ∧ q = gB x.1 + q' ∧ h.2.2.1 k = (0, o.1.1 + 1) ∧ F ls r (h.1, h.2.1, h.2.2.1, h.2.2.2.1, h.2.2.2.2.1, va_up h.2.2.2.2.2 k (va_up (h.2.2.2.2.2 k) o.1.2.1 (some q')))
    | _ => False)
  | .iaload => (match st with
    | .int j :: .ref a :: r =>
      if o.1.1 = 0 then ∃ k, a = gB x.1 + k ∧ (h.2.2.1 k).1 = 1 ∧ vp_in j (h.2.2.1 k).2 ∧ F ls (.int (h.2.2.2.1 k j.toNatClampNeg) :: r) h
      else a = gS x.1 ∧ vp_in j (gN x.1) ∧ F ls (.int (gX x.1 j.toNatClampNeg) :: r) h
    | _ => False)
  | .iastore => (match st with
    | .int v :: .int j :: .ref a :: r => ∃ k, a = gB x.1 + k ∧ (h.2.2.1 k).1 = 1 ∧ vp_in j (h.2.2.1 k).2 ∧ F ls r (h.1, h.2.1, h.2.2.1, va_up h.2.2.2.1 k (va_up (h.2.2.2.1 k) j.toNatClampNeg v), h.2.2.2.2.1, h.2.2.2.2.2)
    | _ => False)
  | .baload => (match st with
    | .int j :: .ref a :: r => ∃ k, a = gB x.1 + k ∧ (h.2.2.1 k).1 = 3 ∧ vp_in j (h.2.2.1 k).2 ∧ F ls (.int (h.2.2.2.1 k j.toNatClampNeg) :: r) h
    | _ => False)
  | .bastore => (match st with
    | .int v :: .int j :: .ref a :: r => ∃ k, a = gB x.1 + k ∧ (h.2.2.1 k).1 = 3 ∧ vp_in j (h.2.2.1 k).2 ∧ narrow .boolean (.int v) = .int v ∧ F ls r (h.1, h.2.1, h.2.2.1, va_up h.2.2.2.1 k (va_up (h.2.2.2.1 k) j.toNatClampNeg v), h.2.2.2.2.1, h.2.2.2.2.2)
    | _ => False)
  | .aaload => (match st with
    | .int j :: .ref a :: r => ∃ k, a = gB x.1 + k ∧ (h.2.2.1 k).1 = o.1.1 + 1 ∧ vp_in j (h.2.2.1 k).2 ∧ F ls (rv (gB x.1) (h.2.2.2.2.2 k j.toNatClampNeg) :: r) h
    | _ => False)
  | .aastore => (match st with
    | .ref q :: .int j :: .ref a :: r => ∃ k q', a = gB x.1 + k ∧ q = gB x.1 + q' ∧ (h.2.2.1 k).1 = o.1.1 + 1 ∧ h.2.2.1 q' = (0, o.1.2.1 + 1) ∧ vp_in j (h.2.2.1 k).2 ∧ F ls r (h.1, h.2.1, h.2.2.1, h.2.2.2.1, h.2.2.2.2.1, va_up h.2.2.2.2.2 k (va_up (h.2.2.2.2.2 k) j.toNatClampNeg (some q')))
    | _ => False)
  | .arraylength => (match st with
    | .ref a :: r =>
      if o.1.1 = 0 then ∃ k, a = gB x.1 + k ∧ ¬ (h.2.2.1 k).1 = 0 ∧ F ls (.int (nI (h.2.2.1 k).2) :: r) h
      else a = gS x.1 ∧ F ls (.int (nI (gN x.1)) :: r) h
    | _ => False)
  | .newarray _ => p_i st fun v r => ¬ v < 0 ∧ v.toNatClampNeg ≤ 100000 ∧ h.1 + 1 ≤ x.2.2.2.1 + x.2.2.2.2.2.1 ∧ h.2.1 + v.toNatClampNeg ≤ x.2.2.2.2.1 + x.2.2.2.2.2.2.1 ∧
      F ls (.ref (gB x.1 + h.1) :: r) (h.1 + 1, h.2.1 + v.toNatClampNeg, va_up h.2.2.1 h.1 (o.1.1 + 1, v.toNatClampNeg), va_up h.2.2.2.1 h.1 (fun _ => 0), h.2.2.2.2.1, h.2.2.2.2.2)
  | .anewarray _ => p_i st fun v r => ¬ v < 0 ∧ v.toNatClampNeg ≤ 100000 ∧ h.1 + 1 ≤ x.2.2.2.1 + x.2.2.2.2.2.1 ∧ h.2.1 + v.toNatClampNeg ≤ x.2.2.2.2.1 + x.2.2.2.2.2.2.1 ∧
      F ls (.ref (gB x.1 + h.1) :: r) (h.1 + 1, h.2.1 + v.toNatClampNeg, va_up h.2.2.1 h.1 (o.1.1 + 1, v.toNatClampNeg), h.2.2.2.1, h.2.2.2.2.1, va_up h.2.2.2.2.2 h.1 (fun _ => none))
  | .new _ => h.1 + 1 ≤ x.2.2.2.1 + x.2.2.2.2.2.1 ∧ h.2.1 + o.1.2.1 ≤ x.2.2.2.2.1 + x.2.2.2.2.2.2.1 ∧
      F ls (.ref (gB x.1 + h.1) :: st) (h.1 + 1, h.2.1 + o.1.2.1, va_up h.2.2.1 h.1 (0, o.1.1 + 1), va_up h.2.2.2.1 h.1 (fun _ => 0), va_up h.2.2.2.2.1 h.1 (fun _ => 0), va_up h.2.2.2.2.2 h.1 (fun _ => none))
  | .invokestatic _ => (match o.1.2.2 with
    | 0 => e_call x o.2.2.2.1 o.1.1 F ls st h
    | 1 => p_ii st fun a b r => 1 ≤ x.2.2.1 ∧ rs r ≤ 8 ∧ F ls (.int (if a < b then b else a) :: r) h
    | 2 => p_ii st fun a b r => 1 ≤ x.2.2.1 ∧ rs r ≤ 8 ∧ F ls (.int (if b < a then b else a) :: r) h
    | 3 => (match st with
      | .int n :: .int dp :: .ref a :: .int sp :: .ref b :: r => ∃ k k0, a = gB x.1 + k ∧ b = gB x.1 + k0 ∧ (h.2.2.1 k).1 = 1 ∧ (h.2.2.1 k0).1 = 1 ∧ ¬ sp < 0 ∧ ¬ dp < 0 ∧ ¬ n < 0 ∧ sp.toNatClampNeg + n.toNatClampNeg ≤ (h.2.2.1 k0).2 ∧ dp.toNatClampNeg + n.toNatClampNeg ≤ (h.2.2.1 k).2 ∧ 1 ≤ x.2.2.1 ∧ rs r ≤ 8 ∧
          F ls r (h.1, h.2.1, h.2.2.1, va_up h.2.2.2.1 k (va_cpy (h.2.2.2.1 k0) (h.2.2.2.1 k) sp.toNatClampNeg dp.toNatClampNeg n.toNatClampNeg), h.2.2.2.2.1, h.2.2.2.2.2)
      | _ => False)
    | _ => False)
  | .invokevirtual _ => e_recv x o.1.2.1 h.2.2.1 (st.drop (o.1.1 - 1)) ∧ e_call x o.2.2.2.1 o.1.1 F ls st h
  | .invokespecial _ => (match o.1.2.2 with
    | 0 => (match st.drop (o.1.1 - 1) with
      | .ref _ :: _ => e_call x o.2.2.2.1 o.1.1 F ls st h
      | _ => False)
    | 1 => (match st with
      | .ref _ :: r => 1 ≤ x.2.2.1 ∧ rs r ≤ 8 ∧ F ls r h
      | _ => False)
    | _ => False)
  | .tableswitch _ _ _ _ => p_i st fun v r => e_sw o.2.2.2.2 o.1.1 v (fun t => K t ls r h)
  | .lookupswitch _ _ => p_i st fun v r => e_sw o.2.2.2.2 o.1.1 v (fun t => K t ls r h)
  | .ireturn => (match st with
    | [.int v] => (match x.2.1.2.2.2 with
      | some rt => narrow rt (.int v) = .int v ∧ e_end x (some (.int v)) h
      | none => False)
    | _ => False)
  | .lreturn => (match st with
    | [.long v] => x.2.1.2.2.2 = some .long ∧ e_end x (some (.long v)) h
    | _ => False)
  | .return_ => (match st with
    | [] => x.2.1.2.2.2 = none ∧ e_end x none h
    | _ => False)
  | _ => False
def wp (x : XT) : List IT → Nat → KT → List (Option Value) → List Value → AH → Prop
  | [], pe, K, ls, st, h => K pe ls st h
  | q :: t, pe, K, ls, st, h => wp1 x q.1 q.2.2.1 (fun ls' st' h' => wp x t pe K ls' st' h') K ls st h
