/-! what is decided of a stretch of code: its instructions, their operands, their words -/
def inT (ps : List Nat) (i : Nat) (w : Cond) : Bool := decide (lw_tbl[ps.getD i 9999]? = some w) && goodWord w
theorem inT_ok {ps : List Nat} {i : Nat} {w : Cond} (h : inT ps i w = true) : w ∈ ktb := by
  simp only [inT, Bool.and_eq_true, decide_eq_true_eq] at h
  exact List.mem_filter.mpr ⟨List.mem_of_getElem? h.1, h.2⟩
def okF (ps : List Nat) (own : String) (idx c j co : Nat) : Bool := match kcl[c]? with
  | some q => decide (j < q.2.2) && decide (co = fco (ktyp c j)) && inT ps 0 (.fieldLink own idx (q.2.1 j).1 (q.2.1 j).2.1 (q.2.1 j).2.2.1)
  | none => false
theorem okF_ok {ps : List Nat} {own : String} {idx c j co : Nat} (h : okF ps own idx c j co = true) : ∃ q, kcl[c]? = some q ∧ j < q.2.2 ∧ co = fco (ktyp c j) ∧ Cond.fieldLink own idx (q.2.1 j).1 (q.2.1 j).2.1 (q.2.1 j).2.2.1 ∈ ktb := by
  unfold okF at h
  cases hq : kcl[c]? with
  | none => rw [hq] at h; cases h
  | some q =>
    rw [hq] at h
    simp only [Bool.and_eq_true, decide_eq_true_eq] at h
    exact ⟨q, rfl, h.1.1, h.1.2, inT_ok h.2⟩
def okP (mi : MI) (c j : Nat) : Bool := match kcl[c]? with
  | some q => (decide ((q.2.1 j).2.2.2 = false) || (decide (mi.1.name = "<init>") && decide ((q.2.1 j).1 = mi.1.cls))) && (match ktyp c j with | .int => true | .long => true | .object _ => true | .array _ => true | _ => false)
  | none => false
theorem okP_ok {mi : MI} {c j : Nat} {q : vw_C} (hq : kcl[c]? = some q) (h : okP mi c j = true) : ((q.2.1 j).2.2.2 = false ∨ (mi.1.name = "<init>" ∧ (q.2.1 j).1 = mi.1.cls)) ∧ (ktyp c j = .int ∨ ktyp c j = .long ∨ (∃ C, ktyp c j = .object C) ∨ ∃ t, ktyp c j = .array t) := by
  unfold okP at h
  rw [hq] at h
  simp only [Bool.and_eq_true, Bool.or_eq_true, decide_eq_true_eq] at h
  refine ⟨h.1, ?_⟩
  have h2 := h.2
  cases hk : ktyp c j <;> rw [hk] at h2 <;> first | exact Or.inl rfl | exact Or.inr (Or.inl rfl) | exact Or.inr (Or.inr (Or.inl ⟨_, rfl⟩)) | exact Or.inr (Or.inr (Or.inr ⟨_, rfl⟩)) | cases h2
def okC (ps : List Nat) (mi : MI) (nA : Nat) : Bool := inT ps 0 (.initialized mi.1.cls) && decide (mi.1.cls ≠ "java/lang/invoke/MethodHandle") && decide (mi.1.cls ≠ "java/lang/invoke/VarHandle") && decide ((parseMethodDescriptor mi.1.desc).map (fun d => d.parameters.length) = some nA) && decide (mi.2.2.1 ≤ 21)
theorem okC_ok {ps : List Nat} {own : String} {idx : Nat} {mi : MI} {nA : Nat} (h : okC ps mi nA = true) : cwd own idx mi nA := by
  simp only [okC, Bool.and_eq_true, decide_eq_true_eq] at h
  exact ⟨inT_ok h.1.1.1.1, ⟨h.1.1.1.2, h.1.1.2⟩, h.1.2, h.2⟩
def hosts : List String := knst.filterMap (fun w => match w with | .methodLinkNest _ _ _ h => some h | _ => none)
def okL (mi : MI) (pc : Nat) (i : Instr) (len : Nat) (o : LK) (ps : List Nat) : Bool :=
  match i with
  | .iconst n => decide (len = 1) && decide (Int32.ofInt n = o.2.1)
  | .bipush n => decide (len = 2) && decide ((Int8.ofInt n).toInt32 = o.2.1)
  | .sipush n => decide (len = 3) && decide ((Int16.ofInt n).toInt32 = o.2.1)
  | .ldc i => decide (len = 2) && inT ps 0 (.constant mi.1.cls i o.2.1)
  | .lconst n => decide (len = 1) && decide (Int64.ofNat (n : Nat) = o.2.2.1)
  | .ldc2_w i => decide (len = 3) && inT ps 0 (.constantLong mi.1.cls i o.2.2.1)
  | .iload k => decide (len = 2) && decide (k = o.1.1)
  | .iload_n k => decide (len = 1) && decide ((k : Nat) = o.1.1)
  | .lload k => decide (len = 2) && decide (k = o.1.1)
  | .lload_n k => decide (len = 1) && decide ((k : Nat) = o.1.1)
  | .aload k => decide (len = 2) && decide (k = o.1.1)
  | .aload_n k => decide (len = 1) && decide ((k : Nat) = o.1.1)
  | .istore k => decide (len = 2) && decide (k = o.1.1) && decide (o.1.1 < mi.2.2.1)
  | .istore_n k => decide (len = 1) && decide ((k : Nat) = o.1.1) && decide (o.1.1 < mi.2.2.1)
  | .astore k => decide (len = 2) && decide (k = o.1.1) && decide (o.1.1 < mi.2.2.1)
  | .astore_n k => decide (len = 1) && decide ((k : Nat) = o.1.1) && decide (o.1.1 < mi.2.2.1)
  | .lstore k => decide (len = 2) && decide (k = o.1.1) && decide (o.1.1 + 1 < mi.2.2.1)
  | .lstore_n k => decide (len = 1) && decide ((k : Nat) = o.1.1) && decide (o.1.1 + 1 < mi.2.2.1)
  | .iinc k n => decide (len = 3) && decide (k = o.1.1) && decide (Int32.ofInt n = o.2.1) && decide (o.1.1 < mi.2.2.1)
  | .iadd => decide (len = 1)
  | .isub => decide (len = 1)
  | .imul => decide (len = 1)
  | .iand => decide (len = 1)
  | .idiv => decide (len = 1)
  | .irem => decide (len = 1)
  | .ineg => decide (len = 1)
  | .ladd => decide (len = 1)
  | .lsub => decide (len = 1)
  | .lmul => decide (len = 1)
  | .land => decide (len = 1)
  | .ldiv => decide (len = 1)
  | .lrem => decide (len = 1)
  | .i2l => decide (len = 1)
  | .l2i => decide (len = 1)
  | .dup => decide (len = 1)
  | .pop => decide (len = 1)
  | .dup2 => decide (len = 1)
  | .dup_x1 => decide (len = 1)
  | .dup_x2 => decide (len = 1)
  | .aconst_null => decide (len = 1)
  | .iaload => decide (len = 1)
  | .iastore => decide (len = 1)
  | .baload => decide (len = 1)
  | .bastore => decide (len = 1)
  | .ireturn => decide (len = 1)
  | .lreturn => decide (len = 1)
  | .return_ => decide (len = 1)
  | .arraylength => decide (len = 1)
  | .goto off => decide (len = 3) && decide ((pc : Int) + off = (o.1.1 : Int))
  | .ifCond _ off => decide (len = 3) && decide ((pc : Int) + off = (o.1.1 : Int))
  | .if_icmp _ off => decide (len = 3) && decide ((pc : Int) + off = (o.1.1 : Int))
  | .ifnull off => decide (len = 3) && decide ((pc : Int) + off = (o.1.1 : Int))
  | .ifnonnull off => decide (len = 3) && decide ((pc : Int) + off = (o.1.1 : Int))
  | .getfield i => decide (len = 3) && okF ps mi.1.cls i o.1.1 o.1.2.1 o.1.2.2
  | .putfield i => decide (len = 3) && okF ps mi.1.cls i o.1.1 o.1.2.1 o.1.2.2 && okP mi o.1.1 o.1.2.1
  | .aaload => decide (len = 1) && (kak o.1.1).isReference
  | .aastore => decide (len = 1) && (match kcl[o.1.2.1]? with | some q => decide (kak o.1.1 = .object q.1) | none => false)
  | .newarray t => decide (len = 2) && decide (newarray.typeOf t = kak o.1.1) && inT ps 0 (.arrayClass (kak o.1.1)) && decide (o.1.1 < kna) && (decide (kak o.1.1 = .int) || decide (kak o.1.1 = .boolean))
  | .anewarray i => decide (len = 3) && decide (o.1.1 < kna) && (match kak o.1.1 with | .object C => inT ps 0 (.classLink mi.1.cls i C) && decide (C ∈ kao) | _ => false)
  | .new i => decide (len = 3) && (match kcl[o.1.1]? with | some q => inT ps 0 (.classLink mi.1.cls i q.1) && inT ps 1 (.instantiable q.1 q.2.2) && inT ps 2 (.initialized q.1) && decide (o.1.2.1 = q.2.2) | none => false)
  | .invokestatic i => decide (len = 3) && (match o.1.2.2 with
    | 0 => okC ps o.2.2.2.1 o.1.1 && inT ps 1 (.methodLink mi.1.cls i o.2.2.2.1.1) && inT ps 2 (.static o.2.2.2.1.1)
    | 1 => inT ps 0 (.methodLink mi.1.cls i Lib.Math.max.name) && inT ps 1 (.static Lib.Math.max.name) && inT ps 2 (.initialized "java/lang/Math")
    | 2 => inT ps 0 (.methodLink mi.1.cls i Lib.Math.min.name) && inT ps 1 (.static Lib.Math.min.name) && inT ps 2 (.initialized "java/lang/Math")
    | 3 => inT ps 0 (.methodLink mi.1.cls i arraycopyName) && inT ps 1 (.native arraycopyName) && inT ps 2 (.static arraycopyName) && inT ps 3 (.initialized "java/lang/System")
    | _ => false)
  | .invokevirtual i => decide (len = 3) && decide (0 < o.1.1) && okC ps o.2.2.2.1 (o.1.1 - 1) && inT ps 1 (.methodLink mi.1.cls i o.2.2.2.1.1) && inT ps 2 (.instanceMethod o.2.2.2.1.1) && inT ps 3 (.selects o.2.2.2.1.1.cls o.2.2.2.1.1 o.2.2.2.1.1) && (match kcl[o.1.2.1]? with | some q => decide (q.1 = o.2.2.2.1.1.cls) | none => false)
  | .invokespecial i => decide (len = 3) && (match o.1.2.2 with
    | 0 => decide (0 < o.1.1) && okC ps o.2.2.2.1 (o.1.1 - 1) && (inT ps 1 (.methodLink mi.1.cls i o.2.2.2.1.1) || hosts.any (fun h => decide (Cond.methodLinkNest mi.1.cls i o.2.2.2.1.1 h ∈ knst))) && inT ps 2 (.instanceMethod o.2.2.2.1.1) && decide (o.2.2.2.1.1.name = "<init>") && decide (o.2.2.2.1.2.2.2 = none)
    | 1 => inT ps 0 (.methodLink mi.1.cls i objectInit) && inT ps 1 (.instanceMethod objectInit)
    | _ => false)
  | .tableswitch dflt lo hi offs => decide ((pc : Int) + dflt = (o.1.1 : Int)) && o.2.2.2.2.all (fun q => decide (lo ≤ q.1.toInt) && decide (q.1.toInt ≤ hi) && (match offs[(q.1.toInt - lo).toNat]? with | some f => decide ((pc : Int) + f = (q.2 : Int)) | none => false)) && (List.range (hi - lo + 1).toNat).all (fun i => o.2.2.2.2.any (fun q => decide (q.1.toInt = lo + (i : Int))))
  | .lookupswitch dflt ps => decide ((pc : Int) + dflt = (o.1.1 : Int)) && (ps.toList.zip (ps.toList.drop 1)).all (fun (a, next) => a.1 < next.1) && o.2.2.2.2.all (fun q => decide ((pc : Int) + Op.lookupswitch.offset ps.toList dflt q.1.toInt = (q.2 : Int))) && ps.toList.all (fun r => o.2.2.2.2.any (fun q => decide (q.1.toInt = r.1)))
  | _ => false
def okI (mi : MI) (pc : Nat) (q : IT) : Bool := decide (decode mi.2.1 pc = .ok (q.1, q.2.1)) && okL mi pc q.1 q.2.1 q.2.2.1 q.2.2.2
def okB (mi : MI) : Nat → List IT → Nat → Bool
  | pc, [], pe => decide (pc = pe)
  | pc, q :: t, pe => okI mi pc q && okB mi (pc + q.2.1) t pe
theorem st_split {st : List Value} {nA : Nat} {v : Value} {r : List Value} (hpos : 0 < nA) (hd : st.drop (nA - 1) = v :: r) : (st.take nA).reverse = v :: (st.take (nA - 1)).reverse ∧ st.drop nA = r ∧ st = (st.take (nA - 1)).reverse.reverse ++ v :: r ∧ ((st.take (nA - 1)).reverse).length = nA - 1 := by
  obtain ⟨m, rfl⟩ : ∃ m, nA = m + 1 := ⟨nA - 1, by omega⟩
  rw [Nat.add_sub_cancel] at hd ⊢
  have hst : st = st.take m ++ v :: r := by rw [← hd, List.take_append_drop]
  have hlen : (st.take m).length = m := by
    have h1 := congrArg List.length hd
    rw [List.length_drop, List.length_cons] at h1
    rw [List.length_take]
    omega
  generalize hl : st.take m = l at hst hlen ⊢
  subst hst
  subst hlen
  refine ⟨?_, ?_, by rw [List.reverse_reverse], by rw [List.length_reverse]⟩
  · rw [List.take_append, Nat.add_sub_cancel_left, List.take_of_length_le (by omega)]
    simp
  · rw [List.drop_append, Nat.add_sub_cancel_left, List.drop_of_length_le (by omega)]
    simp
theorem go_callV' {x : XT} {pc idx nA d mc ms c : Nat} {mi : MI} {q : vw_C} {st : List Value} {ls : List (Option Value)} {h : AH} {Q : Option Value → AH → Prop} (hd : decode x.2.1.2.1 pc = .ok (.invokevirtual idx, 3)) (hw : cwd x.2.1.1.cls idx mi (nA - 1)) (hl0 : Cond.methodLink x.2.1.1.cls idx mi.1 ∈ ktb) (hi : Cond.instanceMethod mi.1 ∈ ktb) (hse : Cond.selects mi.1.cls mi.1 mi.1 ∈ ktb) (hq : kcl[c]? = some q) (hqn : q.1 = mi.1.cls) (hpos : 0 < nA) (hrec : e_recv x c h.2.2.1 (st.drop (nA - 1)))
    (hM : Cn x.1 mi d mc ms (st.take nA).reverse h Q) (hdd : d < x.2.2.1) (hc : h.1 + mc ≤ x.2.2.2.1 + x.2.2.2.2.2.1) (hs : h.2.1 + ms ≤ x.2.2.2.2.1 + x.2.2.2.2.2.2.1) (hr : rs (st.drop nA) ≤ 8)
    (kk : ∀ (r : Option Value) (h' : AH), Q r h' → h'.1 = h.1 + mc → h'.2.1 = h.2.1 + ms → Go x (pc + 3) ls (r.toList ++ st.drop nA) h') : Go x pc ls st h := by
  cases hdr : st.drop (nA - 1) with
  | nil => rw [hdr] at hrec; exact hrec.elim
  | cons v r =>
    rw [hdr] at hrec
    cases v with
    | ref a =>
      obtain ⟨k, rfl, hk⟩ := hrec
      obtain ⟨e1, e2, e3, e4⟩ := st_split hpos hdr
      rw [e1] at hM
      rw [e2] at hr kk
      rw [e3]
      exact go_callV hd hw hl0 hi hse hq hqn hk e4 hM hdd hc hs hr kk
    | _ => exact hrec.elim
theorem go_callI' {x : XT} {pc idx nA : Nat} {mi : MI} {st : List Value} {ls : List (Option Value)} {h : AH} {F : FT} (hd : decode x.2.1.2.1 pc = .ok (.invokespecial idx, 3)) (hw : cwd x.2.1.1.cls idx mi (nA - 1)) {ps : List Nat} (hl0 : inT ps 1 (.methodLink x.2.1.1.cls idx mi.1) = true ∨ hosts.any (fun h => decide (Cond.methodLinkNest x.2.1.1.cls idx mi.1 h ∈ knst)) = true) (hi : Cond.instanceMethod mi.1 ∈ ktb) (hnm : mi.1.name = "<init>") (hret : mi.2.2.2 = none) (hpos : 0 < nA)
    (hw1 : match st.drop (nA - 1) with
      | .ref _ :: _ => e_call x mi nA F ls st h
      | _ => False) (hF : ∀ ls st h, F ls st h → Go x (pc + 3) ls st h) : Go x pc ls st h := by
  cases hdr : st.drop (nA - 1) with
  | nil => rw [hdr] at hw1; exact hw1.elim
  | cons v r =>
    rw [hdr] at hw1
    cases v with
    | ref a =>
      obtain ⟨d, mc, ms, Q, hle, hM, hdd, hc, hs, hr, kk⟩ := hw1
      obtain ⟨e1, e2, e3, e4⟩ := st_split hpos hdr
      rw [e1] at hM
      rw [e2] at hr kk
      rw [e3]
      rcases hl0 with hl0 | hl0
      · exact go_callI hd hw (inT_ok hl0) hi hnm hret e4 hM hdd hc hs hr (fun r h' a b c => hF _ _ _ (kk r h' a b c))
      · obtain ⟨host, -, hh⟩ := List.any_eq_true.mp hl0
        exact go_callIN hd hw (of_decide_eq_true hh) hi hnm hret e4 hM hdd hc hs hr (fun r h' a b c => hF _ _ _ (kk r h' a b c))
    | _ => exact hw1.elim
theorem e_sw_mono {f f' : Nat → Prop} {v : Int32} {d : Nat} (hm : ∀ t, f t → f' t) : ∀ (cs : List (Int32 × Nat)), e_sw cs d v f → e_sw cs d v f'
  | [], h => hm _ h
  | _ :: r, h => ⟨fun e => hm _ (h.1 e), fun e => e_sw_mono hm r (h.2 e)⟩
set_option maxHeartbeats 4000000 in
theorem wp1_ok {x : XT} {i : Instr} {o : LK} {ps : List Nat} {F : FT} {K : KT} {pc len : Nat} {ls : List (Option Value)} {st : List Value} {h : AH} (hd : decode x.2.1.2.1 pc = .ok (i, len)) (hok : okL x.2.1 pc i len o ps = true) (hF : ∀ ls st h, F ls st h → Go x (pc + len) ls st h) (hK : ∀ t ls st h, K t ls st h → Go x t ls st h) (hw : wp1 x i o F K ls st h) : Go x pc ls st h := by
  cases i with
  | iconst n =>
    simp only [okL, Bool.and_eq_true, decide_eq_true_eq] at hok
    obtain ⟨rfl, hv⟩ := hok
    exact go_iconst hd hv (hF _ _ _ hw)
  | bipush n =>
    simp only [okL, Bool.and_eq_true, decide_eq_true_eq] at hok
    obtain ⟨rfl, hv⟩ := hok
    exact go_bipush hd hv (hF _ _ _ hw)
  | sipush n =>
    simp only [okL, Bool.and_eq_true, decide_eq_true_eq] at hok
    obtain ⟨rfl, hv⟩ := hok
    exact go_sipush hd hv (hF _ _ _ hw)
  | lconst n =>
    simp only [okL, Bool.and_eq_true, decide_eq_true_eq] at hok
    obtain ⟨rfl, hv⟩ := hok
    exact go_lconst hd hv (hF _ _ _ hw)
  | ldc n =>
    simp only [okL, Bool.and_eq_true, decide_eq_true_eq] at hok
    obtain ⟨rfl, hv⟩ := hok
    exact go_ldc hd (inT_ok hv) (hF _ _ _ hw)
  | ldc2_w n =>
    simp only [okL, Bool.and_eq_true, decide_eq_true_eq] at hok
    obtain ⟨rfl, hv⟩ := hok
    exact go_ldc2 hd (inT_ok hv) (hF _ _ _ hw)
  | aconst_null =>
    simp only [okL, Bool.and_eq_true, decide_eq_true_eq] at hok
    subst hok
    exact go_null hd (hF _ _ _ hw)
  | iload k =>
    simp only [okL, Bool.and_eq_true, decide_eq_true_eq] at hok
    obtain ⟨rfl, hi⟩ := hok
    subst hi
    have hw' : e_i (lgt ls o.1.1) _ := hw
    cases hg : lgt ls o.1.1 with
    | none => rw [hg] at hw'; exact hw'.elim
    | some v =>
      rw [hg] at hw'
      cases v with
      | int q => exact go_iload hd hg (hF _ _ _ hw')
      | _ => exact hw'.elim
  | iload_n k =>
    simp only [okL, Bool.and_eq_true, decide_eq_true_eq] at hok
    obtain ⟨rfl, hi⟩ := hok
    have hw' : e_i (lgt ls o.1.1) _ := hw
    cases hg : lgt ls o.1.1 with
    | none => rw [hg] at hw'; exact hw'.elim
    | some v =>
      rw [hg] at hw'
      cases v with
      | int q => exact go_iload_n hd hi hg (hF _ _ _ hw')
      | _ => exact hw'.elim
  | lload k =>
    simp only [okL, Bool.and_eq_true, decide_eq_true_eq] at hok
    obtain ⟨rfl, hi⟩ := hok
    subst hi
    have hw' : e_l (lgt ls o.1.1) _ := hw
    cases hg : lgt ls o.1.1 with
    | none => rw [hg] at hw'; exact hw'.elim
    | some v =>
      rw [hg] at hw'
      cases v with
      | long q => exact go_lload hd hg (hF _ _ _ hw')
      | _ => exact hw'.elim
  | lload_n k =>
    simp only [okL, Bool.and_eq_true, decide_eq_true_eq] at hok
    obtain ⟨rfl, hi⟩ := hok
    have hw' : e_l (lgt ls o.1.1) _ := hw
    cases hg : lgt ls o.1.1 with
    | none => rw [hg] at hw'; exact hw'.elim
    | some v =>
      rw [hg] at hw'
      cases v with
      | long q => exact go_lload_n hd hi hg (hF _ _ _ hw')
      | _ => exact hw'.elim
  | aload k =>
    simp only [okL, Bool.and_eq_true, decide_eq_true_eq] at hok
    obtain ⟨rfl, hi⟩ := hok
    subst hi
    have hw' : e_a (lgt ls o.1.1) (fun v => F ls (v :: st) h) := hw
    cases hg : lgt ls o.1.1 with
    | none => rw [hg] at hw'; exact hw'.elim
    | some v =>
      rw [hg] at hw'
      cases v with
      | ref q => exact go_aload hd hg (hF _ _ _ hw')
      | null => exact go_aloadN hd hg (hF _ _ _ hw')
      | _ => exact hw'.elim
  | aload_n k =>
    simp only [okL, Bool.and_eq_true, decide_eq_true_eq] at hok
    obtain ⟨rfl, hi⟩ := hok
    have hw' : e_a (lgt ls o.1.1) (fun v => F ls (v :: st) h) := hw
    cases hg : lgt ls o.1.1 with
    | none => rw [hg] at hw'; exact hw'.elim
    | some v =>
      rw [hg] at hw'
      cases v with
      | ref q => exact go_aload_n hd hi hg (hF _ _ _ hw')
      | null => exact go_aload_nN hd hi hg (hF _ _ _ hw')
      | _ => exact hw'.elim
  | istore k =>
    simp only [okL, Bool.and_eq_true, decide_eq_true_eq] at hok
    obtain ⟨⟨rfl, hi⟩, hi2⟩ := hok
    subst hi
    match st, hw with
    | .int v :: r, hw => exact go_istore hd hi2 (hF _ _ _ hw)
  | istore_n k =>
    simp only [okL, Bool.and_eq_true, decide_eq_true_eq] at hok
    obtain ⟨⟨rfl, hi⟩, hi2⟩ := hok
    match st, hw with
    | .int v :: r, hw => exact go_istore_n hd hi hi2 (hF _ _ _ hw)
  | lstore k =>
    simp only [okL, Bool.and_eq_true, decide_eq_true_eq] at hok
    obtain ⟨⟨rfl, hi⟩, hi2⟩ := hok
    subst hi
    match st, hw with
    | .long v :: r, hw => exact go_lstore hd hi2 (hF _ _ _ hw)
  | lstore_n k =>
    simp only [okL, Bool.and_eq_true, decide_eq_true_eq] at hok
    obtain ⟨⟨rfl, hi⟩, hi2⟩ := hok
    match st, hw with
    | .long v :: r, hw => exact go_lstore_n hd hi hi2 (hF _ _ _ hw)
  | astore k =>
    simp only [okL, Bool.and_eq_true, decide_eq_true_eq] at hok
    obtain ⟨⟨rfl, hi⟩, hi2⟩ := hok
    subst hi
    match st, hw with
    | .ref v :: r, hw => exact go_astore hd hi2 (hF _ _ _ hw)
    | .null :: r, hw => exact go_astoreN hd hi2 (hF _ _ _ hw)
  | astore_n k =>
    simp only [okL, Bool.and_eq_true, decide_eq_true_eq] at hok
    obtain ⟨⟨rfl, hi⟩, hi2⟩ := hok
    match st, hw with
    | .ref v :: r, hw => exact go_astore_n hd hi hi2 (hF _ _ _ hw)
    | .null :: r, hw => exact go_astore_nN hd hi hi2 (hF _ _ _ hw)
  | iinc k n =>
    simp only [okL, Bool.and_eq_true, decide_eq_true_eq] at hok
    obtain ⟨⟨⟨rfl, hi⟩, hv⟩, hi2⟩ := hok
    subst hi
    have hw' : e_i (lgt ls o.1.1) _ := hw
    cases hg : lgt ls o.1.1 with
    | none => rw [hg] at hw'; exact hw'.elim
    | some v =>
      rw [hg] at hw'
      cases v with
      | int q => exact go_iinc hd hg hv hi2 (hF _ _ _ hw')
      | _ => exact hw'.elim
  | iadd =>
    simp only [okL, Bool.and_eq_true, decide_eq_true_eq] at hok
    subst hok
    match st, hw with
    | .int b :: .int a :: r, hw => exact go_iadd hd (hF _ _ _ hw)
  | isub =>
    simp only [okL, Bool.and_eq_true, decide_eq_true_eq] at hok
    subst hok
    match st, hw with
    | .int b :: .int a :: r, hw => exact go_isub hd (hF _ _ _ hw)
  | imul =>
    simp only [okL, Bool.and_eq_true, decide_eq_true_eq] at hok
    subst hok
    match st, hw with
    | .int b :: .int a :: r, hw => exact go_imul hd (hF _ _ _ hw)
  | iand =>
    simp only [okL, Bool.and_eq_true, decide_eq_true_eq] at hok
    subst hok
    match st, hw with
    | .int b :: .int a :: r, hw => exact go_iand hd (hF _ _ _ hw)
  | idiv =>
    simp only [okL, Bool.and_eq_true, decide_eq_true_eq] at hok
    subst hok
    match st, hw with
    | .int b :: .int a :: r, hw => exact go_idiv hd hw.1 (hF _ _ _ hw.2)
  | irem =>
    simp only [okL, Bool.and_eq_true, decide_eq_true_eq] at hok
    subst hok
    match st, hw with
    | .int b :: .int a :: r, hw => exact go_irem hd hw.1 (hF _ _ _ hw.2)
  | ineg =>
    simp only [okL, Bool.and_eq_true, decide_eq_true_eq] at hok
    subst hok
    match st, hw with
    | .int a :: r, hw => exact go_ineg hd (hF _ _ _ hw)
  | ladd =>
    simp only [okL, Bool.and_eq_true, decide_eq_true_eq] at hok
    subst hok
    match st, hw with
    | .long b :: .long a :: r, hw => exact go_ladd hd (hF _ _ _ hw)
  | lsub =>
    simp only [okL, Bool.and_eq_true, decide_eq_true_eq] at hok
    subst hok
    match st, hw with
    | .long b :: .long a :: r, hw => exact go_lsub hd (hF _ _ _ hw)
  | lmul =>
    simp only [okL, Bool.and_eq_true, decide_eq_true_eq] at hok
    subst hok
    match st, hw with
    | .long b :: .long a :: r, hw => exact go_lmul hd (hF _ _ _ hw)
  | land =>
    simp only [okL, Bool.and_eq_true, decide_eq_true_eq] at hok
    subst hok
    match st, hw with
    | .long b :: .long a :: r, hw => exact go_land hd (hF _ _ _ hw)
  | ldiv =>
    simp only [okL, Bool.and_eq_true, decide_eq_true_eq] at hok
    subst hok
    match st, hw with
    | .long b :: .long a :: r, hw => exact go_ldiv hd hw.1 (hF _ _ _ hw.2)
  | lrem =>
    simp only [okL, Bool.and_eq_true, decide_eq_true_eq] at hok
    subst hok
    match st, hw with
    | .long b :: .long a :: r, hw => exact go_lrem hd hw.1 (hF _ _ _ hw.2)
  | i2l =>
    simp only [okL, Bool.and_eq_true, decide_eq_true_eq] at hok
    subst hok
    match st, hw with
    | .int a :: r, hw => exact go_i2l hd (hF _ _ _ hw)
  | l2i =>
    simp only [okL, Bool.and_eq_true, decide_eq_true_eq] at hok
    subst hok
    match st, hw with
    | .long a :: r, hw => exact go_l2i hd (hF _ _ _ hw)
  | dup =>
    simp only [okL, Bool.and_eq_true, decide_eq_true_eq] at hok
    subst hok
    match st, hw with
    | a :: r, hw => exact go_dup hd hw.1 (hF _ _ _ hw.2)
  | pop =>
    simp only [okL, Bool.and_eq_true, decide_eq_true_eq] at hok
    subst hok
    match st, hw with
    | a :: r, hw => exact go_pop hd hw.1 (hF _ _ _ hw.2)
  | dup2 =>
    simp only [okL, Bool.and_eq_true, decide_eq_true_eq] at hok
    subst hok
    match st, hw with
    | a :: b :: r, hw => exact go_dup2 hd hw.1 hw.2.1 (hF _ _ _ hw.2.2)
  | dup_x1 =>
    simp only [okL, Bool.and_eq_true, decide_eq_true_eq] at hok
    subst hok
    match st, hw with
    | a :: b :: r, hw => exact go_dup_x1 hd hw.1 hw.2.1 (hF _ _ _ hw.2.2)
  | dup_x2 =>
    simp only [okL, Bool.and_eq_true, decide_eq_true_eq] at hok
    subst hok
    match st, hw with
    | a :: b :: c :: r, hw => exact go_dup_x2 hd hw.1 hw.2.1 hw.2.2.1 (hF _ _ _ hw.2.2.2)
  | goto off =>
    simp only [okL, Bool.and_eq_true, decide_eq_true_eq] at hok
    obtain ⟨rfl, ht⟩ := hok
    exact go_goto hd ht (hK _ _ _ _ hw)
  | ifCond c off =>
    simp only [okL, Bool.and_eq_true, decide_eq_true_eq] at hok
    obtain ⟨rfl, ht⟩ := hok
    cases c with
    | eq =>
      match st, hw with
      | .int a :: r, hw => exact go_if_eq hd ht ⟨fun q => hK _ _ _ _ (hw.1 q), fun q => hF _ _ _ (hw.2 q)⟩
    | ne =>
      match st, hw with
      | .int a :: r, hw => exact go_if_ne hd ht ⟨fun q => hF _ _ _ (hw.1 q), fun q => hK _ _ _ _ (hw.2 q)⟩
    | lt =>
      match st, hw with
      | .int a :: r, hw => exact go_if_lt hd ht ⟨fun q => hK _ _ _ _ (hw.1 q), fun q => hF _ _ _ (hw.2 q)⟩
    | ge =>
      match st, hw with
      | .int a :: r, hw => exact go_if_ge hd ht ⟨fun q => hF _ _ _ (hw.1 q), fun q => hK _ _ _ _ (hw.2 q)⟩
    | gt =>
      match st, hw with
      | .int a :: r, hw => exact go_if_gt hd ht ⟨fun q => hK _ _ _ _ (hw.1 q), fun q => hF _ _ _ (hw.2 q)⟩
    | le =>
      match st, hw with
      | .int a :: r, hw => exact go_if_le hd ht ⟨fun q => hF _ _ _ (hw.1 q), fun q => hK _ _ _ _ (hw.2 q)⟩
  | if_icmp c off =>
    simp only [okL, Bool.and_eq_true, decide_eq_true_eq] at hok
    obtain ⟨rfl, ht⟩ := hok
    cases c with
    | eq =>
      match st, hw with
      | .int b :: .int a :: r, hw => exact go_icmp_eq hd ht ⟨fun q => hK _ _ _ _ (hw.1 q), fun q => hF _ _ _ (hw.2 q)⟩
    | ne =>
      match st, hw with
      | .int b :: .int a :: r, hw => exact go_icmp_ne hd ht ⟨fun q => hF _ _ _ (hw.1 q), fun q => hK _ _ _ _ (hw.2 q)⟩
    | lt =>
      match st, hw with
      | .int b :: .int a :: r, hw => exact go_icmp_lt hd ht ⟨fun q => hK _ _ _ _ (hw.1 q), fun q => hF _ _ _ (hw.2 q)⟩
    | ge =>
      match st, hw with
      | .int b :: .int a :: r, hw => exact go_icmp_ge hd ht ⟨fun q => hF _ _ _ (hw.1 q), fun q => hK _ _ _ _ (hw.2 q)⟩
    | gt =>
      match st, hw with
      | .int b :: .int a :: r, hw => exact go_icmp_gt hd ht ⟨fun q => hK _ _ _ _ (hw.1 q), fun q => hF _ _ _ (hw.2 q)⟩
    | le =>
      match st, hw with
      | .int b :: .int a :: r, hw => exact go_icmp_le hd ht ⟨fun q => hF _ _ _ (hw.1 q), fun q => hK _ _ _ _ (hw.2 q)⟩
  | ifnull off =>
    simp only [okL, Bool.and_eq_true, decide_eq_true_eq] at hok
    obtain ⟨rfl, ht⟩ := hok
    match st, hw with
    | .null :: r, hw => exact go_ifnullN hd ht (hK _ _ _ _ hw)
    | .ref q :: r, hw => exact go_ifnull hd (hF _ _ _ hw)
  | ifnonnull off =>
    simp only [okL, Bool.and_eq_true, decide_eq_true_eq] at hok
    obtain ⟨rfl, ht⟩ := hok
    match st, hw with
    | .null :: r, hw => exact go_ifnonnullN hd (hF _ _ _ hw)
    | .ref q :: r, hw => exact go_ifnonnull hd ht (hK _ _ _ _ hw)
  | getfield idx =>
    simp only [okL, Bool.and_eq_true, decide_eq_true_eq] at hok
    obtain ⟨rfl, hf⟩ := hok
    obtain ⟨q, hq, hj, hco, hwd⟩ := okF_ok hf
    match st, hw with
    | .ref a :: r, hw =>
      obtain ⟨k, rfl, hs, hw⟩ := hw
      rw [hco] at hw
      exact go_getf hd hq hj hwd hs (hF _ _ _ hw)
  | putfield idx =>
    simp only [okL, Bool.and_eq_true, decide_eq_true_eq] at hok
    obtain ⟨⟨rfl, hf⟩, hp⟩ := hok
    obtain ⟨q, hq, hj, hco, hwd⟩ := okF_ok hf
    obtain ⟨hfin, hty⟩ := okP_ok hq hp
    obtain ⟨n, z, S, I, J, R0⟩ := h
    match st, hw with
    | .int v :: .ref a :: r, hw =>
      obtain ⟨h0, k, rfl, hs, hw⟩ := hw
      rw [h0] at hco
      have ht : ktyp o.1.1 o.1.2.1 = .int := by
        rcases hty with e | e | ⟨C, e⟩ | ⟨t, e⟩ <;> rw [e] at hco <;> first | exact e | cases hco
      exact go_putf hd hq hj hwd hs hfin (by rw [ht]; rfl) (by rw [ht]; rfl) (fun a ha => va_up_ne _ _ ha) (fun a ha => rfl) (fun a ha => rfl) (fun i hi => cval_upI (fun e => by rw [e, ht]; rfl)) (hF _ _ _ hw)
    | .long v :: .ref a :: r, hw =>
      obtain ⟨h0, k, rfl, hs, hw⟩ := hw
      rw [h0] at hco
      have ht : ktyp o.1.1 o.1.2.1 = .long := by
        rcases hty with e | e | ⟨C, e⟩ | ⟨t, e⟩ <;> rw [e] at hco <;> first | exact e | cases hco
      exact go_putf hd hq hj hwd hs hfin (by rw [ht]; rfl) (by rw [ht]; rfl) (fun a ha => rfl) (fun a ha => va_up_ne _ _ ha) (fun a ha => rfl) (fun i hi => cval_upJ (fun e => by rw [e, ht]; rfl)) (hF _ _ _ hw)
    | .ref u :: .ref a :: r, hw =>
      obtain ⟨h0, k, q', rfl, rfl, hs, hw⟩ := hw
      rw [h0] at hco
      have ht : (∃ C, ktyp o.1.1 o.1.2.1 = .object C) ∨ ∃ t, ktyp o.1.1 o.1.2.1 = .array t := by
        rcases hty with e | e | ⟨C, e⟩ | ⟨t, e⟩
        · rw [e] at hco; cases hco
        · rw [e] at hco; cases hco
        · exact Or.inl ⟨C, e⟩
        · exact Or.inr ⟨t, e⟩
      exact go_putf hd hq hj hwd hs hfin (by rcases ht with ⟨C, e⟩ | ⟨t, e⟩ <;> rw [e] <;> rfl) (by rcases ht with ⟨C, e⟩ | ⟨t, e⟩ <;> rw [e] <;> rfl) (fun a ha => rfl) (fun a ha => rfl) (fun a ha => va_up_ne _ _ ha) (fun i hi => cval_upR (v := some q') (fun e => by rw [e]; exact hco.symm)) (hF _ _ _ hw)
  | iaload =>
    simp only [okL, Bool.and_eq_true, decide_eq_true_eq] at hok
    subst hok
    match st, hw with
    | .int j :: .ref a :: r, hw =>
      have hw' : if o.1.1 = 0 then _ else _ := hw
      by_cases h0 : o.1.1 = 0
      · rw [if_pos h0] at hw'
        obtain ⟨k, rfl, hs, hin, hw⟩ := hw'
        exact go_iald (len := (h.2.2.1 k).2) hd (by rw [← hs]) hin (hF _ _ _ hw)
      · rw [if_neg h0] at hw'
        obtain ⟨rfl, hin, hw⟩ := hw'
        exact go_sld hd hin (hF _ _ _ hw)
  | iastore =>
    simp only [okL, Bool.and_eq_true, decide_eq_true_eq] at hok
    subst hok
    obtain ⟨n, z, S, I, J, R0⟩ := h
    match st, hw with
    | .int v :: .int j :: .ref a :: r, hw =>
      obtain ⟨k, rfl, hs, hin, hw⟩ := hw
      exact go_iast (len := (S k).2) hd (by rw [← hs]) hin (hF _ _ _ hw)
  | baload =>
    simp only [okL, Bool.and_eq_true, decide_eq_true_eq] at hok
    subst hok
    match st, hw with
    | .int j :: .ref a :: r, hw =>
      obtain ⟨k, rfl, hs, hin, hw⟩ := hw
      exact go_bald (len := (h.2.2.1 k).2) hd (by rw [← hs]) hin (hF _ _ _ hw)
  | bastore =>
    simp only [okL, Bool.and_eq_true, decide_eq_true_eq] at hok
    subst hok
    obtain ⟨n, z, S, I, J, R0⟩ := h
    match st, hw with
    | .int v :: .int j :: .ref a :: r, hw =>
      obtain ⟨k, rfl, hs, hin, hna, hw⟩ := hw
      exact go_bast (len := (S k).2) hd (by rw [← hs]) hin hna (hF _ _ _ hw)
  | aaload =>
    simp only [okL, Bool.and_eq_true, decide_eq_true_eq] at hok
    obtain ⟨rfl, hr⟩ := hok
    match st, hw with
    | .int j :: .ref a :: r, hw =>
      obtain ⟨k, rfl, hs, hin, hw⟩ := hw
      exact go_aald (t := o.1.1) (len := (h.2.2.1 k).2) hd (by rw [← hs]) hr hin (hF _ _ _ hw)
  | aastore =>
    simp only [okL, Bool.and_eq_true, decide_eq_true_eq] at hok
    obtain ⟨rfl, hr⟩ := hok
    obtain ⟨n, z, S, I, J, R0⟩ := h
    cases hq : kcl[o.1.2.1]? with
    | none => rw [hq] at hr; cases hr
    | some q =>
      rw [hq] at hr
      have hk := of_decide_eq_true hr
      match st, hw with
      | .ref u :: .int j :: .ref a :: r, hw =>
        obtain ⟨k, q', rfl, rfl, hs, hv, hin, hw⟩ := hw
        exact go_aast (t := o.1.1) (len := (S k).2) hd (by rw [← hs]) hq hk hv hin (hF _ _ _ hw)
  | arraylength =>
    simp only [okL, Bool.and_eq_true, decide_eq_true_eq] at hok
    subst hok
    match st, hw with
    | .ref a :: r, hw =>
      have hw' : if o.1.1 = 0 then _ else _ := hw
      by_cases h0 : o.1.1 = 0
      · rw [if_pos h0] at hw'
        obtain ⟨k, rfl, hs, hw⟩ := hw'
        obtain ⟨t, ht⟩ := Nat.exists_eq_succ_of_ne_zero hs
        exact go_alen (t := t) (len := (h.2.2.1 k).2) hd (by rw [← Nat.succ_eq_add_one, ← ht]) (hF _ _ _ hw)
      · rw [if_neg h0] at hw'
        obtain ⟨rfl, hw2⟩ := hw'
        exact go_slen hd (hF _ _ _ hw2)
  | newarray t =>
    simp only [okL, Bool.and_eq_true, decide_eq_true_eq] at hok
    simp only [Bool.or_eq_true, decide_eq_true_eq] at hok
    obtain ⟨⟨⟨⟨rfl, hty⟩, hwd⟩, hk0⟩, hpr⟩ := hok
    obtain ⟨n, z, S, I, J, R0⟩ := h
    match st, hw with
    | .int v :: r, hw =>
      obtain ⟨h0, h1, hc, hs, hw⟩ := hw
      exact go_newa (t := o.1.1) hd (inT_ok hwd) hk0 hty hpr h0 h1 hc hs (hF _ _ _ hw)
  | anewarray idx =>
    simp only [okL, Bool.and_eq_true, decide_eq_true_eq] at hok
    obtain ⟨⟨rfl, hk0⟩, hm⟩ := hok
    obtain ⟨n, z, S, I, J, R0⟩ := h
    cases hk : kak o.1.1 with
    | object C =>
      rw [hk] at hm
      simp only [Bool.and_eq_true, decide_eq_true_eq] at hm
      match st, hw with
      | .int v :: r, hw =>
        obtain ⟨h0, h1, hc, hs, hw⟩ := hw
        exact go_newq hd (inT_ok hm.1) hm.2 hk0 hk h0 h1 hc hs (hF _ _ _ hw)
    | _ => rw [hk] at hm; cases hm
  | new idx =>
    simp only [okL, Bool.and_eq_true, decide_eq_true_eq] at hok
    obtain ⟨rfl, hm⟩ := hok
    obtain ⟨n, z, S, I, J, R0⟩ := h
    cases hq : kcl[o.1.1]? with
    | none => rw [hq] at hm; cases hm
    | some q =>
      rw [hq] at hm
      simp only [Bool.and_eq_true, decide_eq_true_eq] at hm
      obtain ⟨hc, hs, hw⟩ := hw
      rw [hm.2] at hs hw
      exact go_new hd hq (inT_ok hm.1.1.1) (inT_ok hm.1.1.2) (inT_ok hm.1.2) hc hs (hF _ _ _ hw)
  | invokestatic idx =>
    simp only [okL, Bool.and_eq_true, decide_eq_true_eq] at hok
    obtain ⟨rfl, hm⟩ := hok
    obtain ⟨⟨o1, o2, o3⟩, o4, o5, mi, cs⟩ := o
    match o3, hm, hw with
    | 0, hm, hw =>
      simp only [Bool.and_eq_true] at hm
      obtain ⟨d, mc, ms, Q, hle, hM, hdd, hc, hs, hr, kk⟩ := hw
      have e : st = (st.take o1).reverse.reverse ++ st.drop o1 := by rw [List.reverse_reverse, List.take_append_drop]
      have hle' : o1 ≤ st.length := hle
      have hlen : (st.take o1).reverse.length = o1 := by rw [List.length_reverse, List.length_take]; omega
      rw [e]
      exact go_callS hd (okC_ok hm.1.1) (inT_ok hm.1.2) (inT_ok hm.2) hlen hM hdd hc hs hr (fun r h' a b c => hF _ _ _ (kk r h' a b c))
    | 1, hm, hw =>
      simp only [Bool.and_eq_true] at hm
      match st, hw with
      | .int b :: .int a :: r, hw => exact go_max hd (inT_ok hm.1.1) (inT_ok hm.1.2) (inT_ok hm.2) kco_max hw.1 hw.2.1 (hF _ _ _ hw.2.2)
    | 2, hm, hw =>
      simp only [Bool.and_eq_true] at hm
      match st, hw with
      | .int b :: .int a :: r, hw => exact go_min hd (inT_ok hm.1.1) (inT_ok hm.1.2) (inT_ok hm.2) kco_min hw.1 hw.2.1 (hF _ _ _ hw.2.2)
    | 3, hm, hw =>
      simp only [Bool.and_eq_true] at hm
      obtain ⟨n, z, S, I, J, R0⟩ := h
      match st, hw with
      | .int cnt :: .int dp :: .ref a :: .int sp :: .ref b :: r, hw =>
        obtain ⟨k, k0, rfl, rfl, s1, s0, h1, h2, h3, h4, h5, h6, h7, hw⟩ := hw
        exact go_copy (len := (S k).2) (len0 := (S k0).2) hd (inT_ok hm.1.1.1) (inT_ok hm.1.1.2) (inT_ok hm.1.2) (inT_ok hm.2) (by rw [← s1]) (by rw [← s0]) h1 h2 h3 h4 h5 h6 h7 (hF _ _ _ hw)
  | invokevirtual idx =>
    simp only [okL, Bool.and_eq_true, decide_eq_true_eq] at hok
    obtain ⟨⟨⟨⟨⟨⟨rfl, hpos⟩, hcc⟩, hl0⟩, hi⟩, hse⟩, hm⟩ := hok
    cases hq : kcl[o.1.2.1]? with
    | none => rw [hq] at hm; cases hm
    | some q =>
      rw [hq] at hm
      have hqn := of_decide_eq_true hm
      obtain ⟨hrec, d, mc, ms, Q, hle, hM, hdd, hc, hs, hr, kk⟩ := hw
      exact go_callV' hd (okC_ok hcc) (inT_ok hl0) (inT_ok hi) (inT_ok hse) hq hqn hpos hrec hM hdd hc hs hr (fun r h' a b c => hF _ _ _ (kk r h' a b c))
  | invokespecial idx =>
    simp only [okL, Bool.and_eq_true, decide_eq_true_eq] at hok
    obtain ⟨rfl, hm⟩ := hok
    obtain ⟨⟨o1, o2, o3⟩, o4, o5, mi, cs⟩ := o
    match o3, hm, hw with
    | 0, hm, hw =>
      simp only [Bool.and_eq_true, Bool.or_eq_true, decide_eq_true_eq] at hm
      obtain ⟨⟨⟨⟨⟨hpos, hcc⟩, hl0⟩, hi⟩, hnm⟩, hret⟩ := hm
      exact go_callI' hd (okC_ok hcc) hl0 (inT_ok hi) hnm hret hpos hw hF
    | 1, hm, hw =>
      simp only [Bool.and_eq_true] at hm
      match st, hw with
      | .ref a :: r, hw => exact go_objInit hd (inT_ok hm.1) (inT_ok hm.2) kco_obj hw.1 hw.2.1 (hF _ _ _ hw.2.2)
  | tableswitch dflt lo hi offs =>
    simp only [okL, Bool.and_eq_true] at hok
    obtain ⟨⟨h1, h2⟩, h3⟩ := hok
    match st, hw with
    | .int v :: r, hw => exact go_table hd (of_decide_eq_true h1) h2 h3 (e_sw_mono (fun t => hK t _ _ _) _ hw)
  | lookupswitch dflt ps =>
    simp only [okL, Bool.and_eq_true] at hok
    obtain ⟨⟨⟨h1, h2⟩, h3⟩, h4⟩ := hok
    match st, hw with
    | .int v :: r, hw => exact go_lookup hd (of_decide_eq_true h1) h2 h3 h4 (e_sw_mono (fun t => hK t _ _ _) _ hw)
  | ireturn =>
    simp only [okL, Bool.and_eq_true, decide_eq_true_eq] at hok
    subst hok
    match st, hw with
    | [.int v], hw =>
      cases hrt : x.2.1.2.2.2 with
      | none => simp only [wp1, hrt] at hw
      | some rt =>
        simp only [wp1, hrt] at hw
        exact go_iret hd hrt hw.1 hw.2
  | lreturn =>
    simp only [okL, Bool.and_eq_true, decide_eq_true_eq] at hok
    subst hok
    match st, hw with
    | [.long v], hw => exact go_lret hd hw.1 hw.2
  | return_ =>
    simp only [okL, Bool.and_eq_true, decide_eq_true_eq] at hok
    subst hok
    match st, hw with
    | [], hw => exact go_vret hd hw.1 hw.2
  | _ => exact hw.elim
theorem wp_ok {x : XT} {K : KT} (hK : ∀ t ls st h, K t ls st h → Go x t ls st h) : ∀ (is : List IT) (pc pe : Nat) (ls : List (Option Value)) (st : List Value) (h : AH), okB x.2.1 pc is pe = true → wp x is pe K ls st h → Go x pc ls st h
  | [], pc, pe, ls, st, h, hok, hw => by
    have e : pc = pe := of_decide_eq_true hok
    rw [e]
    exact hK _ _ _ _ hw
  | q :: t, pc, pe, ls, st, h, hok, hw => by
    simp only [okB, okI, Bool.and_eq_true, decide_eq_true_eq] at hok
    exact wp1_ok hok.1.1 hok.1.2 (fun ls st h h1 => wp_ok hK t _ pe ls st h hok.2 h1) hK hw
theorem go_wp {x : XT} {is : List IT} {pc pe : Nat} {ls : List (Option Value)} {st : List Value} {h : AH} (hok : okB x.2.1 pc is pe = true) (hw : wp x is pe (Go x) ls st h) : Go x pc ls st h := wp_ok (fun _ _ _ _ q => q) is pc pe ls st h hok hw
