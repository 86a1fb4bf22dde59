section
-- ===== PART A: goes FIRST, ahead of the names: the tables' words, and 'selects' of the private methods out of them =====
/-- a private method of a class that the tables say can be made, by its rows of tables_1 -/
def lw_okq (q : MethodName × Nat) : Prop := (q.1.cls ≠ "java/lang/invoke/MethodHandle" ∧ q.1.cls ≠ "java/lang/invoke/VarHandle") ∧ Cond.instantiable q.1.cls q.2 ∈ tables_1 ∧ Cond.privateMethod q.1 ∈ tables_1 ∧ Cond.instanceMethod q.1 ∈ tables_1
theorem lw_p0 : lw_okq (⟨"CarSeeds", "isLane", "(I)Z"⟩, 7) := ⟨⟨by decide +kernel, by decide +kernel⟩, List.mem_of_getElem? (i := 11) (by decide +kernel), List.mem_of_getElem? (i := 272) (by decide +kernel), List.mem_of_getElem? (i := 273) (by decide +kernel)⟩
theorem lw_p1 : lw_okq (⟨"CarSeeds$Cars", "draw", "(JI)V"⟩, 13) := ⟨⟨by decide +kernel, by decide +kernel⟩, List.mem_of_getElem? (i := 97) (by decide +kernel), List.mem_of_getElem? (i := 280) (by decide +kernel), List.mem_of_getElem? (i := 281) (by decide +kernel)⟩
theorem lw_p2 : lw_okq (⟨"CarSeeds", "isPlace", "(I)Z"⟩, 7) := ⟨⟨by decide +kernel, by decide +kernel⟩, List.mem_of_getElem? (i := 11) (by decide +kernel), List.mem_of_getElem? (i := 299) (by decide +kernel), List.mem_of_getElem? (i := 300) (by decide +kernel)⟩
theorem lw_p3 : lw_okq (⟨"CarSeeds$Road", "letIn", "(I)V"⟩, 6) := ⟨⟨by decide +kernel, by decide +kernel⟩, List.mem_of_getElem? (i := 26) (by decide +kernel), List.mem_of_getElem? (i := 351) (by decide +kernel), List.mem_of_getElem? (i := 352) (by decide +kernel)⟩
theorem lw_p4 : lw_okq (⟨"CarSeeds$Road", "hasRoom", "(II)Z"⟩, 6) := ⟨⟨by decide +kernel, by decide +kernel⟩, List.mem_of_getElem? (i := 26) (by decide +kernel), List.mem_of_getElem? (i := 355) (by decide +kernel), List.mem_of_getElem? (i := 356) (by decide +kernel)⟩
theorem lw_p5 : lw_okq (⟨"CarSeeds$Things", "isRed", "(II)Z"⟩, 14) := ⟨⟨by decide +kernel, by decide +kernel⟩, List.mem_of_getElem? (i := 32) (by decide +kernel), List.mem_of_getElem? (i := 381) (by decide +kernel), List.mem_of_getElem? (i := 382) (by decide +kernel)⟩
theorem lw_p6 : lw_okq (⟨"CarSeeds$Things", "isClosed", "(III)Z"⟩, 14) := ⟨⟨by decide +kernel, by decide +kernel⟩, List.mem_of_getElem? (i := 32) (by decide +kernel), List.mem_of_getElem? (i := 385) (by decide +kernel), List.mem_of_getElem? (i := 386) (by decide +kernel)⟩
theorem lw_p7 : lw_okq (⟨"CarSeeds$Road", "nearestStop", "(II)I"⟩, 6) := ⟨⟨by decide +kernel, by decide +kernel⟩, List.mem_of_getElem? (i := 26) (by decide +kernel), List.mem_of_getElem? (i := 389) (by decide +kernel), List.mem_of_getElem? (i := 390) (by decide +kernel)⟩
theorem lw_p8 : lw_okq (⟨"CarSeeds$Road", "isServed", "(II)Z"⟩, 6) := ⟨⟨by decide +kernel, by decide +kernel⟩, List.mem_of_getElem? (i := 26) (by decide +kernel), List.mem_of_getElem? (i := 393) (by decide +kernel), List.mem_of_getElem? (i := 394) (by decide +kernel)⟩
theorem lw_p9 : lw_okq (⟨"CarSeeds$Road", "lookAround", "(I)V"⟩, 6) := ⟨⟨by decide +kernel, by decide +kernel⟩, List.mem_of_getElem? (i := 26) (by decide +kernel), List.mem_of_getElem? (i := 401) (by decide +kernel), List.mem_of_getElem? (i := 402) (by decide +kernel)⟩
theorem lw_p10 : lw_okq (⟨"CarSeeds$Road", "isBetter", "(III)Z"⟩, 6) := ⟨⟨by decide +kernel, by decide +kernel⟩, List.mem_of_getElem? (i := 26) (by decide +kernel), List.mem_of_getElem? (i := 409) (by decide +kernel), List.mem_of_getElem? (i := 410) (by decide +kernel)⟩
theorem lw_p11 : lw_okq (⟨"CarSeeds$Road", "isFreeBefore", "(III)Z"⟩, 6) := ⟨⟨by decide +kernel, by decide +kernel⟩, List.mem_of_getElem? (i := 26) (by decide +kernel), List.mem_of_getElem? (i := 413) (by decide +kernel), List.mem_of_getElem? (i := 414) (by decide +kernel)⟩
theorem lw_p12 : lw_okq (⟨"CarSeeds$Road", "isFreeBehind", "(III)Z"⟩, 6) := ⟨⟨by decide +kernel, by decide +kernel⟩, List.mem_of_getElem? (i := 26) (by decide +kernel), List.mem_of_getElem? (i := 417) (by decide +kernel), List.mem_of_getElem? (i := 418) (by decide +kernel)⟩
theorem lw_p13 : lw_okq (⟨"CarSeeds$Road", "changeTo", "(III)V"⟩, 6) := ⟨⟨by decide +kernel, by decide +kernel⟩, List.mem_of_getElem? (i := 26) (by decide +kernel), List.mem_of_getElem? (i := 421) (by decide +kernel), List.mem_of_getElem? (i := 422) (by decide +kernel)⟩
theorem lw_p14 : lw_okq (⟨"CarSeeds$Road", "makeSpeeds", "(I)V"⟩, 6) := ⟨⟨by decide +kernel, by decide +kernel⟩, List.mem_of_getElem? (i := 26) (by decide +kernel), List.mem_of_getElem? (i := 429) (by decide +kernel), List.mem_of_getElem? (i := 430) (by decide +kernel)⟩
theorem lw_p15 : lw_okq (⟨"CarSeeds$Road", "wishedSpeed", "(I)I"⟩, 6) := ⟨⟨by decide +kernel, by decide +kernel⟩, List.mem_of_getElem? (i := 26) (by decide +kernel), List.mem_of_getElem? (i := 433) (by decide +kernel), List.mem_of_getElem? (i := 434) (by decide +kernel)⟩
def lw_privs_1 : List (MethodName × Nat) := [(⟨"CarSeeds", "isLane", "(I)Z"⟩, 7), (⟨"CarSeeds$Cars", "draw", "(JI)V"⟩, 13), (⟨"CarSeeds", "isPlace", "(I)Z"⟩, 7), (⟨"CarSeeds$Road", "letIn", "(I)V"⟩, 6), (⟨"CarSeeds$Road", "hasRoom", "(II)Z"⟩, 6), (⟨"CarSeeds$Things", "isRed", "(II)Z"⟩, 14), (⟨"CarSeeds$Things", "isClosed", "(III)Z"⟩, 14), (⟨"CarSeeds$Road", "nearestStop", "(II)I"⟩, 6), (⟨"CarSeeds$Road", "isServed", "(II)Z"⟩, 6), (⟨"CarSeeds$Road", "lookAround", "(I)V"⟩, 6), (⟨"CarSeeds$Road", "isBetter", "(III)Z"⟩, 6), (⟨"CarSeeds$Road", "isFreeBefore", "(III)Z"⟩, 6), (⟨"CarSeeds$Road", "isFreeBehind", "(III)Z"⟩, 6), (⟨"CarSeeds$Road", "changeTo", "(III)V"⟩, 6), (⟨"CarSeeds$Road", "makeSpeeds", "(I)V"⟩, 6), (⟨"CarSeeds$Road", "wishedSpeed", "(I)I"⟩, 6)]
theorem lw_r1 : ∀ q ∈ lw_privs_1, lw_okq q := List.forall_mem_cons.mpr ⟨lw_p0, List.forall_mem_cons.mpr ⟨lw_p1, List.forall_mem_cons.mpr ⟨lw_p2, List.forall_mem_cons.mpr ⟨lw_p3, List.forall_mem_cons.mpr ⟨lw_p4, List.forall_mem_cons.mpr ⟨lw_p5, List.forall_mem_cons.mpr ⟨lw_p6, List.forall_mem_cons.mpr ⟨lw_p7, List.forall_mem_cons.mpr ⟨lw_p8, List.forall_mem_cons.mpr ⟨lw_p9, List.forall_mem_cons.mpr ⟨lw_p10, List.forall_mem_cons.mpr ⟨lw_p11, List.forall_mem_cons.mpr ⟨lw_p12, List.forall_mem_cons.mpr ⟨lw_p13, List.forall_mem_cons.mpr ⟨lw_p14, List.forall_mem_cons.mpr ⟨lw_p15, fun _ h => absurd h List.not_mem_nil⟩⟩⟩⟩⟩⟩⟩⟩⟩⟩⟩⟩⟩⟩⟩⟩
theorem lw_p16 : lw_okq (⟨"CarSeeds$Road", "moveAll", "(I)V"⟩, 6) := ⟨⟨by decide +kernel, by decide +kernel⟩, List.mem_of_getElem? (i := 26) (by decide +kernel), List.mem_of_getElem? (i := 437) (by decide +kernel), List.mem_of_getElem? (i := 438) (by decide +kernel)⟩
theorem lw_p17 : lw_okq (⟨"CarSeeds$Road", "passLines", "(III)V"⟩, 6) := ⟨⟨by decide +kernel, by decide +kernel⟩, List.mem_of_getElem? (i := 26) (by decide +kernel), List.mem_of_getElem? (i := 441) (by decide +kernel), List.mem_of_getElem? (i := 442) (by decide +kernel)⟩
theorem lw_p18 : lw_okq (⟨"CarSeeds$Road", "standAtStops", "(I)V"⟩, 6) := ⟨⟨by decide +kernel, by decide +kernel⟩, List.mem_of_getElem? (i := 26) (by decide +kernel), List.mem_of_getElem? (i := 445) (by decide +kernel), List.mem_of_getElem? (i := 446) (by decide +kernel)⟩
theorem lw_p19 : lw_okq (⟨"CarSeeds$Road", "letOut", "(I)V"⟩, 6) := ⟨⟨by decide +kernel, by decide +kernel⟩, List.mem_of_getElem? (i := 26) (by decide +kernel), List.mem_of_getElem? (i := 449) (by decide +kernel), List.mem_of_getElem? (i := 450) (by decide +kernel)⟩
theorem lw_p20 : lw_okq (⟨"CarSeeds$Road", "findNearMisses", "(I)V"⟩, 6) := ⟨⟨by decide +kernel, by decide +kernel⟩, List.mem_of_getElem? (i := 26) (by decide +kernel), List.mem_of_getElem? (i := 453) (by decide +kernel), List.mem_of_getElem? (i := 454) (by decide +kernel)⟩
theorem lw_p21 : lw_okq (⟨"CarSeeds", "isCar", "(I)Z"⟩, 7) := ⟨⟨by decide +kernel, by decide +kernel⟩, List.mem_of_getElem? (i := 11) (by decide +kernel), List.mem_of_getElem? (i := 461) (by decide +kernel), List.mem_of_getElem? (i := 462) (by decide +kernel)⟩
theorem lw_p22 : lw_okq (⟨"CarSeeds$Cars", "meet", "(II)Z"⟩, 13) := ⟨⟨by decide +kernel, by decide +kernel⟩, List.mem_of_getElem? (i := 97) (by decide +kernel), List.mem_of_getElem? (i := 508) (by decide +kernel), List.mem_of_getElem? (i := 509) (by decide +kernel)⟩
theorem lw_p23 : lw_okq (⟨"CarSeedsModel", "cars", "()I"⟩, 20) := ⟨⟨by decide +kernel, by decide +kernel⟩, List.mem_of_getElem? (i := 550) (by decide +kernel), List.mem_of_getElem? (i := 626) (by decide +kernel), List.mem_of_getElem? (i := 627) (by decide +kernel)⟩
theorem lw_p24 : lw_okq (⟨"CarSeedsModel", "put", "(III)V"⟩, 20) := ⟨⟨by decide +kernel, by decide +kernel⟩, List.mem_of_getElem? (i := 550) (by decide +kernel), List.mem_of_getElem? (i := 630) (by decide +kernel), List.mem_of_getElem? (i := 631) (by decide +kernel)⟩
theorem lw_p25 : lw_okq (⟨"CarSeedsModel", "isPlace", "(I)Z"⟩, 20) := ⟨⟨by decide +kernel, by decide +kernel⟩, List.mem_of_getElem? (i := 550) (by decide +kernel), List.mem_of_getElem? (i := 643) (by decide +kernel), List.mem_of_getElem? (i := 644) (by decide +kernel)⟩
theorem lw_p26 : lw_okq (⟨"CarSeedsModel", "step", "()V"⟩, 20) := ⟨⟨by decide +kernel, by decide +kernel⟩, List.mem_of_getElem? (i := 550) (by decide +kernel), List.mem_of_getElem? (i := 663) (by decide +kernel), List.mem_of_getElem? (i := 664) (by decide +kernel)⟩
theorem lw_p27 : lw_okq (⟨"CarSeedsModel", "enter", "(I)V"⟩, 20) := ⟨⟨by decide +kernel, by decide +kernel⟩, List.mem_of_getElem? (i := 550) (by decide +kernel), List.mem_of_getElem? (i := 667) (by decide +kernel), List.mem_of_getElem? (i := 668) (by decide +kernel)⟩
theorem lw_p28 : lw_okq (⟨"CarSeedsModel", "of", "(II)I"⟩, 20) := ⟨⟨by decide +kernel, by decide +kernel⟩, List.mem_of_getElem? (i := 550) (by decide +kernel), List.mem_of_getElem? (i := 671) (by decide +kernel), List.mem_of_getElem? (i := 672) (by decide +kernel)⟩
theorem lw_p29 : lw_okq (⟨"CarSeedsModel", "isOn", "(II)Z"⟩, 20) := ⟨⟨by decide +kernel, by decide +kernel⟩, List.mem_of_getElem? (i := 550) (by decide +kernel), List.mem_of_getElem? (i := 675) (by decide +kernel), List.mem_of_getElem? (i := 676) (by decide +kernel)⟩
theorem lw_p30 : lw_okq (⟨"CarSeedsModel", "rear", "(I)I"⟩, 20) := ⟨⟨by decide +kernel, by decide +kernel⟩, List.mem_of_getElem? (i := 550) (by decide +kernel), List.mem_of_getElem? (i := 679) (by decide +kernel), List.mem_of_getElem? (i := 680) (by decide +kernel)⟩
theorem lw_p31 : lw_okq (⟨"CarSeedsModel", "now", "()I"⟩, 20) := ⟨⟨by decide +kernel, by decide +kernel⟩, List.mem_of_getElem? (i := 550) (by decide +kernel), List.mem_of_getElem? (i := 683) (by decide +kernel), List.mem_of_getElem? (i := 684) (by decide +kernel)⟩
def lw_privs_2 : List (MethodName × Nat) := [(⟨"CarSeeds$Road", "moveAll", "(I)V"⟩, 6), (⟨"CarSeeds$Road", "passLines", "(III)V"⟩, 6), (⟨"CarSeeds$Road", "standAtStops", "(I)V"⟩, 6), (⟨"CarSeeds$Road", "letOut", "(I)V"⟩, 6), (⟨"CarSeeds$Road", "findNearMisses", "(I)V"⟩, 6), (⟨"CarSeeds", "isCar", "(I)Z"⟩, 7), (⟨"CarSeeds$Cars", "meet", "(II)Z"⟩, 13), (⟨"CarSeedsModel", "cars", "()I"⟩, 20), (⟨"CarSeedsModel", "put", "(III)V"⟩, 20), (⟨"CarSeedsModel", "isPlace", "(I)Z"⟩, 20), (⟨"CarSeedsModel", "step", "()V"⟩, 20), (⟨"CarSeedsModel", "enter", "(I)V"⟩, 20), (⟨"CarSeedsModel", "of", "(II)I"⟩, 20), (⟨"CarSeedsModel", "isOn", "(II)Z"⟩, 20), (⟨"CarSeedsModel", "rear", "(I)I"⟩, 20), (⟨"CarSeedsModel", "now", "()I"⟩, 20)]
theorem lw_r2 : ∀ q ∈ lw_privs_2, lw_okq q := List.forall_mem_cons.mpr ⟨lw_p16, List.forall_mem_cons.mpr ⟨lw_p17, List.forall_mem_cons.mpr ⟨lw_p18, List.forall_mem_cons.mpr ⟨lw_p19, List.forall_mem_cons.mpr ⟨lw_p20, List.forall_mem_cons.mpr ⟨lw_p21, List.forall_mem_cons.mpr ⟨lw_p22, List.forall_mem_cons.mpr ⟨lw_p23, List.forall_mem_cons.mpr ⟨lw_p24, List.forall_mem_cons.mpr ⟨lw_p25, List.forall_mem_cons.mpr ⟨lw_p26, List.forall_mem_cons.mpr ⟨lw_p27, List.forall_mem_cons.mpr ⟨lw_p28, List.forall_mem_cons.mpr ⟨lw_p29, List.forall_mem_cons.mpr ⟨lw_p30, List.forall_mem_cons.mpr ⟨lw_p31, fun _ h => absurd h List.not_mem_nil⟩⟩⟩⟩⟩⟩⟩⟩⟩⟩⟩⟩⟩⟩⟩⟩
theorem lw_p32 : lw_okq (⟨"CarSeedsModel", "gapIn", "(II)I"⟩, 20) := ⟨⟨by decide +kernel, by decide +kernel⟩, List.mem_of_getElem? (i := 550) (by decide +kernel), List.mem_of_getElem? (i := 687) (by decide +kernel), List.mem_of_getElem? (i := 688) (by decide +kernel)⟩
theorem lw_p33 : lw_okq (⟨"CarSeedsModel", "before", "(II)I"⟩, 20) := ⟨⟨by decide +kernel, by decide +kernel⟩, List.mem_of_getElem? (i := 550) (by decide +kernel), List.mem_of_getElem? (i := 691) (by decide +kernel), List.mem_of_getElem? (i := 692) (by decide +kernel)⟩
theorem lw_p34 : lw_okq (⟨"CarSeedsModel", "change", "(I)V"⟩, 20) := ⟨⟨by decide +kernel, by decide +kernel⟩, List.mem_of_getElem? (i := 550) (by decide +kernel), List.mem_of_getElem? (i := 705) (by decide +kernel), List.mem_of_getElem? (i := 706) (by decide +kernel)⟩
theorem lw_p35 : lw_okq (⟨"CarSeedsModel", "mayGo", "(III)Z"⟩, 20) := ⟨⟨by decide +kernel, by decide +kernel⟩, List.mem_of_getElem? (i := 550) (by decide +kernel), List.mem_of_getElem? (i := 709) (by decide +kernel), List.mem_of_getElem? (i := 710) (by decide +kernel)⟩
theorem lw_p36 : lw_okq (⟨"CarSeedsModel", "speeds", "()V"⟩, 20) := ⟨⟨by decide +kernel, by decide +kernel⟩, List.mem_of_getElem? (i := 550) (by decide +kernel), List.mem_of_getElem? (i := 713) (by decide +kernel), List.mem_of_getElem? (i := 714) (by decide +kernel)⟩
theorem lw_p37 : lw_okq (⟨"CarSeedsModel", "move", "(I)V"⟩, 20) := ⟨⟨by decide +kernel, by decide +kernel⟩, List.mem_of_getElem? (i := 550) (by decide +kernel), List.mem_of_getElem? (i := 717) (by decide +kernel), List.mem_of_getElem? (i := 718) (by decide +kernel)⟩
theorem lw_p38 : lw_okq (⟨"CarSeedsModel", "isCar", "(I)Z"⟩, 20) := ⟨⟨by decide +kernel, by decide +kernel⟩, List.mem_of_getElem? (i := 550) (by decide +kernel), List.mem_of_getElem? (i := 725) (by decide +kernel), List.mem_of_getElem? (i := 726) (by decide +kernel)⟩
def lw_privs_3 : List (MethodName × Nat) := [(⟨"CarSeedsModel", "gapIn", "(II)I"⟩, 20), (⟨"CarSeedsModel", "before", "(II)I"⟩, 20), (⟨"CarSeedsModel", "change", "(I)V"⟩, 20), (⟨"CarSeedsModel", "mayGo", "(III)Z"⟩, 20), (⟨"CarSeedsModel", "speeds", "()V"⟩, 20), (⟨"CarSeedsModel", "move", "(I)V"⟩, 20), (⟨"CarSeedsModel", "isCar", "(I)Z"⟩, 20)]
theorem lw_r3 : ∀ q ∈ lw_privs_3, lw_okq q := List.forall_mem_cons.mpr ⟨lw_p32, List.forall_mem_cons.mpr ⟨lw_p33, List.forall_mem_cons.mpr ⟨lw_p34, List.forall_mem_cons.mpr ⟨lw_p35, List.forall_mem_cons.mpr ⟨lw_p36, List.forall_mem_cons.mpr ⟨lw_p37, List.forall_mem_cons.mpr ⟨lw_p38, fun _ h => absurd h List.not_mem_nil⟩⟩⟩⟩⟩⟩⟩
def lw_privs : List (MethodName × Nat) := lw_privs_1 ++ (lw_privs_2 ++ (lw_privs_3))
def lw_tbl : List Cond := k2_sels lw_privs ++ tables_1
theorem lw_privs_ok : ∀ q ∈ lw_privs, lw_okq q := by
  show ∀ q ∈ lw_privs_1 ++ (lw_privs_2 ++ (lw_privs_3)), lw_okq q
  exact List.forall_mem_append.mpr ⟨lw_r1, List.forall_mem_append.mpr ⟨lw_r2, lw_r3⟩⟩
end
section
/-! names: classes, fields, kinds of arrays, methods (written by program out of the Statement) -/
abbrev MI : Type := MethodName × ByteArray × Nat × Option FieldType
def ktb : List Cond := lw_tbl.filter goodWord
theorem kgood : ∀ w ∈ ktb, (w.onTables && w.keeps) = true ∨ ∃ ty, w = .arrayClass ty := fun w h => good_of_word (List.mem_filter.mp h).2
theorem ktb_at {w : Cond} (i : Nat) (h : lw_tbl[i]? = some w) (hg : goodWord w = true) : w ∈ ktb := List.mem_filter.mpr ⟨List.mem_of_getElem? h, hg⟩
def kF0 : u_T := fun k => match k with
  | 0 => ("CarSeeds", "seed", "J", true)
  | 1 => ("CarSeeds", "lanes", "I", true)
  | 2 => ("CarSeeds", "length", "I", true)
  | 3 => ("CarSeeds", "road", "LCarSeeds$Road;", true)
  | 4 => ("CarSeeds", "things", "LCarSeeds$Things;", true)
  | 5 => ("CarSeeds", "now", "LCarSeeds$State;", true)
  | _ => ("CarSeeds", "kept", "[LCarSeeds$State;", true)
def kT0 : Nat → FieldType := fun k => match k with
  | 0 => .long
  | 1 => .int
  | 2 => .int
  | 3 => .object "CarSeeds$Road"
  | 4 => .object "CarSeeds$Things"
  | 5 => .object "CarSeeds$State"
  | _ => .array (.object "CarSeeds$State")
def kF1 : u_T := fun k => match k with
  | 0 => ("CarSeeds$Road", "things", "LCarSeeds$Things;", true)
  | 1 => ("CarSeeds$Road", "now", "LCarSeeds$State;", true)
  | 2 => ("CarSeeds$Road", "cars", "LCarSeeds$Cars;", true)
  | 3 => ("CarSeeds$Road", "rows", "LCarSeeds$Rows;", true)
  | 4 => ("CarSeeds$Road", "lanes", "I", true)
  | _ => ("CarSeeds$Road", "end", "I", true)
def kT1 : Nat → FieldType := fun k => match k with
  | 0 => .object "CarSeeds$Things"
  | 1 => .object "CarSeeds$State"
  | 2 => .object "CarSeeds$Cars"
  | 3 => .object "CarSeeds$Rows"
  | 4 => .int
  | _ => .int
def kF2 : u_T := fun k => match k with
  | 0 => ("CarSeeds$Things", "lightPlace", "[I", true)
  | 1 => ("CarSeeds$Things", "lightRed", "[I", true)
  | 2 => ("CarSeeds$Things", "lightCycle", "[I", true)
  | 3 => ("CarSeeds$Things", "closedLane", "[I", true)
  | 4 => ("CarSeeds$Things", "closedPlace", "[I", true)
  | 5 => ("CarSeeds$Things", "closedFrom", "[I", true)
  | 6 => ("CarSeeds$Things", "closedTo", "[I", true)
  | 7 => ("CarSeeds$Things", "stopPlace", "[I", true)
  | 8 => ("CarSeeds$Things", "stopDwell", "[I", true)
  | 9 => ("CarSeeds$Things", "linePlace", "[I", true)
  | 10 => ("CarSeeds$Things", "lights", "I", false)
  | 11 => ("CarSeeds$Things", "closed", "I", false)
  | 12 => ("CarSeeds$Things", "stops", "I", false)
  | _ => ("CarSeeds$Things", "lines", "I", false)
def kT2 : Nat → FieldType := fun k => match k with
  | 0 => .array .int
  | 1 => .array .int
  | 2 => .array .int
  | 3 => .array .int
  | 4 => .array .int
  | 5 => .array .int
  | 6 => .array .int
  | 7 => .array .int
  | 8 => .array .int
  | 9 => .array .int
  | 10 => .int
  | 11 => .int
  | 12 => .int
  | _ => .int
def kF3 : u_T := fun k => match k with
  | 0 => ("CarSeeds$State", "cars", "LCarSeeds$Cars;", true)
  | 1 => ("CarSeeds$State", "rows", "LCarSeeds$Rows;", true)
  | 2 => ("CarSeeds$State", "nextWaiter", "[I", true)
  | 3 => ("CarSeeds$State", "passed", "[I", true)
  | 4 => ("CarSeeds$State", "step", "I", false)
  | 5 => ("CarSeeds$State", "nearMisses", "I", false)
  | 6 => ("CarSeeds$State", "hardBrakings", "I", false)
  | _ => ("CarSeeds$State", "changes", "I", false)
def kT3 : Nat → FieldType := fun k => match k with
  | 0 => .object "CarSeeds$Cars"
  | 1 => .object "CarSeeds$Rows"
  | 2 => .array .int
  | 3 => .array .int
  | 4 => .int
  | 5 => .int
  | 6 => .int
  | _ => .int
def kF4 : u_T := fun k => match k with
  | 0 => ("CarSeeds$Cars", "kind", "[I", true)
  | 1 => ("CarSeeds$Cars", "length", "[I", true)
  | 2 => ("CarSeeds$Cars", "wish", "[I", true)
  | 3 => ("CarSeeds$Cars", "delay", "[I", true)
  | 4 => ("CarSeeds$Cars", "lane", "[I", true)
  | 5 => ("CarSeeds$Cars", "state", "[I", true)
  | 6 => ("CarSeeds$Cars", "front", "[I", true)
  | 7 => ("CarSeeds$Cars", "speed", "[I", true)
  | 8 => ("CarSeeds$Cars", "cameIn", "[I", true)
  | 9 => ("CarSeeds$Cars", "goneIn", "[I", true)
  | 10 => ("CarSeeds$Cars", "settledIn", "[I", true)
  | 11 => ("CarSeeds$Cars", "stood", "[I", true)
  | _ => ("CarSeeds$Cars", "size", "I", false)
def kT4 : Nat → FieldType := fun k => match k with
  | 0 => .array .int
  | 1 => .array .int
  | 2 => .array .int
  | 3 => .array .int
  | 4 => .array .int
  | 5 => .array .int
  | 6 => .array .int
  | 7 => .array .int
  | 8 => .array .int
  | 9 => .array .int
  | 10 => .array .int
  | 11 => .array .int
  | _ => .int
def kF5 : u_T := fun k => match k with
  | 0 => ("CarSeeds$Rows", "cars", "[I", true)
  | _ => ("CarSeeds$Rows", "sizes", "[I", true)
def kT5 : Nat → FieldType := fun k => match k with
  | 0 => .array .int
  | _ => .array .int
def kF6 : u_T := fun k => match k with
  | 0 => ("CarSeedsModel", "seed", "J", true)
  | 1 => ("CarSeedsModel", "lanes", "I", true)
  | 2 => ("CarSeedsModel", "length", "I", true)
  | 3 => ("CarSeedsModel", "cells", "[I", true)
  | 4 => ("CarSeedsModel", "kept", "[Z", true)
  | 5 => ("CarSeedsModel", "lights", "I", false)
  | 6 => ("CarSeedsModel", "lightPlace", "[I", true)
  | 7 => ("CarSeedsModel", "lightRed", "[I", true)
  | 8 => ("CarSeedsModel", "lightCycle", "[I", true)
  | 9 => ("CarSeedsModel", "closed", "I", false)
  | 10 => ("CarSeedsModel", "closedLane", "[I", true)
  | 11 => ("CarSeedsModel", "closedPlace", "[I", true)
  | 12 => ("CarSeedsModel", "closedFrom", "[I", true)
  | 13 => ("CarSeedsModel", "closedTo", "[I", true)
  | 14 => ("CarSeedsModel", "stops", "I", false)
  | 15 => ("CarSeedsModel", "stopPlace", "[I", true)
  | 16 => ("CarSeedsModel", "stopDwell", "[I", true)
  | 17 => ("CarSeedsModel", "lines", "I", false)
  | 18 => ("CarSeedsModel", "linePlace", "[I", true)
  | _ => ("CarSeedsModel", "fresh", "[I", true)
def kT6 : Nat → FieldType := fun k => match k with
  | 0 => .long
  | 1 => .int
  | 2 => .int
  | 3 => .array .int
  | 4 => .array .boolean
  | 5 => .int
  | 6 => .array .int
  | 7 => .array .int
  | 8 => .array .int
  | 9 => .int
  | 10 => .array .int
  | 11 => .array .int
  | 12 => .array .int
  | 13 => .array .int
  | 14 => .int
  | 15 => .array .int
  | 16 => .array .int
  | 17 => .int
  | 18 => .array .int
  | _ => .array .int
def kcl : List vw_C := [("CarSeeds", kF0, 7), ("CarSeeds$Road", kF1, 6), ("CarSeeds$Things", kF2, 14), ("CarSeeds$State", kF3, 8), ("CarSeeds$Cars", kF4, 13), ("CarSeeds$Rows", kF5, 2), ("CarSeedsModel", kF6, 20)]
def ktyp (c : Nat) : Nat → FieldType := match c with
  | 0 => kT0
  | 1 => kT1
  | 2 => kT2
  | 3 => kT3
  | 4 => kT4
  | 5 => kT5
  | _ => kT6
def kna : Nat := 3
def kak (t : Nat) : FieldType := match t with
  | 0 => .int
  | 1 => .object "CarSeeds$State"
  | _ => .boolean
theorem kak_0 : kak 0 = .int := rfl
theorem kak_2 : kak 2 = .boolean := rfl
def knst : List Cond := [(Jvm.Cond.methodLinkNest "CarSeeds$Road" (11 : Nat) ({ cls := "CarSeeds$Things", name := "<init>", desc := "()V" } : Jvm.MethodName) "CarSeeds"), (Jvm.Cond.methodLinkNest "CarSeeds$Road" (20 : Nat) ({ cls := "CarSeeds$State", name := "<init>", desc := "()V" } : Jvm.MethodName) "CarSeeds"), (Jvm.Cond.methodLinkNest "CarSeeds$State" (11 : Nat) ({ cls := "CarSeeds$Cars", name := "<init>", desc := "()V" } : Jvm.MethodName) "CarSeeds"), (Jvm.Cond.methodLinkNest "CarSeeds$State" (20 : Nat) ({ cls := "CarSeeds$Rows", name := "<init>", desc := "()V" } : Jvm.MethodName) "CarSeeds"), (Jvm.Cond.methodLinkNest "CarSeeds" (162 : Nat) ({ cls := "CarSeeds$State", name := "<init>", desc := "()V" } : Jvm.MethodName) "CarSeeds")]
def kao : List String := ["CarSeeds$State"]
theorem kf_in0 : ∀ w ∈ u_ws "CarSeeds" kF0 7, w ∈ ktb := by
  intro w hw
  obtain ⟨k, hk, rfl⟩ := List.mem_map.mp hw
  have hk := List.mem_range.mp hk
  match k, hk with
  | 0, _ => exact ktb_at 291 (by decide +kernel) (by decide +kernel)
  | 1, _ => exact ktb_at 293 (by decide +kernel) (by decide +kernel)
  | 2, _ => exact ktb_at 295 (by decide +kernel) (by decide +kernel)
  | 3, _ => exact ktb_at 297 (by decide +kernel) (by decide +kernel)
  | 4, _ => exact ktb_at 299 (by decide +kernel) (by decide +kernel)
  | 5, _ => exact ktb_at 301 (by decide +kernel) (by decide +kernel)
  | 6, _ => exact ktb_at 303 (by decide +kernel) (by decide +kernel)
  | k + 7, h => exact absurd h (by omega)
theorem kf_ty0 : ∀ j, j < 7 → parseFieldDescriptor (kF0 j).2.2.1 = some (kT0 j) := by decide +kernel
theorem kf_df0 : ∀ j, j < 7 → kT0 j ≠ .double ∧ kT0 j ≠ .float := by decide +kernel
theorem kf_nm0 : ∀ a, a < 7 → ∀ b, b < 7 → a ≠ b → (kF0 a).2.1 ≠ (kF0 b).2.1 := by decide +kernel
theorem kf_in1 : ∀ w ∈ u_ws "CarSeeds$Road" kF1 6, w ∈ ktb := by
  intro w hw
  obtain ⟨k, hk, rfl⟩ := List.mem_map.mp hw
  have hk := List.mem_range.mp hk
  match k, hk with
  | 0, _ => exact ktb_at 269 (by decide +kernel) (by decide +kernel)
  | 1, _ => exact ktb_at 271 (by decide +kernel) (by decide +kernel)
  | 2, _ => exact ktb_at 273 (by decide +kernel) (by decide +kernel)
  | 3, _ => exact ktb_at 275 (by decide +kernel) (by decide +kernel)
  | 4, _ => exact ktb_at 277 (by decide +kernel) (by decide +kernel)
  | 5, _ => exact ktb_at 279 (by decide +kernel) (by decide +kernel)
  | k + 6, h => exact absurd h (by omega)
theorem kf_ty1 : ∀ j, j < 6 → parseFieldDescriptor (kF1 j).2.2.1 = some (kT1 j) := by decide +kernel
theorem kf_df1 : ∀ j, j < 6 → kT1 j ≠ .double ∧ kT1 j ≠ .float := by decide +kernel
theorem kf_nm1 : ∀ a, a < 6 → ∀ b, b < 6 → a ≠ b → (kF1 a).2.1 ≠ (kF1 b).2.1 := by decide +kernel
theorem kf_in2 : ∀ w ∈ u_ws "CarSeeds$Things" kF2 14, w ∈ ktb := by
  intro w hw
  obtain ⟨k, hk, rfl⟩ := List.mem_map.mp hw
  have hk := List.mem_range.mp hk
  match k, hk with
  | 0, _ => exact ktb_at 99 (by decide +kernel) (by decide +kernel)
  | 1, _ => exact ktb_at 101 (by decide +kernel) (by decide +kernel)
  | 2, _ => exact ktb_at 103 (by decide +kernel) (by decide +kernel)
  | 3, _ => exact ktb_at 105 (by decide +kernel) (by decide +kernel)
  | 4, _ => exact ktb_at 107 (by decide +kernel) (by decide +kernel)
  | 5, _ => exact ktb_at 109 (by decide +kernel) (by decide +kernel)
  | 6, _ => exact ktb_at 111 (by decide +kernel) (by decide +kernel)
  | 7, _ => exact ktb_at 113 (by decide +kernel) (by decide +kernel)
  | 8, _ => exact ktb_at 115 (by decide +kernel) (by decide +kernel)
  | 9, _ => exact ktb_at 117 (by decide +kernel) (by decide +kernel)
  | 10, _ => exact ktb_at 119 (by decide +kernel) (by decide +kernel)
  | 11, _ => exact ktb_at 121 (by decide +kernel) (by decide +kernel)
  | 12, _ => exact ktb_at 123 (by decide +kernel) (by decide +kernel)
  | 13, _ => exact ktb_at 125 (by decide +kernel) (by decide +kernel)
  | k + 14, h => exact absurd h (by omega)
theorem kf_ty2 : ∀ j, j < 14 → parseFieldDescriptor (kF2 j).2.2.1 = some (kT2 j) := by decide +kernel
theorem kf_df2 : ∀ j, j < 14 → kT2 j ≠ .double ∧ kT2 j ≠ .float := by decide +kernel
theorem kf_nm2 : ∀ a, a < 14 → ∀ b, b < 14 → a ≠ b → (kF2 a).2.1 ≠ (kF2 b).2.1 := by decide +kernel
theorem kf_in3 : ∀ w ∈ u_ws "CarSeeds$State" kF3 8, w ∈ ktb := by
  intro w hw
  obtain ⟨k, hk, rfl⟩ := List.mem_map.mp hw
  have hk := List.mem_range.mp hk
  match k, hk with
  | 0, _ => exact ktb_at 244 (by decide +kernel) (by decide +kernel)
  | 1, _ => exact ktb_at 246 (by decide +kernel) (by decide +kernel)
  | 2, _ => exact ktb_at 248 (by decide +kernel) (by decide +kernel)
  | 3, _ => exact ktb_at 250 (by decide +kernel) (by decide +kernel)
  | 4, _ => exact ktb_at 252 (by decide +kernel) (by decide +kernel)
  | 5, _ => exact ktb_at 254 (by decide +kernel) (by decide +kernel)
  | 6, _ => exact ktb_at 256 (by decide +kernel) (by decide +kernel)
  | 7, _ => exact ktb_at 258 (by decide +kernel) (by decide +kernel)
  | k + 8, h => exact absurd h (by omega)
theorem kf_ty3 : ∀ j, j < 8 → parseFieldDescriptor (kF3 j).2.2.1 = some (kT3 j) := by decide +kernel
theorem kf_df3 : ∀ j, j < 8 → kT3 j ≠ .double ∧ kT3 j ≠ .float := by decide +kernel
theorem kf_nm3 : ∀ a, a < 8 → ∀ b, b < 8 → a ≠ b → (kF3 a).2.1 ≠ (kF3 b).2.1 := by decide +kernel
theorem kf_in4 : ∀ w ∈ u_ws "CarSeeds$Cars" kF4 13, w ∈ ktb := by
  intro w hw
  obtain ⟨k, hk, rfl⟩ := List.mem_map.mp hw
  have hk := List.mem_range.mp hk
  match k, hk with
  | 0, _ => exact ktb_at 179 (by decide +kernel) (by decide +kernel)
  | 1, _ => exact ktb_at 181 (by decide +kernel) (by decide +kernel)
  | 2, _ => exact ktb_at 183 (by decide +kernel) (by decide +kernel)
  | 3, _ => exact ktb_at 185 (by decide +kernel) (by decide +kernel)
  | 4, _ => exact ktb_at 187 (by decide +kernel) (by decide +kernel)
  | 5, _ => exact ktb_at 189 (by decide +kernel) (by decide +kernel)
  | 6, _ => exact ktb_at 191 (by decide +kernel) (by decide +kernel)
  | 7, _ => exact ktb_at 193 (by decide +kernel) (by decide +kernel)
  | 8, _ => exact ktb_at 195 (by decide +kernel) (by decide +kernel)
  | 9, _ => exact ktb_at 197 (by decide +kernel) (by decide +kernel)
  | 10, _ => exact ktb_at 199 (by decide +kernel) (by decide +kernel)
  | 11, _ => exact ktb_at 201 (by decide +kernel) (by decide +kernel)
  | 12, _ => exact ktb_at 203 (by decide +kernel) (by decide +kernel)
  | k + 13, h => exact absurd h (by omega)
theorem kf_ty4 : ∀ j, j < 13 → parseFieldDescriptor (kF4 j).2.2.1 = some (kT4 j) := by decide +kernel
theorem kf_df4 : ∀ j, j < 13 → kT4 j ≠ .double ∧ kT4 j ≠ .float := by decide +kernel
theorem kf_nm4 : ∀ a, a < 13 → ∀ b, b < 13 → a ≠ b → (kF4 a).2.1 ≠ (kF4 b).2.1 := by decide +kernel
theorem kf_in5 : ∀ w ∈ u_ws "CarSeeds$Rows" kF5 2, w ∈ ktb := by
  intro w hw
  obtain ⟨k, hk, rfl⟩ := List.mem_map.mp hw
  have hk := List.mem_range.mp hk
  match k, hk with
  | 0, _ => exact ktb_at 218 (by decide +kernel) (by decide +kernel)
  | 1, _ => exact ktb_at 220 (by decide +kernel) (by decide +kernel)
  | k + 2, h => exact absurd h (by omega)
theorem kf_ty5 : ∀ j, j < 2 → parseFieldDescriptor (kF5 j).2.2.1 = some (kT5 j) := by decide +kernel
theorem kf_df5 : ∀ j, j < 2 → kT5 j ≠ .double ∧ kT5 j ≠ .float := by decide +kernel
theorem kf_nm5 : ∀ a, a < 2 → ∀ b, b < 2 → a ≠ b → (kF5 a).2.1 ≠ (kF5 b).2.1 := by decide +kernel
theorem kf_in6 : ∀ w ∈ u_ws "CarSeedsModel" kF6 20, w ∈ ktb := by
  intro w hw
  obtain ⟨k, hk, rfl⟩ := List.mem_map.mp hw
  have hk := List.mem_range.mp hk
  match k, hk with
  | 0, _ => exact ktb_at 615 (by decide +kernel) (by decide +kernel)
  | 1, _ => exact ktb_at 617 (by decide +kernel) (by decide +kernel)
  | 2, _ => exact ktb_at 619 (by decide +kernel) (by decide +kernel)
  | 3, _ => exact ktb_at 621 (by decide +kernel) (by decide +kernel)
  | 4, _ => exact ktb_at 623 (by decide +kernel) (by decide +kernel)
  | 5, _ => exact ktb_at 625 (by decide +kernel) (by decide +kernel)
  | 6, _ => exact ktb_at 627 (by decide +kernel) (by decide +kernel)
  | 7, _ => exact ktb_at 629 (by decide +kernel) (by decide +kernel)
  | 8, _ => exact ktb_at 631 (by decide +kernel) (by decide +kernel)
  | 9, _ => exact ktb_at 633 (by decide +kernel) (by decide +kernel)
  | 10, _ => exact ktb_at 635 (by decide +kernel) (by decide +kernel)
  | 11, _ => exact ktb_at 637 (by decide +kernel) (by decide +kernel)
  | 12, _ => exact ktb_at 639 (by decide +kernel) (by decide +kernel)
  | 13, _ => exact ktb_at 641 (by decide +kernel) (by decide +kernel)
  | 14, _ => exact ktb_at 643 (by decide +kernel) (by decide +kernel)
  | 15, _ => exact ktb_at 645 (by decide +kernel) (by decide +kernel)
  | 16, _ => exact ktb_at 647 (by decide +kernel) (by decide +kernel)
  | 17, _ => exact ktb_at 649 (by decide +kernel) (by decide +kernel)
  | 18, _ => exact ktb_at 651 (by decide +kernel) (by decide +kernel)
  | 19, _ => exact ktb_at 653 (by decide +kernel) (by decide +kernel)
  | k + 20, h => exact absurd h (by omega)
theorem kf_ty6 : ∀ j, j < 20 → parseFieldDescriptor (kF6 j).2.2.1 = some (kT6 j) := by decide +kernel
theorem kf_df6 : ∀ j, j < 20 → kT6 j ≠ .double ∧ kT6 j ≠ .float := by decide +kernel
theorem kf_nm6 : ∀ a, a < 20 → ∀ b, b < 20 → a ≠ b → (kF6 a).2.1 ≠ (kF6 b).2.1 := by decide +kernel
theorem kf_in {c : Nat} {q : vw_C} (h : kcl[c]? = some q) : ∀ w ∈ u_ws q.1 q.2.1 q.2.2, w ∈ ktb := by
  match c, h with
  | 0, h => cases h; exact kf_in0
  | 1, h => cases h; exact kf_in1
  | 2, h => cases h; exact kf_in2
  | 3, h => cases h; exact kf_in3
  | 4, h => cases h; exact kf_in4
  | 5, h => cases h; exact kf_in5
  | 6, h => cases h; exact kf_in6
  | c + 7, h => cases h
theorem kf_ty {c : Nat} {q : vw_C} (h : kcl[c]? = some q) : ∀ j, j < q.2.2 → parseFieldDescriptor (q.2.1 j).2.2.1 = some (ktyp c j) := by
  match c, h with
  | 0, h => cases h; exact kf_ty0
  | 1, h => cases h; exact kf_ty1
  | 2, h => cases h; exact kf_ty2
  | 3, h => cases h; exact kf_ty3
  | 4, h => cases h; exact kf_ty4
  | 5, h => cases h; exact kf_ty5
  | 6, h => cases h; exact kf_ty6
  | c + 7, h => cases h
theorem kf_df {c : Nat} {q : vw_C} (h : kcl[c]? = some q) : ∀ j, j < q.2.2 → ktyp c j ≠ .double ∧ ktyp c j ≠ .float := by
  match c, h with
  | 0, h => cases h; exact kf_df0
  | 1, h => cases h; exact kf_df1
  | 2, h => cases h; exact kf_df2
  | 3, h => cases h; exact kf_df3
  | 4, h => cases h; exact kf_df4
  | 5, h => cases h; exact kf_df5
  | 6, h => cases h; exact kf_df6
  | c + 7, h => cases h
theorem kf_nm {c : Nat} {q : vw_C} (h : kcl[c]? = some q) : ∀ a, a < q.2.2 → ∀ b, b < q.2.2 → a ≠ b → (q.2.1 a).2.1 ≠ (q.2.1 b).2.1 := by
  match c, h with
  | 0, h => cases h; exact kf_nm0
  | 1, h => cases h; exact kf_nm1
  | 2, h => cases h; exact kf_nm2
  | 3, h => cases h; exact kf_nm3
  | 4, h => cases h; exact kf_nm4
  | 5, h => cases h; exact kf_nm5
  | 6, h => cases h; exact kf_nm6
  | c + 7, h => cases h
theorem knst_tab : ∀ w ∈ knst, w.onTables = true := by decide +kernel
theorem knst_moved {s U : State} (hW : s.WarmedH U.vm) : ∀ w ∈ knst, va_Nw w s → va_Nw w U := by
  intro w hw hs
  simp only [knst, List.mem_cons, List.not_mem_nil, or_false] at hw
  rcases hw with rfl | rfl | rfl | rfl | rfl <;> exact va_Nw.warmM hW hs
abbrev M_C_init : MI := (⟨"CarSeeds", "<init>", "(JII)V"⟩, prog_1_method_1_code, 5, none)
set_option maxRecDepth 100000 in
theorem kc_C_init : Cond.code M_C_init.1 M_C_init.2.1 M_C_init.2.2.1 M_C_init.2.2.2 ∈ ktb := ktb_at 53 rfl rfl
abbrev M_C_back : MI := (⟨"CarSeeds", "back", "(I)I"⟩, prog_1_method_17_code, 2, (some FieldType.int))
set_option maxRecDepth 100000 in
theorem kc_C_back : Cond.code M_C_back.1 M_C_back.2.1 M_C_back.2.2.1 M_C_back.2.2.2 ∈ ktb := ktb_at 576 rfl rfl
abbrev M_C_close : MI := (⟨"CarSeeds", "close", "(IIII)Z"⟩, prog_1_method_4_code, 5, (some FieldType.boolean))
set_option maxRecDepth 100000 in
theorem kc_C_close : Cond.code M_C_close.1 M_C_close.2.1 M_C_close.2.2.1 M_C_close.2.2.2 ∈ ktb := ktb_at 348 rfl rfl
abbrev M_C_come : MI := (⟨"CarSeeds", "come", "(II)I"⟩, prog_1_method_2_code, 3, (some FieldType.int))
set_option maxRecDepth 100000 in
theorem kc_C_come : Cond.code M_C_come.1 M_C_come.2.1 M_C_come.2.2.1 M_C_come.2.2.2 ∈ ktb := ktb_at 309 rfl rfl
abbrev M_C_count : MI := (⟨"CarSeeds", "count", "(I)I"⟩, prog_1_method_18_code, 2, (some FieldType.int))
set_option maxRecDepth 100000 in
theorem kc_C_count : Cond.code M_C_count.1 M_C_count.2.1 M_C_count.2.2.1 M_C_count.2.2.2 ∈ ktb := ktb_at 580 rfl rfl
abbrev M_C_counted : MI := (⟨"CarSeeds", "counted", "(II)I"⟩, prog_1_method_11_code, 3, (some FieldType.int))
set_option maxRecDepth 100000 in
theorem kc_C_counted : Cond.code M_C_counted.1 M_C_counted.2.1 M_C_counted.2.2.1 M_C_counted.2.2.2 ∈ ktb := ktb_at 516 rfl rfl
abbrev M_C_drawn : MI := (⟨"CarSeeds", "drawn", "(II)I"⟩, prog_1_method_9_code, 3, (some FieldType.int))
set_option maxRecDepth 100000 in
theorem kc_C_drawn : Cond.code M_C_drawn.1 M_C_drawn.2.1 M_C_drawn.2.2.1 M_C_drawn.2.2.2 ∈ ktb := ktb_at 506 rfl rfl
abbrev M_C_gap : MI := (⟨"CarSeeds", "gap", "(I)I"⟩, prog_1_method_10_code, 3, (some FieldType.int))
set_option maxRecDepth 100000 in
theorem kc_C_gap : Cond.code M_C_gap.1 M_C_gap.2.1 M_C_gap.2.2.1 M_C_gap.2.2.2 ∈ ktb := ktb_at 510 rfl rfl
abbrev M_C_isCar : MI := (⟨"CarSeeds", "isCar", "(I)Z"⟩, prog_1_method_21_code, 2, (some FieldType.boolean))
set_option maxRecDepth 100000 in
theorem kc_C_isCar : Cond.code M_C_isCar.1 M_C_isCar.2.1 M_C_isCar.2.2.1 M_C_isCar.2.2.2 ∈ ktb := ktb_at 502 rfl rfl
abbrev M_C_isLane : MI := (⟨"CarSeeds", "isLane", "(I)Z"⟩, prog_1_method_19_code, 2, (some FieldType.boolean))
set_option maxRecDepth 100000 in
theorem kc_C_isLane : Cond.code M_C_isLane.1 M_C_isLane.2.1 M_C_isLane.2.2.1 M_C_isLane.2.2.2 ∈ ktb := ktb_at 313 rfl rfl
abbrev M_C_isPlace : MI := (⟨"CarSeeds", "isPlace", "(I)Z"⟩, prog_1_method_20_code, 2, (some FieldType.boolean))
set_option maxRecDepth 100000 in
theorem kc_C_isPlace : Cond.code M_C_isPlace.1 M_C_isPlace.2.1 M_C_isPlace.2.2.1 M_C_isPlace.2.2.2 ∈ ktb := ktb_at 340 rfl rfl
abbrev M_C_light : MI := (⟨"CarSeeds", "light", "(III)Z"⟩, prog_1_method_3_code, 4, (some FieldType.boolean))
set_option maxRecDepth 100000 in
theorem kc_C_light : Cond.code M_C_light.1 M_C_light.2.1 M_C_light.2.2.1 M_C_light.2.2.2 ∈ ktb := ktb_at 336 rfl rfl
abbrev M_C_line : MI := (⟨"CarSeeds", "line", "(I)I"⟩, prog_1_method_6_code, 2, (some FieldType.int))
set_option maxRecDepth 100000 in
theorem kc_C_line : Cond.code M_C_line.1 M_C_line.2.1 M_C_line.2.2.1 M_C_line.2.2.2 ∈ ktb := ktb_at 364 rfl rfl
abbrev M_C_many : MI := (⟨"CarSeeds", "many", "(I)I"⟩, prog_1_method_13_code, 2, (some FieldType.int))
set_option maxRecDepth 100000 in
theorem kc_C_many : Cond.code M_C_many.1 M_C_many.2.1 M_C_many.2.2.1 M_C_many.2.2.2 ∈ ktb := ktb_at 528 rfl rfl
abbrev M_C_ordered : MI := (⟨"CarSeeds", "ordered", "()Z"⟩, prog_1_method_15_code, 1, (some FieldType.boolean))
set_option maxRecDepth 100000 in
theorem kc_C_ordered : Cond.code M_C_ordered.1 M_C_ordered.2.1 M_C_ordered.2.2.1 M_C_ordered.2.2.2 ∈ ktb := ktb_at 541 rfl rfl
abbrev M_C_run : MI := (⟨"CarSeeds", "run", "(I)I"⟩, prog_1_method_7_code, 3, (some FieldType.int))
set_option maxRecDepth 100000 in
theorem kc_C_run : Cond.code M_C_run.1 M_C_run.2.1 M_C_run.2.2.1 M_C_run.2.2.2 ∈ ktb := ktb_at 372 rfl rfl
abbrev M_C_save : MI := (⟨"CarSeeds", "save", "(I)I"⟩, prog_1_method_16_code, 2, (some FieldType.int))
set_option maxRecDepth 100000 in
theorem kc_C_save : Cond.code M_C_save.1 M_C_save.2.1 M_C_save.2.2.1 M_C_save.2.2.2 ∈ ktb := ktb_at 554 rfl rfl
abbrev M_C_stop : MI := (⟨"CarSeeds", "stop", "(II)Z"⟩, prog_1_method_5_code, 3, (some FieldType.boolean))
set_option maxRecDepth 100000 in
theorem kc_C_stop : Cond.code M_C_stop.1 M_C_stop.2.1 M_C_stop.2.2.1 M_C_stop.2.2.2 ∈ ktb := ktb_at 356 rfl rfl
abbrev M_C_times : MI := (⟨"CarSeeds", "times", "()I"⟩, prog_1_method_12_code, 1, (some FieldType.int))
set_option maxRecDepth 100000 in
theorem kc_C_times : Cond.code M_C_times.1 M_C_times.2.1 M_C_times.2.2.1 M_C_times.2.2.2 ∈ ktb := ktb_at 520 rfl rfl
abbrev M_C_told : MI := (⟨"CarSeeds", "told", "(II)I"⟩, prog_1_method_8_code, 3, (some FieldType.int))
set_option maxRecDepth 100000 in
theorem kc_C_told : Cond.code M_C_told.1 M_C_told.2.1 M_C_told.2.2.1 M_C_told.2.2.2 ∈ ktb := ktb_at 498 rfl rfl
abbrev M_C_waiting : MI := (⟨"CarSeeds", "waiting", "(I)I"⟩, prog_1_method_14_code, 2, (some FieldType.int))
set_option maxRecDepth 100000 in
theorem kc_C_waiting : Cond.code M_C_waiting.1 M_C_waiting.2.1 M_C_waiting.2.2.1 M_C_waiting.2.2.2 ∈ ktb := ktb_at 532 rfl rfl
abbrev M_Cars_init : MI := (⟨"CarSeeds$Cars", "<init>", "()V"⟩, prog_2_method_1_code, 1, none)
set_option maxRecDepth 100000 in
theorem kc_Cars_init : Cond.code M_Cars_init.1 M_Cars_init.2.1 M_Cars_init.2.2.1 M_Cars_init.2.2.2 ∈ ktb := ktb_at 139 rfl rfl
abbrev M_Cars_add : MI := (⟨"CarSeeds$Cars", "add", "(JII)I"⟩, prog_2_method_2_code, 6, (some FieldType.int))
set_option maxRecDepth 100000 in
theorem kc_Cars_add : Cond.code M_Cars_add.1 M_Cars_add.2.1 M_Cars_add.2.2.1 M_Cars_add.2.2.2 ∈ ktb := ktb_at 317 rfl rfl
abbrev M_Cars_copyFrom : MI := (⟨"CarSeeds$Cars", "copyFrom", "(LCarSeeds$Cars;)V"⟩, prog_2_method_13_code, 2, none)
set_option maxRecDepth 100000 in
theorem kc_Cars_copyFrom : Cond.code M_Cars_copyFrom.1 M_Cars_copyFrom.2.1 M_Cars_copyFrom.2.2.1 M_Cars_copyFrom.2.2.2 ∈ ktb := ktb_at 563 rfl rfl
abbrev M_Cars_draw : MI := (⟨"CarSeeds$Cars", "draw", "(JI)V"⟩, prog_2_method_3_code, 7, none)
set_option maxRecDepth 100000 in
theorem kc_Cars_draw : Cond.code M_Cars_draw.1 M_Cars_draw.2.1 M_Cars_draw.2.2.1 M_Cars_draw.2.2.2 ∈ ktb := ktb_at 321 rfl rfl
abbrev M_Cars_haveNoPlaceInCommon : MI := (⟨"CarSeeds$Cars", "haveNoPlaceInCommon", "()Z"⟩, prog_2_method_11_code, 3, (some FieldType.boolean))
set_option maxRecDepth 100000 in
theorem kc_Cars_haveNoPlaceInCommon : Cond.code M_Cars_haveNoPlaceInCommon.1 M_Cars_haveNoPlaceInCommon.2.1 M_Cars_haveNoPlaceInCommon.2.2.1 M_Cars_haveNoPlaceInCommon.2.2.2 ∈ ktb := ktb_at 545 rfl rfl
abbrev M_Cars_highPart : MI := (⟨"CarSeeds$Cars", "highPart", "(J)I"⟩, prog_2_method_5_code, 2, (some FieldType.int))
set_option maxRecDepth 100000 in
theorem kc_Cars_highPart : Cond.code M_Cars_highPart.1 M_Cars_highPart.2.1 M_Cars_highPart.2.2.1 M_Cars_highPart.2.2.2 ∈ ktb := ktb_at 331 rfl rfl
abbrev M_Cars_meet : MI := (⟨"CarSeeds$Cars", "meet", "(II)Z"⟩, prog_2_method_12_code, 3, (some FieldType.boolean))
set_option maxRecDepth 100000 in
theorem kc_Cars_meet : Cond.code M_Cars_meet.1 M_Cars_meet.2.1 M_Cars_meet.2.2.1 M_Cars_meet.2.2.2 ∈ ktb := ktb_at 549 rfl rfl
abbrev M_Cars_nextDraw : MI := (⟨"CarSeeds$Cars", "nextDraw", "(J)J"⟩, prog_2_method_4_code, 2, (some FieldType.long))
set_option maxRecDepth 100000 in
theorem kc_Cars_nextDraw : Cond.code M_Cars_nextDraw.1 M_Cars_nextDraw.2.1 M_Cars_nextDraw.2.2.1 M_Cars_nextDraw.2.2.2 ∈ ktb := ktb_at 325 rfl rfl
abbrev M_Cars_rear : MI := (⟨"CarSeeds$Cars", "rear", "(I)I"⟩, prog_2_method_6_code, 2, (some FieldType.int))
set_option maxRecDepth 100000 in
theorem kc_Cars_rear : Cond.code M_Cars_rear.1 M_Cars_rear.2.1 M_Cars_rear.2.2.1 M_Cars_rear.2.2.2 ∈ ktb := ktb_at 404 rfl rfl
abbrev M_Cars_sizeOf : MI := (⟨"CarSeeds$Cars", "sizeOf", "(I)I"⟩, prog_2_method_7_code, 4, (some FieldType.int))
set_option maxRecDepth 100000 in
theorem kc_Cars_sizeOf : Cond.code M_Cars_sizeOf.1 M_Cars_sizeOf.2.1 M_Cars_sizeOf.2.2.1 M_Cars_sizeOf.2.2.2 ∈ ktb := ktb_at 584 rfl rfl
abbrev M_Cars_stepsOfGone : MI := (⟨"CarSeeds$Cars", "stepsOfGone", "()I"⟩, prog_2_method_10_code, 3, (some FieldType.int))
set_option maxRecDepth 100000 in
theorem kc_Cars_stepsOfGone : Cond.code M_Cars_stepsOfGone.1 M_Cars_stepsOfGone.2.1 M_Cars_stepsOfGone.2.2.1 M_Cars_stepsOfGone.2.2.2 ∈ ktb := ktb_at 524 rfl rfl
abbrev M_Cars_waitersFor : MI := (⟨"CarSeeds$Cars", "waitersFor", "(I)I"⟩, prog_2_method_8_code, 4, (some FieldType.int))
set_option maxRecDepth 100000 in
theorem kc_Cars_waitersFor : Cond.code M_Cars_waitersFor.1 M_Cars_waitersFor.2.1 M_Cars_waitersFor.2.2.1 M_Cars_waitersFor.2.2.2 ∈ ktb := ktb_at 536 rfl rfl
abbrev M_Cars_waitsFor : MI := (⟨"CarSeeds$Cars", "waitsFor", "(II)Z"⟩, prog_2_method_9_code, 3, (some FieldType.boolean))
set_option maxRecDepth 100000 in
theorem kc_Cars_waitsFor : Cond.code M_Cars_waitsFor.1 M_Cars_waitsFor.2.1 M_Cars_waitsFor.2.2.1 M_Cars_waitsFor.2.2.2 ∈ ktb := ktb_at 384 rfl rfl
abbrev M_Road_init : MI := (⟨"CarSeeds$Road", "<init>", "(II)V"⟩, prog_3_method_1_code, 3, none)
set_option maxRecDepth 100000 in
theorem kc_Road_init : Cond.code M_Road_init.1 M_Road_init.2.1 M_Road_init.2.2.1 M_Road_init.2.2.2 ∈ ktb := ktb_at 68 rfl rfl
abbrev M_Road_allowedBy : MI := (⟨"CarSeeds$Road", "allowedBy", "(I)I"⟩, prog_3_method_7_code, 1, (some FieldType.int))
set_option maxRecDepth 100000 in
theorem kc_Road_allowedBy : Cond.code M_Road_allowedBy.1 M_Road_allowedBy.2.1 M_Road_allowedBy.2.2.1 M_Road_allowedBy.2.2.2 ∈ ktb := ktb_at 437 rfl rfl
abbrev M_Road_changeTo : MI := (⟨"CarSeeds$Road", "changeTo", "(III)V"⟩, prog_3_method_14_code, 4, none)
set_option maxRecDepth 100000 in
theorem kc_Road_changeTo : Cond.code M_Road_changeTo.1 M_Road_changeTo.2.1 M_Road_changeTo.2.2.1 M_Road_changeTo.2.2.2 ∈ ktb := ktb_at 462 rfl rfl
abbrev M_Road_doStep : MI := (⟨"CarSeeds$Road", "doStep", "()V"⟩, prog_3_method_3_code, 2, none)
set_option maxRecDepth 100000 in
theorem kc_Road_doStep : Cond.code M_Road_doStep.1 M_Road_doStep.2.1 M_Road_doStep.2.2.1 M_Road_doStep.2.2.2 ∈ ktb := ktb_at 388 rfl rfl
abbrev M_Road_findNearMisses : MI := (⟨"CarSeeds$Road", "findNearMisses", "(I)V"⟩, prog_3_method_21_code, 7, none)
set_option maxRecDepth 100000 in
theorem kc_Road_findNearMisses : Cond.code M_Road_findNearMisses.1 M_Road_findNearMisses.2.1 M_Road_findNearMisses.2.2.1 M_Road_findNearMisses.2.2.2 ∈ ktb := ktb_at 494 rfl rfl
abbrev M_Road_gapIn : MI := (⟨"CarSeeds$Road", "gapIn", "(III)I"⟩, prog_3_method_4_code, 6, (some FieldType.int))
set_option maxRecDepth 100000 in
theorem kc_Road_gapIn : Cond.code M_Road_gapIn.1 M_Road_gapIn.2.1 M_Road_gapIn.2.2.1 M_Road_gapIn.2.2.2 ∈ ktb := ktb_at 412 rfl rfl
abbrev M_Road_hasRoom : MI := (⟨"CarSeeds$Road", "hasRoom", "(II)Z"⟩, prog_3_method_9_code, 4, (some FieldType.boolean))
set_option maxRecDepth 100000 in
theorem kc_Road_hasRoom : Cond.code M_Road_hasRoom.1 M_Road_hasRoom.2.1 M_Road_hasRoom.2.2.1 M_Road_hasRoom.2.2.2 ∈ ktb := ktb_at 396 rfl rfl
abbrev M_Road_isBetter : MI := (⟨"CarSeeds$Road", "isBetter", "(III)Z"⟩, prog_3_method_11_code, 5, (some FieldType.boolean))
set_option maxRecDepth 100000 in
theorem kc_Road_isBetter : Cond.code M_Road_isBetter.1 M_Road_isBetter.2.1 M_Road_isBetter.2.2.1 M_Road_isBetter.2.2.2 ∈ ktb := ktb_at 450 rfl rfl
abbrev M_Road_isFreeBefore : MI := (⟨"CarSeeds$Road", "isFreeBefore", "(III)Z"⟩, prog_3_method_12_code, 5, (some FieldType.boolean))
set_option maxRecDepth 100000 in
theorem kc_Road_isFreeBefore : Cond.code M_Road_isFreeBefore.1 M_Road_isFreeBefore.2.1 M_Road_isFreeBefore.2.2.1 M_Road_isFreeBefore.2.2.2 ∈ ktb := ktb_at 454 rfl rfl
abbrev M_Road_isFreeBehind : MI := (⟨"CarSeeds$Road", "isFreeBehind", "(III)Z"⟩, prog_3_method_13_code, 8, (some FieldType.boolean))
set_option maxRecDepth 100000 in
theorem kc_Road_isFreeBehind : Cond.code M_Road_isFreeBehind.1 M_Road_isFreeBehind.2.1 M_Road_isFreeBehind.2.2.1 M_Road_isFreeBehind.2.2.2 ∈ ktb := ktb_at 458 rfl rfl
abbrev M_Road_isIdle : MI := (⟨"CarSeeds$Road", "isIdle", "()Z"⟩, prog_3_method_2_code, 2, (some FieldType.boolean))
set_option maxRecDepth 100000 in
theorem kc_Road_isIdle : Cond.code M_Road_isIdle.1 M_Road_isIdle.2.1 M_Road_isIdle.2.2.1 M_Road_isIdle.2.2.2 ∈ ktb := ktb_at 376 rfl rfl
abbrev M_Road_isServed : MI := (⟨"CarSeeds$Road", "isServed", "(II)Z"⟩, prog_3_method_6_code, 3, (some FieldType.boolean))
set_option maxRecDepth 100000 in
theorem kc_Road_isServed : Cond.code M_Road_isServed.1 M_Road_isServed.2.1 M_Road_isServed.2.2.1 M_Road_isServed.2.2.2 ∈ ktb := ktb_at 434 rfl rfl
abbrev M_Road_letIn : MI := (⟨"CarSeeds$Road", "letIn", "(I)V"⟩, prog_3_method_8_code, 4, none)
set_option maxRecDepth 100000 in
theorem kc_Road_letIn : Cond.code M_Road_letIn.1 M_Road_letIn.2.1 M_Road_letIn.2.2.1 M_Road_letIn.2.2.2 ∈ ktb := ktb_at 392 rfl rfl
abbrev M_Road_letOut : MI := (⟨"CarSeeds$Road", "letOut", "(I)V"⟩, prog_3_method_20_code, 4, none)
set_option maxRecDepth 100000 in
theorem kc_Road_letOut : Cond.code M_Road_letOut.1 M_Road_letOut.2.1 M_Road_letOut.2.2.1 M_Road_letOut.2.2.2 ∈ ktb := ktb_at 490 rfl rfl
abbrev M_Road_lookAround : MI := (⟨"CarSeeds$Road", "lookAround", "(I)V"⟩, prog_3_method_10_code, 5, none)
set_option maxRecDepth 100000 in
theorem kc_Road_lookAround : Cond.code M_Road_lookAround.1 M_Road_lookAround.2.1 M_Road_lookAround.2.2.1 M_Road_lookAround.2.2.2 ∈ ktb := ktb_at 442 rfl rfl
abbrev M_Road_makeSpeeds : MI := (⟨"CarSeeds$Road", "makeSpeeds", "(I)V"⟩, prog_3_method_15_code, 7, none)
set_option maxRecDepth 100000 in
theorem kc_Road_makeSpeeds : Cond.code M_Road_makeSpeeds.1 M_Road_makeSpeeds.2.1 M_Road_makeSpeeds.2.2.1 M_Road_makeSpeeds.2.2.2 ∈ ktb := ktb_at 470 rfl rfl
abbrev M_Road_moveAll : MI := (⟨"CarSeeds$Road", "moveAll", "(I)V"⟩, prog_3_method_17_code, 6, none)
set_option maxRecDepth 100000 in
theorem kc_Road_moveAll : Cond.code M_Road_moveAll.1 M_Road_moveAll.2.1 M_Road_moveAll.2.2.1 M_Road_moveAll.2.2.2 ∈ ktb := ktb_at 478 rfl rfl
abbrev M_Road_nearestStop : MI := (⟨"CarSeeds$Road", "nearestStop", "(II)I"⟩, prog_3_method_5_code, 6, (some FieldType.int))
set_option maxRecDepth 100000 in
theorem kc_Road_nearestStop : Cond.code M_Road_nearestStop.1 M_Road_nearestStop.2.1 M_Road_nearestStop.2.2.1 M_Road_nearestStop.2.2.2 ∈ ktb := ktb_at 430 rfl rfl
abbrev M_Road_passLines : MI := (⟨"CarSeeds$Road", "passLines", "(III)V"⟩, prog_3_method_18_code, 6, none)
set_option maxRecDepth 100000 in
theorem kc_Road_passLines : Cond.code M_Road_passLines.1 M_Road_passLines.2.1 M_Road_passLines.2.2.1 M_Road_passLines.2.2.2 ∈ ktb := ktb_at 482 rfl rfl
abbrev M_Road_standAtStops : MI := (⟨"CarSeeds$Road", "standAtStops", "(I)V"⟩, prog_3_method_19_code, 4, none)
set_option maxRecDepth 100000 in
theorem kc_Road_standAtStops : Cond.code M_Road_standAtStops.1 M_Road_standAtStops.2.1 M_Road_standAtStops.2.2.1 M_Road_standAtStops.2.2.2 ∈ ktb := ktb_at 486 rfl rfl
abbrev M_Road_wishedSpeed : MI := (⟨"CarSeeds$Road", "wishedSpeed", "(I)I"⟩, prog_3_method_16_code, 4, (some FieldType.int))
set_option maxRecDepth 100000 in
theorem kc_Road_wishedSpeed : Cond.code M_Road_wishedSpeed.1 M_Road_wishedSpeed.2.1 M_Road_wishedSpeed.2.2.1 M_Road_wishedSpeed.2.2.2 ∈ ktb := ktb_at 474 rfl rfl
abbrev M_Rows_init : MI := (⟨"CarSeeds$Rows", "<init>", "()V"⟩, prog_4_method_1_code, 1, none)
set_option maxRecDepth 100000 in
theorem kc_Rows_init : Cond.code M_Rows_init.1 M_Rows_init.2.1 M_Rows_init.2.2.1 M_Rows_init.2.2.2 ∈ ktb := ktb_at 210 rfl rfl
abbrev M_Rows_carAt : MI := (⟨"CarSeeds$Rows", "carAt", "(II)I"⟩, prog_4_method_2_code, 3, (some FieldType.int))
set_option maxRecDepth 100000 in
theorem kc_Rows_carAt : Cond.code M_Rows_carAt.1 M_Rows_carAt.2.1 M_Rows_carAt.2.2.1 M_Rows_carAt.2.2.2 ∈ ktb := ktb_at 400 rfl rfl
abbrev M_Rows_copyFrom : MI := (⟨"CarSeeds$Rows", "copyFrom", "(LCarSeeds$Rows;)V"⟩, prog_4_method_5_code, 2, none)
set_option maxRecDepth 100000 in
theorem kc_Rows_copyFrom : Cond.code M_Rows_copyFrom.1 M_Rows_copyFrom.2.1 M_Rows_copyFrom.2.2.1 M_Rows_copyFrom.2.2.2 ∈ ktb := ktb_at 570 rfl rfl
abbrev M_Rows_insert : MI := (⟨"CarSeeds$Rows", "insert", "(III)V"⟩, prog_4_method_3_code, 6, none)
set_option maxRecDepth 100000 in
theorem kc_Rows_insert : Cond.code M_Rows_insert.1 M_Rows_insert.2.1 M_Rows_insert.2.2.1 M_Rows_insert.2.2.2 ∈ ktb := ktb_at 408 rfl rfl
abbrev M_Rows_remove : MI := (⟨"CarSeeds$Rows", "remove", "(II)V"⟩, prog_4_method_4_code, 5, none)
set_option maxRecDepth 100000 in
theorem kc_Rows_remove : Cond.code M_Rows_remove.1 M_Rows_remove.2.1 M_Rows_remove.2.2.1 M_Rows_remove.2.2.2 ∈ ktb := ktb_at 466 rfl rfl
abbrev M_State_init : MI := (⟨"CarSeeds$State", "<init>", "()V"⟩, prog_5_method_1_code, 1, none)
set_option maxRecDepth 100000 in
theorem kc_State_init : Cond.code M_State_init.1 M_State_init.2.1 M_State_init.2.2.1 M_State_init.2.2.2 ∈ ktb := ktb_at 133 rfl rfl
abbrev M_State_copyFrom : MI := (⟨"CarSeeds$State", "copyFrom", "(LCarSeeds$State;)V"⟩, prog_5_method_4_code, 2, none)
set_option maxRecDepth 100000 in
theorem kc_State_copyFrom : Cond.code M_State_copyFrom.1 M_State_copyFrom.2.1 M_State_copyFrom.2.2.1 M_State_copyFrom.2.2.2 ∈ ktb := ktb_at 559 rfl rfl
abbrev M_State_longestWaiter : MI := (⟨"CarSeeds$State", "longestWaiter", "(I)I"⟩, prog_5_method_3_code, 3, (some FieldType.int))
set_option maxRecDepth 100000 in
theorem kc_State_longestWaiter : Cond.code M_State_longestWaiter.1 M_State_longestWaiter.2.1 M_State_longestWaiter.2.2.1 M_State_longestWaiter.2.2.2 ∈ ktb := ktb_at 380 rfl rfl
abbrev M_State_rankFor : MI := (⟨"CarSeeds$State", "rankFor", "(II)I"⟩, prog_5_method_2_code, 5, (some FieldType.int))
set_option maxRecDepth 100000 in
theorem kc_State_rankFor : Cond.code M_State_rankFor.1 M_State_rankFor.2.1 M_State_rankFor.2.2.1 M_State_rankFor.2.2.2 ∈ ktb := ktb_at 446 rfl rfl
abbrev M_Things_init : MI := (⟨"CarSeeds$Things", "<init>", "()V"⟩, prog_6_method_1_code, 1, none)
set_option maxRecDepth 100000 in
theorem kc_Things_init : Cond.code M_Things_init.1 M_Things_init.2.1 M_Things_init.2.2.1 M_Things_init.2.2.2 ∈ ktb := ktb_at 74 rfl rfl
abbrev M_Things_addClosed : MI := (⟨"CarSeeds$Things", "addClosed", "(IIII)Z"⟩, prog_6_method_3_code, 5, (some FieldType.boolean))
set_option maxRecDepth 100000 in
theorem kc_Things_addClosed : Cond.code M_Things_addClosed.1 M_Things_addClosed.2.1 M_Things_addClosed.2.2.1 M_Things_addClosed.2.2.2 ∈ ktb := ktb_at 352 rfl rfl
abbrev M_Things_addLight : MI := (⟨"CarSeeds$Things", "addLight", "(III)Z"⟩, prog_6_method_2_code, 4, (some FieldType.boolean))
set_option maxRecDepth 100000 in
theorem kc_Things_addLight : Cond.code M_Things_addLight.1 M_Things_addLight.2.1 M_Things_addLight.2.2.1 M_Things_addLight.2.2.2 ∈ ktb := ktb_at 344 rfl rfl
abbrev M_Things_addLine : MI := (⟨"CarSeeds$Things", "addLine", "(I)I"⟩, prog_6_method_5_code, 2, (some FieldType.int))
set_option maxRecDepth 100000 in
theorem kc_Things_addLine : Cond.code M_Things_addLine.1 M_Things_addLine.2.1 M_Things_addLine.2.2.1 M_Things_addLine.2.2.2 ∈ ktb := ktb_at 368 rfl rfl
abbrev M_Things_addStop : MI := (⟨"CarSeeds$Things", "addStop", "(II)Z"⟩, prog_6_method_4_code, 3, (some FieldType.boolean))
set_option maxRecDepth 100000 in
theorem kc_Things_addStop : Cond.code M_Things_addStop.1 M_Things_addStop.2.1 M_Things_addStop.2.2.1 M_Things_addStop.2.2.2 ∈ ktb := ktb_at 360 rfl rfl
abbrev M_Things_isClosed : MI := (⟨"CarSeeds$Things", "isClosed", "(III)Z"⟩, prog_6_method_8_code, 4, (some FieldType.boolean))
set_option maxRecDepth 100000 in
theorem kc_Things_isClosed : Cond.code M_Things_isClosed.1 M_Things_isClosed.2.1 M_Things_isClosed.2.2.1 M_Things_isClosed.2.2.2 ∈ ktb := ktb_at 426 rfl rfl
abbrev M_Things_isRed : MI := (⟨"CarSeeds$Things", "isRed", "(II)Z"⟩, prog_6_method_7_code, 4, (some FieldType.boolean))
set_option maxRecDepth 100000 in
theorem kc_Things_isRed : Cond.code M_Things_isRed.1 M_Things_isRed.2.1 M_Things_isRed.2.2.1 M_Things_isRed.2.2.2 ∈ ktb := ktb_at 422 rfl rfl
abbrev M_Things_nearestForAll : MI := (⟨"CarSeeds$Things", "nearestForAll", "(IIII)I"⟩, prog_6_method_6_code, 8, (some FieldType.int))
set_option maxRecDepth 100000 in
theorem kc_Things_nearestForAll : Cond.code M_Things_nearestForAll.1 M_Things_nearestForAll.2.1 M_Things_nearestForAll.2.2.1 M_Things_nearestForAll.2.2.2 ∈ ktb := ktb_at 418 rfl rfl
abbrev M_L_cell : MI := (⟨"CarSeedsLaw", "cell", "([II)I"⟩, method_2_code, 2, (some FieldType.int))
set_option maxRecDepth 100000 in
theorem kc_L_cell : Cond.code M_L_cell.1 M_L_cell.2.1 M_L_cell.2.2.1 M_L_cell.2.2.2 ∈ ktb := ktb_at 587 rfl rfl
abbrev M_L_law : MI := (⟨"CarSeedsLaw", "law", "([I)Z"⟩, code, 4, (some FieldType.boolean))
abbrev M_M_init : MI := (⟨"CarSeedsModel", "<init>", "(JII)V"⟩, prog_8_method_1_code, 5, none)
set_option maxRecDepth 100000 in
theorem kc_M_init : Cond.code M_M_init.1 M_M_init.2.1 M_M_init.2.2.1 M_M_init.2.2.2 ∈ ktb := ktb_at 592 rfl rfl
abbrev M_M_allowed : MI := (⟨"CarSeedsModel", "allowed", "(I)I"⟩, prog_8_method_19_code, 1, (some FieldType.int))
set_option maxRecDepth 100000 in
theorem kc_M_allowed : Cond.code M_M_allowed.1 M_M_allowed.2.1 M_M_allowed.2.2.1 M_M_allowed.2.2.2 ∈ ktb := ktb_at 742 rfl rfl
abbrev M_M_back : MI := (⟨"CarSeedsModel", "back", "(I)I"⟩, prog_8_method_37_code, 3, (some FieldType.int))
set_option maxRecDepth 100000 in
theorem kc_M_back : Cond.code M_M_back.1 M_M_back.2.1 M_M_back.2.2.1 M_M_back.2.2.2 ∈ ktb := ktb_at 802 rfl rfl
abbrev M_M_before : MI := (⟨"CarSeedsModel", "before", "(II)I"⟩, prog_8_method_16_code, 6, (some FieldType.int))
set_option maxRecDepth 100000 in
theorem kc_M_before : Cond.code M_M_before.1 M_M_before.2.1 M_M_before.2.2.1 M_M_before.2.2.2 ∈ ktb := ktb_at 732 rfl rfl
abbrev M_M_cars : MI := (⟨"CarSeedsModel", "cars", "()I"⟩, prog_8_method_5_code, 1, (some FieldType.int))
set_option maxRecDepth 100000 in
theorem kc_M_cars : Cond.code M_M_cars.1 M_M_cars.2.1 M_M_cars.2.2.1 M_M_cars.2.2.2 ∈ ktb := ktb_at 667 rfl rfl
abbrev M_M_change : MI := (⟨"CarSeedsModel", "change", "(I)V"⟩, prog_8_method_22_code, 5, none)
set_option maxRecDepth 100000 in
theorem kc_M_change : Cond.code M_M_change.1 M_M_change.2.1 M_M_change.2.2.1 M_M_change.2.2.2 ∈ ktb := ktb_at 746 rfl rfl
abbrev M_M_close : MI := (⟨"CarSeedsModel", "close", "(IIII)Z"⟩, prog_8_method_12_code, 5, (some FieldType.boolean))
set_option maxRecDepth 100000 in
theorem kc_M_close : Cond.code M_M_close.1 M_M_close.2.1 M_M_close.2.2.1 M_M_close.2.2.2 ∈ ktb := ktb_at 688 rfl rfl
abbrev M_M_come : MI := (⟨"CarSeedsModel", "come", "(II)I"⟩, prog_8_method_9_code, 8, (some FieldType.int))
set_option maxRecDepth 100000 in
theorem kc_M_come : Cond.code M_M_come.1 M_M_come.2.1 M_M_come.2.2.1 M_M_come.2.2.2 ∈ ktb := ktb_at 660 rfl rfl
abbrev M_M_count : MI := (⟨"CarSeedsModel", "count", "(I)I"⟩, prog_8_method_38_code, 4, (some FieldType.int))
set_option maxRecDepth 100000 in
theorem kc_M_count : Cond.code M_M_count.1 M_M_count.2.1 M_M_count.2.2.1 M_M_count.2.2.2 ∈ ktb := ktb_at 806 rfl rfl
abbrev M_M_counted : MI := (⟨"CarSeedsModel", "counted", "(II)I"⟩, prog_8_method_31_code, 3, (some FieldType.int))
set_option maxRecDepth 100000 in
theorem kc_M_counted : Cond.code M_M_counted.1 M_M_counted.2.1 M_M_counted.2.2.1 M_M_counted.2.2.2 ∈ ktb := ktb_at 778 rfl rfl
abbrev M_M_drawn : MI := (⟨"CarSeedsModel", "drawn", "(II)I"⟩, prog_8_method_29_code, 3, (some FieldType.int))
set_option maxRecDepth 100000 in
theorem kc_M_drawn : Cond.code M_M_drawn.1 M_M_drawn.2.1 M_M_drawn.2.2.1 M_M_drawn.2.2.2 ∈ ktb := ktb_at 770 rfl rfl
abbrev M_M_enter : MI := (⟨"CarSeedsModel", "enter", "(I)V"⟩, prog_8_method_20_code, 4, none)
set_option maxRecDepth 100000 in
theorem kc_M_enter : Cond.code M_M_enter.1 M_M_enter.2.1 M_M_enter.2.2.1 M_M_enter.2.2.2 ∈ ktb := ktb_at 708 rfl rfl
abbrev M_M_gap : MI := (⟨"CarSeedsModel", "gap", "(I)I"⟩, prog_8_method_30_code, 2, (some FieldType.int))
set_option maxRecDepth 100000 in
theorem kc_M_gap : Cond.code M_M_gap.1 M_M_gap.2.1 M_M_gap.2.2.1 M_M_gap.2.2.2 ∈ ktb := ktb_at 774 rfl rfl
abbrev M_M_gapIn : MI := (⟨"CarSeedsModel", "gapIn", "(II)I"⟩, prog_8_method_18_code, 7, (some FieldType.int))
set_option maxRecDepth 100000 in
theorem kc_M_gapIn : Cond.code M_M_gapIn.1 M_M_gapIn.2.1 M_M_gapIn.2.2.1 M_M_gapIn.2.2.2 ∈ ktb := ktb_at 728 rfl rfl
abbrev M_M_isCar : MI := (⟨"CarSeedsModel", "isCar", "(I)Z"⟩, prog_8_method_27_code, 2, (some FieldType.boolean))
set_option maxRecDepth 100000 in
theorem kc_M_isCar : Cond.code M_M_isCar.1 M_M_isCar.2.1 M_M_isCar.2.2.1 M_M_isCar.2.2.2 ∈ ktb := ktb_at 766 rfl rfl
abbrev M_M_isOn : MI := (⟨"CarSeedsModel", "isOn", "(II)Z"⟩, prog_8_method_8_code, 3, (some FieldType.boolean))
set_option maxRecDepth 100000 in
theorem kc_M_isOn : Cond.code M_M_isOn.1 M_M_isOn.2.1 M_M_isOn.2.2.1 M_M_isOn.2.2.2 ∈ ktb := ktb_at 716 rfl rfl
abbrev M_M_isPlace : MI := (⟨"CarSeedsModel", "isPlace", "(I)Z"⟩, prog_8_method_10_code, 2, (some FieldType.boolean))
set_option maxRecDepth 100000 in
theorem kc_M_isPlace : Cond.code M_M_isPlace.1 M_M_isPlace.2.1 M_M_isPlace.2.2.1 M_M_isPlace.2.2.2 ∈ ktb := ktb_at 684 rfl rfl
abbrev M_M_lesser : MI := (⟨"CarSeedsModel", "lesser", "(II)I"⟩, prog_8_method_15_code, 2, (some FieldType.int))
set_option maxRecDepth 100000 in
theorem kc_M_lesser : Cond.code M_M_lesser.1 M_M_lesser.2.1 M_M_lesser.2.2.1 M_M_lesser.2.2.2 ∈ ktb := ktb_at 739 rfl rfl
abbrev M_M_light : MI := (⟨"CarSeedsModel", "light", "(III)Z"⟩, prog_8_method_11_code, 4, (some FieldType.boolean))
set_option maxRecDepth 100000 in
theorem kc_M_light : Cond.code M_M_light.1 M_M_light.2.1 M_M_light.2.2.1 M_M_light.2.2.2 ∈ ktb := ktb_at 680 rfl rfl
abbrev M_M_line : MI := (⟨"CarSeedsModel", "line", "(I)I"⟩, prog_8_method_14_code, 3, (some FieldType.int))
set_option maxRecDepth 100000 in
theorem kc_M_line : Cond.code M_M_line.1 M_M_line.2.1 M_M_line.2.2.1 M_M_line.2.2.2 ∈ ktb := ktb_at 696 rfl rfl
abbrev M_M_many : MI := (⟨"CarSeedsModel", "many", "(I)I"⟩, prog_8_method_33_code, 2, (some FieldType.int))
set_option maxRecDepth 100000 in
theorem kc_M_many : Cond.code M_M_many.1 M_M_many.2.1 M_M_many.2.2.1 M_M_many.2.2.2 ∈ ktb := ktb_at 786 rfl rfl
abbrev M_M_mayGo : MI := (⟨"CarSeedsModel", "mayGo", "(III)Z"⟩, prog_8_method_21_code, 8, (some FieldType.boolean))
set_option maxRecDepth 100000 in
theorem kc_M_mayGo : Cond.code M_M_mayGo.1 M_M_mayGo.2.1 M_M_mayGo.2.2.1 M_M_mayGo.2.2.2 ∈ ktb := ktb_at 750 rfl rfl
abbrev M_M_move : MI := (⟨"CarSeedsModel", "move", "(I)V"⟩, prog_8_method_24_code, 7, none)
set_option maxRecDepth 100000 in
theorem kc_M_move : Cond.code M_M_move.1 M_M_move.2.1 M_M_move.2.2.1 M_M_move.2.2.2 ∈ ktb := ktb_at 758 rfl rfl
abbrev M_M_nearer : MI := (⟨"CarSeedsModel", "nearer", "(IIIZ)I"⟩, prog_8_method_17_code, 4, (some FieldType.int))
set_option maxRecDepth 100000 in
theorem kc_M_nearer : Cond.code M_M_nearer.1 M_M_nearer.2.1 M_M_nearer.2.2.1 M_M_nearer.2.2.2 ∈ ktb := ktb_at 736 rfl rfl
abbrev M_M_now : MI := (⟨"CarSeedsModel", "now", "()I"⟩, prog_8_method_6_code, 1, (some FieldType.int))
set_option maxRecDepth 100000 in
theorem kc_M_now : Cond.code M_M_now.1 M_M_now.2.1 M_M_now.2.2.1 M_M_now.2.2.2 ∈ ktb := ktb_at 724 rfl rfl
abbrev M_M_of : MI := (⟨"CarSeedsModel", "of", "(II)I"⟩, prog_8_method_3_code, 3, (some FieldType.int))
set_option maxRecDepth 100000 in
theorem kc_M_of : Cond.code M_M_of.1 M_M_of.2.1 M_M_of.2.2.1 M_M_of.2.2.2 ∈ ktb := ktb_at 712 rfl rfl
abbrev M_M_ordered : MI := (⟨"CarSeedsModel", "ordered", "()Z"⟩, prog_8_method_35_code, 4, (some FieldType.boolean))
set_option maxRecDepth 100000 in
theorem kc_M_ordered : Cond.code M_M_ordered.1 M_M_ordered.2.1 M_M_ordered.2.2.1 M_M_ordered.2.2.2 ∈ ktb := ktb_at 794 rfl rfl
abbrev M_M_put : MI := (⟨"CarSeedsModel", "put", "(III)V"⟩, prog_8_method_4_code, 4, none)
set_option maxRecDepth 100000 in
theorem kc_M_put : Cond.code M_M_put.1 M_M_put.2.1 M_M_put.2.2.1 M_M_put.2.2.2 ∈ ktb := ktb_at 671 rfl rfl
abbrev M_M_rear : MI := (⟨"CarSeedsModel", "rear", "(I)I"⟩, prog_8_method_7_code, 2, (some FieldType.int))
set_option maxRecDepth 100000 in
theorem kc_M_rear : Cond.code M_M_rear.1 M_M_rear.2.1 M_M_rear.2.2.1 M_M_rear.2.2.2 ∈ ktb := ktb_at 720 rfl rfl
abbrev M_M_run : MI := (⟨"CarSeedsModel", "run", "(I)I"⟩, prog_8_method_26_code, 3, (some FieldType.int))
set_option maxRecDepth 100000 in
theorem kc_M_run : Cond.code M_M_run.1 M_M_run.2.1 M_M_run.2.2.1 M_M_run.2.2.2 ∈ ktb := ktb_at 700 rfl rfl
abbrev M_M_save : MI := (⟨"CarSeedsModel", "save", "(I)I"⟩, prog_8_method_36_code, 3, (some FieldType.int))
set_option maxRecDepth 100000 in
theorem kc_M_save : Cond.code M_M_save.1 M_M_save.2.1 M_M_save.2.2.1 M_M_save.2.2.2 ∈ ktb := ktb_at 798 rfl rfl
abbrev M_M_speeds : MI := (⟨"CarSeedsModel", "speeds", "()V"⟩, prog_8_method_23_code, 4, none)
set_option maxRecDepth 100000 in
theorem kc_M_speeds : Cond.code M_M_speeds.1 M_M_speeds.2.1 M_M_speeds.2.2.1 M_M_speeds.2.2.2 ∈ ktb := ktb_at 754 rfl rfl
abbrev M_M_step : MI := (⟨"CarSeedsModel", "step", "()V"⟩, prog_8_method_25_code, 4, none)
set_option maxRecDepth 100000 in
theorem kc_M_step : Cond.code M_M_step.1 M_M_step.2.1 M_M_step.2.2.1 M_M_step.2.2.2 ∈ ktb := ktb_at 704 rfl rfl
abbrev M_M_stop : MI := (⟨"CarSeedsModel", "stop", "(II)Z"⟩, prog_8_method_13_code, 3, (some FieldType.boolean))
set_option maxRecDepth 100000 in
theorem kc_M_stop : Cond.code M_M_stop.1 M_M_stop.2.1 M_M_stop.2.2.1 M_M_stop.2.2.2 ∈ ktb := ktb_at 692 rfl rfl
abbrev M_M_times : MI := (⟨"CarSeedsModel", "times", "()I"⟩, prog_8_method_32_code, 1, (some FieldType.int))
set_option maxRecDepth 100000 in
theorem kc_M_times : Cond.code M_M_times.1 M_M_times.2.1 M_M_times.2.2.1 M_M_times.2.2.2 ∈ ktb := ktb_at 782 rfl rfl
abbrev M_M_told : MI := (⟨"CarSeedsModel", "told", "(II)I"⟩, prog_8_method_28_code, 3, (some FieldType.int))
set_option maxRecDepth 100000 in
theorem kc_M_told : Cond.code M_M_told.1 M_M_told.2.1 M_M_told.2.2.1 M_M_told.2.2.2 ∈ ktb := ktb_at 762 rfl rfl
abbrev M_M_waiting : MI := (⟨"CarSeedsModel", "waiting", "(I)I"⟩, prog_8_method_34_code, 4, (some FieldType.int))
set_option maxRecDepth 100000 in
theorem kc_M_waiting : Cond.code M_M_waiting.1 M_M_waiting.2.1 M_M_waiting.2.2.1 M_M_waiting.2.2.2 ∈ ktb := ktb_at 790 rfl rfl
abbrev M_M_within : MI := (⟨"CarSeedsModel", "within", "(III)Z"⟩, prog_8_method_2_code, 3, (some FieldType.boolean))
set_option maxRecDepth 100000 in
theorem kc_M_within : Cond.code M_M_within.1 M_M_within.2.1 M_M_within.2.2.1 M_M_within.2.2.2 ∈ ktb := ktb_at 663 rfl rfl
set_option maxRecDepth 100000 in
theorem kco_obj : Cond.code objectInit ⟨#[0xb1]⟩ 1 none ∈ ktb := ktb_at 56 rfl rfl
set_option maxRecDepth 100000 in
theorem kco_max : Cond.code Lib.Math.max.name Lib.Math.max.code 2 (some .int) ∈ ktb := ktb_at 62 rfl rfl
set_option maxRecDepth 100000 in
theorem kco_min : Cond.code Lib.Math.min.name Lib.Math.min.code 2 (some .int) ∈ ktb := ktb_at 59 rfl rfl
end
section
/-! THE PURE MACHINE: a heap of numbered cells (shape, ints, longs, references), a frame of known locals and a stack; 'Go': the machine, at this frame and heap, comes to its method's end as Q says; 'wp': what one stretch of instructions asks for. -/
abbrev AH : Type := Nat × Nat × (Nat → Nat × Nat) × (Nat → Nat → Int32) × (Nat → Nat → Int64) × (Nat → Nat → Option Nat)
abbrev GT : Type := Launch × (Nat × Nat × (Nat → Int32)) × Nat × (Nat → ClassId) × (Nat → Nat → Nat) × (Nat → ClassId)
def gL (g : GT) : Launch := g.1
def gS (g : GT) : Nat := g.2.1.1
def gN (g : GT) : Nat := g.2.1.2.1
def gX (g : GT) : Nat → Int32 := g.2.1.2.2
def gB (g : GT) : Nat := g.2.2.1
def gC (g : GT) : Nat → ClassId := g.2.2.2.1
def gI (g : GT) : Nat → Nat → Nat := g.2.2.2.2.1
def gA (g : GT) : Nat → ClassId := g.2.2.2.2.2
def rv (B : Nat) : Option Nat → Value
  | none => .null
  | some q => .ref (B + q)
def cval (co B : Nat) (I : Nat → Nat → Int32) (J : Nat → Nat → Int64) (R : Nat → Nat → Option Nat) (k j : Nat) : Value :=
  match co with
  | 0 => .int (I k j)
  | 1 => .long (J k j)
  | _ => rv B (R k j)
def fco : FieldType → Nat
  | .long => 1
  | .object _ => 2
  | .array _ => 2
  | _ => 0
def cAtS (g : GT) (h : AH) (H : Heap) (k : Nat) (s : Nat × Nat) : Prop :=
  match s with
  | (0, 0) => True
  | (0, c + 1) => ∃ q : vw_C, kcl[c]? = some q ∧ t_OB (gB g + k) (gC g c) q.2.2 (gI g c) H (fun j => cval (fco (ktyp c j)) (gB g) h.2.2.2.1 h.2.2.2.2.1 h.2.2.2.2.2 k j)
  | (t + 1, len) => t < kna ∧ H[gB g + k]? = some (arrV (gA g t) len (fun j => cval (fco (kak t)) (gB g) h.2.2.2.1 h.2.2.2.2.1 h.2.2.2.2.2 k j))
def RT (g : GT) (s : State) : Prop :=
  (∀ (c : Nat) (q : vw_C), kcl[c]? = some q → u_Kn s q.1 q.2.1 q.2.2 (gC g c) (gI g c)) ∧ (∀ t, t < kna → ArrOfT s (gA g t) (kak t) ∧ va_RA s (gA g t) (kak t)) ∧ (∀ w ∈ knst, va_Nw w s) ∧ (∀ C ∈ kao, va_AO C s)
def RH (g : GT) (h : AH) (H : Heap) : Prop :=
  H.size = gB g + h.1 ∧ (∀ k, cAtS g h H k (h.2.2.1 k)) ∧ (∀ k, h.1 ≤ k → h.2.2.1 k = (0, 0)) ∧ gS g < gB g
theorem RT.moved {g : GT} {s U : State} (hW : s.WarmedH U.vm) (h : RT g s) : RT g U := by
  obtain ⟨h1, h2, h3, h4⟩ := h
  refine ⟨fun c q hq => u_Kn_moved hW.alike (h1 c q hq), fun t ht => ⟨arrOfT_moved hW.alike (h2 t ht).1, (h2 t ht).2.moved hW.alike⟩, fun w hw => knst_moved hW w hw (h3 w hw), fun C hC => (h4 C hC).moved hW.alike⟩
theorem RT.same {g : GT} {s U : State} (hv : s.vm = U.vm) (h : RT g s) : RT g U := by
  obtain ⟨h1, h2, h3, h4⟩ := h
  have ha : s.vm.Alike U.vm := by rw [hv]; exact Vm.Alike.refl _
  refine ⟨fun c q hq => u_Kn_moved ha (h1 c q hq), fun t ht => ⟨arrOfT_moved ha (h2 t ht).1, (h2 t ht).2.moved ha⟩, fun w hw => (h3 w hw).same (knst_tab w hw) hv, fun C hC => (h4 C hC).moved ha⟩
theorem RH.obj {g : GT} {h : AH} {H : Heap} {k c : Nat} {q : vw_C} (hR : RH g h H) (hS : h.2.2.1 k = (0, c + 1)) (hq : kcl[c]? = some q) :
    t_OB (gB g + k) (gC g c) q.2.2 (gI g c) H (fun j => cval (fco (ktyp c j)) (gB g) h.2.2.2.1 h.2.2.2.2.1 h.2.2.2.2.2 k j) := by
  have h1 := hR.2.1 k
  rw [hS] at h1
  obtain ⟨q', e, h2⟩ := h1
  cases e.symm.trans hq
  exact h2
theorem RH.cls {g : GT} {h : AH} {H : Heap} {k c : Nat} (hR : RH g h H) (hS : h.2.2.1 k = (0, c + 1)) : ∃ q, kcl[c]? = some q := by
  have h1 := hR.2.1 k
  rw [hS] at h1
  obtain ⟨q', e, h2⟩ := h1
  exact ⟨q', e⟩
theorem RH.arr {g : GT} {h : AH} {H : Heap} {k t len : Nat} (hR : RH g h H) (hS : h.2.2.1 k = (t + 1, len)) :
    t < kna ∧ H[gB g + k]? = some (arrV (gA g t) len (fun j => cval (fco (kak t)) (gB g) h.2.2.2.1 h.2.2.2.2.1 h.2.2.2.2.2 k j)) := by
  have h1 := hR.2.1 k
  rw [hS] at h1
  exact h1
theorem cAtS.kept {g : GT} {h h' : AH} {H H' : Heap} {k : Nat} {s : Nat × Nat} (hc : cAtS g h H k s) (hH : H'[gB g + k]? = H[gB g + k]?) (hI : h'.2.2.2.1 k = h.2.2.2.1 k) (hJ : h'.2.2.2.2.1 k = h.2.2.2.2.1 k) (hR : h'.2.2.2.2.2 k = h.2.2.2.2.2 k) : cAtS g h' H' k s := by
  have hv : ∀ co j, cval co (gB g) h'.2.2.2.1 h'.2.2.2.2.1 h'.2.2.2.2.2 k j = cval co (gB g) h.2.2.2.1 h.2.2.2.2.1 h.2.2.2.2.2 k j := by
    intro co j
    unfold cval
    rw [hI, hJ, hR]
  match s, hc with
  | (0, 0), _ => trivial
  | (0, c + 1), ⟨q, hq, ho⟩ => exact ⟨q, hq, (ho.kept hH).to (fun j _ => (hv _ j).symm)⟩
  | (t + 1, len), hc =>
    refine ⟨hc.1, ?_⟩
    rw [hH, hc.2]
    congr 2
    funext j
    exact (hv _ j).symm
/-- one cell changed -/
theorem RH.put {g : GT} {n z : Nat} {S : Nat → Nat × Nat} {I I' : Nat → Nat → Int32} {J J' : Nat → Nat → Int64} {R R' : Nat → Nat → Option Nat} {H H' : Heap} {k : Nat} (hR : RH g (n, z, S, I, J, R) H) (hz : H'.size = H.size) (ho : ∀ q, q ≠ gB g + k → H'[q]? = H[q]?)
    (hI : ∀ a, a ≠ k → I' a = I a) (hJ : ∀ a, a ≠ k → J' a = J a) (hRr : ∀ a, a ≠ k → R' a = R a) (hc : cAtS g (n, z, S, I', J', R') H' k (S k)) : RH g (n, z, S, I', J', R') H' := by
  obtain ⟨h1, h2, h3, h4⟩ := hR
  refine ⟨hz.trans h1, fun a => ?_, h3, h4⟩
  by_cases ha : a = k
  · subst ha; exact hc
  · exact (h2 a).kept (h := (n, z, S, I, J, R)) (ho _ (by omega)) (hI a ha) (hJ a ha) (hRr a ha)
/-- one cell more -/
theorem RH.push {g : GT} {n z w : Nat} {S : Nat → Nat × Nat} {I I' : Nat → Nat → Int32} {J J' : Nat → Nat → Int64} {R R' : Nat → Nat → Option Nat} {H H' : Heap} {sh : Nat × Nat} (hR : RH g (n, z, S, I, J, R) H) (hz : H'.size = H.size + 1) (ho : ∀ q, q < H.size → H'[q]? = H[q]?)
    (hI : ∀ a, a ≠ n → I' a = I a) (hJ : ∀ a, a ≠ n → J' a = J a) (hRr : ∀ a, a ≠ n → R' a = R a) (hc : cAtS g (n + 1, w, va_up S n sh, I', J', R') H' n sh) : RH g (n + 1, w, va_up S n sh, I', J', R') H' := by
  obtain ⟨h1, h2, h3, h4⟩ := hR
  refine ⟨by rw [hz, h1]; show gB g + n + 1 = gB g + (n + 1); omega, fun a => ?_, fun a ha => ?_, h4⟩
  · by_cases ha : a = n
    · subst ha
      show cAtS g _ H' a (va_up S a sh a)
      rw [va_up_self]
      exact hc
    · show cAtS g _ H' a (va_up S n sh a)
      rw [va_up_ne _ _ ha]
      by_cases hl : a < n
      · exact (h2 a).kept (h := (n, z, S, I, J, R)) (ho _ (by rw [h1]; show gB g + a < gB g + n; omega)) (hI a ha) (hJ a ha) (hRr a ha)
      · have e : S a = (0, 0) := h3 a (Nat.le_of_not_lt hl)
        rw [e]
        trivial
  · show va_up S n sh a = (0, 0)
    have ha' : n + 1 ≤ a := ha
    rw [va_up_ne _ _ (by omega)]
    exact h3 a (by show n ≤ a; omega)
end
section
/-! LOCALS of the pure machine: a list, none where nothing is known -/
def lgt : List (Option Value) → Nat → Option Value
  | [], _ => none
  | o :: _, 0 => o
  | _ :: t, i + 1 => lgt t i
def lclr : Option Value → Option Value
  | some (.long _) => none
  | some (.double _) => none
  | o => o
def lst (v : Value) : Nat → List (Option Value) → List (Option Value)
  | _, [] => []
  | 0, _ :: t => some v :: t
  | 1, a :: t => lclr a :: (match t with | [] => [] | _ :: t' => some v :: t')
  | i + 2, a :: t => a :: lst v (i + 1) t
def lst2 (v : Value) : Nat → List (Option Value) → List (Option Value)
  | _, [] => []
  | 0, _ :: t => some v :: (match t with | [] => [] | _ :: t' => none :: t')
  | 1, a :: t => lclr a :: (match t with | [] => [] | _ :: t' => some v :: (match t' with | [] => [] | _ :: t'' => none :: t''))
  | i + 2, a :: t => a :: lst2 v (i + 1) t
def asc : Nat → List (Option Value) → List (Nat × Value)
  | _, [] => []
  | k, none :: t => asc (k + 1) t
  | k, some v :: t => (k, v) :: asc (k + 1) t
def ent : List Value → List (Option Value)
  | [] => []
  | v :: t => match v with
    | .long _ => some v :: none :: ent t
    | .double _ => some v :: none :: ent t
    | _ => some v :: ent t
def entN (as : List Value) (n : Nat) : List (Option Value) := ent as ++ List.replicate (n - (ent as).length) none
theorem lgt_nil (i : Nat) : lgt [] i = none := by cases i <;> rfl
theorem lgt_zero (o : Option Value) (t : List (Option Value)) : lgt (o :: t) 0 = o := rfl
theorem lgt_succ (o : Option Value) (t : List (Option Value)) (i : Nat) : lgt (o :: t) (i + 1) = lgt t i := rfl
theorem asc_mem : ∀ (l : List (Option Value)) (k : Nat) (q : Nat × Value), q ∈ asc k l ↔ ∃ i, q.1 = k + i ∧ lgt l i = some q.2
  | [], k, q => by
    constructor
    · intro h; cases h
    · rintro ⟨i, -, h⟩
      rw [lgt_nil] at h
      cases h
  | none :: t, k, q => by
    have ih := asc_mem t (k + 1) q
    show q ∈ asc (k + 1) t ↔ _
    rw [ih]
    constructor
    · rintro ⟨i, h1, h2⟩
      exact ⟨i + 1, by omega, h2⟩
    · rintro ⟨i, h1, h2⟩
      cases i with
      | zero => cases h2
      | succ i => exact ⟨i, by omega, h2⟩
  | some v :: t, k, q => by
    have ih := asc_mem t (k + 1) q
    show q ∈ (k, v) :: asc (k + 1) t ↔ _
    rw [List.mem_cons, ih]
    constructor
    · rintro (h | ⟨i, h1, h2⟩)
      · exact ⟨0, by rw [h]; rfl, by rw [h]; rfl⟩
      · exact ⟨i + 1, by omega, h2⟩
    · rintro ⟨i, h1, h2⟩
      cases i with
      | zero =>
        left
        have h3 : v = q.2 := Option.some.inj h2
        obtain ⟨q1, q2⟩ := q
        simp only at h1 h3
        rw [h3, h1]
        rfl
      | succ i => exact Or.inr ⟨i, by omega, h2⟩
theorem lclr_spec {o : Option Value} {w : Value} (h : lclr o = some w) : o = some w ∧ ¬ w.category = 2 := by
  cases o with
  | none => cases h
  | some v => cases v <;> first | (cases h; exact ⟨rfl, by decide⟩) | (cases h; exact ⟨rfl, by simp [Value.category]⟩) | cases h
theorem lst_len (v : Value) : ∀ (i : Nat) (l : List (Option Value)), (lst v i l).length = l.length
  | 0, [] => rfl
  | _ + 1, [] => by simp [lst]
  | 0, _ :: _ => rfl
  | 1, a :: t => by cases t <;> rfl
  | i + 2, a :: t => by
    show (lst v (i + 1) t).length + 1 = _
    rw [lst_len v (i + 1) t]
    rfl
theorem lst2_len (v : Value) : ∀ (i : Nat) (l : List (Option Value)), (lst2 v i l).length = l.length
  | 0, [] => rfl
  | _ + 1, [] => by simp [lst2]
  | 0, _ :: t => by cases t <;> rfl
  | 1, a :: t => by
    cases t with
    | nil => rfl
    | cons b t => cases t <;> rfl
  | i + 2, a :: t => by
    show (lst2 v (i + 1) t).length + 1 = _
    rw [lst2_len v (i + 1) t]
    rfl
theorem lst_spec (v : Value) : ∀ (i : Nat) (l : List (Option Value)) (j : Nat) (w : Value), lgt (lst v i l) j = some w → (j = i ∧ w = v) ∨ (lgt l j = some w ∧ j ≠ i ∧ ¬ (j + 1 = i ∧ w.category = 2))
  | 0, [], j, w, h => by rw [show lst v 0 [] = [] from rfl, lgt_nil] at h; cases h
  | i + 1, [], j, w, h => by rw [show lst v (i + 1) [] = [] by simp [lst], lgt_nil] at h; cases h
  | 0, a :: t, 0, w, h => Or.inl ⟨rfl, (Option.some.inj h).symm⟩
  | 0, a :: t, j + 1, w, h => Or.inr ⟨h, by omega, by omega⟩
  | 1, a :: [], 0, w, h => by
    obtain ⟨h1, h2⟩ := lclr_spec (o := a) h
    exact Or.inr ⟨h1, by omega, fun q => h2 q.2⟩
  | 1, a :: [], j + 1, w, h => by
    have h' : lgt [] j = some w := h
    rw [lgt_nil] at h'
    cases h'
  | 1, a :: b :: t, 0, w, h => by
    obtain ⟨h1, h2⟩ := lclr_spec (o := a) h
    exact Or.inr ⟨h1, by omega, fun q => h2 q.2⟩
  | 1, a :: b :: t, 1, w, h => Or.inl ⟨rfl, (Option.some.inj h).symm⟩
  | 1, a :: b :: t, j + 2, w, h => Or.inr ⟨h, by omega, by omega⟩
  | i + 2, a :: t, 0, w, h => Or.inr ⟨h, by omega, by omega⟩
  | i + 2, a :: t, j + 1, w, h => by
    rcases lst_spec v (i + 1) t j w h with ⟨h1, h2⟩ | ⟨h1, h2, h3⟩
    · exact Or.inl ⟨by omega, h2⟩
    · exact Or.inr ⟨h1, by omega, fun q => h3 ⟨by omega, q.2⟩⟩
theorem lst2_spec (v : Value) : ∀ (i : Nat) (l : List (Option Value)) (j : Nat) (w : Value), lgt (lst2 v i l) j = some w → (j = i ∧ w = v) ∨ (lgt l j = some w ∧ j ≠ i ∧ j ≠ i + 1 ∧ ¬ (j + 1 = i ∧ w.category = 2))
  | 0, [], j, w, h => by rw [show lst2 v 0 [] = [] from rfl, lgt_nil] at h; cases h
  | i + 1, [], j, w, h => by rw [show lst2 v (i + 1) [] = [] by simp [lst2], lgt_nil] at h; cases h
  | 0, a :: t, 0, w, h => Or.inl ⟨rfl, (Option.some.inj h).symm⟩
  | 0, a :: [], j + 1, w, h => by
    have h' : lgt [] j = some w := h
    rw [lgt_nil] at h'
    cases h'
  | 0, a :: b :: t, 1, w, h => by cases h
  | 0, a :: b :: t, j + 2, w, h => Or.inr ⟨h, by omega, by omega, by omega⟩
  | 1, a :: [], 0, w, h => by
    obtain ⟨h1, h2⟩ := lclr_spec (o := a) h
    exact Or.inr ⟨h1, by omega, by omega, fun q => h2 q.2⟩
  | 1, a :: [], j + 1, w, h => by
    have h' : lgt [] j = some w := h
    rw [lgt_nil] at h'
    cases h'
  | 1, a :: b :: t, 0, w, h => by
    obtain ⟨h1, h2⟩ := lclr_spec (o := a) h
    exact Or.inr ⟨h1, by omega, by omega, fun q => h2 q.2⟩
  | 1, a :: b :: t, 1, w, h => Or.inl ⟨rfl, (Option.some.inj h).symm⟩
  | 1, a :: b :: [], j + 2, w, h => by
    have h' : lgt [] j = some w := h
    rw [lgt_nil] at h'
    cases h'
  | 1, a :: b :: c :: t, 2, w, h => by cases h
  | 1, a :: b :: c :: t, j + 3, w, h => Or.inr ⟨h, by omega, by omega, by omega⟩
  | i + 2, a :: t, 0, w, h => Or.inr ⟨h, by omega, by omega, by omega⟩
  | i + 2, a :: t, j + 1, w, h => by
    rcases lst2_spec v (i + 1) t j w h with ⟨h1, h2⟩ | ⟨h1, h2, h3, h4⟩
    · exact Or.inl ⟨by omega, h2⟩
    · exact Or.inr ⟨h1, by omega, by omega, fun q => h4 ⟨by omega, q.2⟩⟩
def LV (ls' : Array Slot) (nL : Nat) (ls : List (Option Value)) : Prop := lv_has ls' nL (asc 0 ls) ∧ ls.length = nL
theorem LV.get {ls' : Array Slot} {nL : Nat} {ls : List (Option Value)} (h : LV ls' nL ls) {i : Nat} {v : Value} (hi : lgt ls i = some v) : ls'[i]? = some (.val v) :=
  h.1.2.2 (i, v) ((asc_mem ls 0 (i, v)).mpr ⟨i, by simp, hi⟩)
theorem LV.put {ls' : Array Slot} {nL i : Nat} {ls : List (Option Value)} {v : Value} (hl : ls.length = nL) (h : lv_has ls' nL ((i, v) :: (asc 0 ls).filter (fun q => !(q.1 == i) && !(q.1 + 1 == i && q.2.category == 2)))) : LV ls' nL (lst v i ls) := by
  refine ⟨⟨h.1, h.2.1, fun q hq => ?_⟩, by rw [lst_len]; exact hl⟩
  obtain ⟨j, h1, h2⟩ := (asc_mem _ 0 q).mp hq
  have e : q.1 = j := by omega
  refine h.2.2 q ?_
  rcases lst_spec v i ls j q.2 h2 with ⟨h3, h4⟩ | ⟨h3, h4, h5⟩
  · rw [List.mem_cons]
    left
    obtain ⟨q1, q2⟩ := q
    simp only at h4 e
    rw [h4, e, h3]
  · refine List.mem_cons_of_mem _ (List.mem_filter.mpr ⟨(asc_mem ls 0 q).mpr ⟨j, h1, h3⟩, ?_⟩)
    rw [e]
    simp only [Bool.and_eq_true, Bool.not_eq_true', beq_eq_false_iff_ne, ne_eq, Bool.and_eq_false_iff]
    refine ⟨h4, ?_⟩
    by_cases h6 : j + 1 = i
    · right
      exact fun q => h5 ⟨h6, q⟩
    · left
      exact h6
theorem LV.put2 {ls' : Array Slot} {nL i : Nat} {ls : List (Option Value)} {v : Value} (hl : ls.length = nL) (h : lv_has ls' nL ((i, v) :: (asc 0 ls).filter (fun q => !(q.1 == i) && (!(q.1 == i + 1) && !(q.1 + 1 == i && q.2.category == 2))))) : LV ls' nL (lst2 v i ls) := by
  refine ⟨⟨h.1, h.2.1, fun q hq => ?_⟩, by rw [lst2_len]; exact hl⟩
  obtain ⟨j, h1, h2⟩ := (asc_mem _ 0 q).mp hq
  have e : q.1 = j := by omega
  refine h.2.2 q ?_
  rcases lst2_spec v i ls j q.2 h2 with ⟨h3, h4⟩ | ⟨h3, h4, h7, h5⟩
  · rw [List.mem_cons]
    left
    obtain ⟨q1, q2⟩ := q
    simp only at h4 e
    rw [h4, e, h3]
  · refine List.mem_cons_of_mem _ (List.mem_filter.mpr ⟨(asc_mem ls 0 q).mpr ⟨j, h1, h3⟩, ?_⟩)
    rw [e]
    simp only [Bool.and_eq_true, Bool.not_eq_true', beq_eq_false_iff_ne, ne_eq, Bool.and_eq_false_iff]
    refine ⟨h4, h7, ?_⟩
    by_cases h6 : j + 1 = i
    · right
      exact fun q => h5 ⟨h6, q⟩
    · left
      exact h6
theorem ent_args : ∀ (as : List Value) (k : Nat) (q : Nat × Value), q ∈ asc k (ent as) → q ∈ lv_args k as
  | [], k, q, h => by cases h
  | v :: t, k, q, h => by
    have h1 := ent_args t (k + 1) q
    have h2 := ent_args t (k + 2) q
    cases v with
    | long x =>
      have h' : q ∈ (k, Value.long x) :: asc (k + 1 + 1) (ent t) := h
      show q ∈ (k, Value.long x) :: lv_args (k + 2) t
      rcases List.mem_cons.mp h' with h | h
      · exact h ▸ List.mem_cons_self
      · exact List.mem_cons_of_mem _ (h2 h)
    | double x =>
      have h' : q ∈ (k, Value.double x) :: asc (k + 1 + 1) (ent t) := h
      show q ∈ (k, Value.double x) :: lv_args (k + 2) t
      rcases List.mem_cons.mp h' with h | h
      · exact h ▸ List.mem_cons_self
      · exact List.mem_cons_of_mem _ (h2 h)
    | int x =>
      have h' : q ∈ (k, Value.int x) :: asc (k + 1) (ent t) := h
      show q ∈ (k, Value.int x) :: lv_args (k + 1) t
      rcases List.mem_cons.mp h' with h | h
      · exact h ▸ List.mem_cons_self
      · exact List.mem_cons_of_mem _ (h1 h)
    | float x =>
      have h' : q ∈ (k, Value.float x) :: asc (k + 1) (ent t) := h
      show q ∈ (k, Value.float x) :: lv_args (k + 1) t
      rcases List.mem_cons.mp h' with h | h
      · exact h ▸ List.mem_cons_self
      · exact List.mem_cons_of_mem _ (h1 h)
    | null =>
      have h' : q ∈ (k, Value.null) :: asc (k + 1) (ent t) := h
      show q ∈ (k, Value.null) :: lv_args (k + 1) t
      rcases List.mem_cons.mp h' with h | h
      · exact h ▸ List.mem_cons_self
      · exact List.mem_cons_of_mem _ (h1 h)
    | ref x =>
      have h' : q ∈ (k, Value.ref x) :: asc (k + 1) (ent t) := h
      show q ∈ (k, Value.ref x) :: lv_args (k + 1) t
      rcases List.mem_cons.mp h' with h | h
      · exact h ▸ List.mem_cons_self
      · exact List.mem_cons_of_mem _ (h1 h)
    | retAddr x =>
      have h' : q ∈ (k, Value.retAddr x) :: asc (k + 1) (ent t) := h
      show q ∈ (k, Value.retAddr x) :: lv_args (k + 1) t
      rcases List.mem_cons.mp h' with h | h
      · exact h ▸ List.mem_cons_self
      · exact List.mem_cons_of_mem _ (h1 h)
theorem asc_pad : ∀ (l : List (Option Value)) (n k : Nat), asc k (l ++ List.replicate n none) = asc k l
  | [], 0, k => rfl
  | [], n + 1, k => by
    have := asc_pad [] n (k + 1)
    exact this
  | none :: t, n, k => asc_pad t n (k + 1)
  | some v :: t, n, k => by
    show (k, v) :: asc (k + 1) (t ++ List.replicate n none) = (k, v) :: asc (k + 1) t
    rw [asc_pad t n (k + 1)]
theorem ent_len : ∀ as : List Value, (ent as).length = (lg_sl as).length
  | [] => rfl
  | v :: t => by
    have ih := ent_len t
    cases v <;> simp_all [ent, lg_sl, Value.category]
theorem LV.entry {as : List Value} {n : Nat} (h : (ent as).length ≤ n) : LV ((lg_sl as ++ List.replicate (n - (lg_sl as).length) Slot.unset).toArray) n (entN as n) := by
  have h0 := lv_entry as (n := n) (by rw [← ent_len]; exact h)
  refine ⟨⟨h0.1, h0.2.1, fun q hq => h0.2.2 q ?_⟩, ?_⟩
  · rw [entN, asc_pad] at hq
    exact ent_args as 0 q hq
  · simp [entN]
    omega
end
section
/-! CONTRACTS (Cn), the walk (Go), what a stretch asks for (wp) -/
abbrev XT : Type := GT × MI × Nat × Nat × Nat × Nat × Nat × (Option Value → AH → Prop)
def XQ (g : GT) (n1 z1 : Nat) (Q : Option Value → AH → Prop) : Array Value → State → Outcome → State → Prop := fun _ st o t =>
  (∃ (r : Option Value) (h' : AH), o = .returned r ∧ Q r h' ∧ h'.1 = n1 ∧ h'.2.1 = z1 ∧ RH g h' t.heap) ∧ va_F (fun q => gB g ≤ q) st t
def Cn (g : GT) (mi : MI) (d mc ms : Nat) (as : List Value) (h : AH) (Q : Option Value → AH → Prop) : Prop :=
  Cond.code mi.1 mi.2.1 mi.2.2.1 mi.2.2.2 ∈ ktb ∧ Met (gL g) mi.1 (Cond.code mi.1 mi.2.1 mi.2.2.1 mi.2.2.2 :: ktb) { frames := d, cells := mc, slots := ms, locals := 40 * d } (va_Pc as (fun U => RT g U ∧ RH g h U.heap ∧ va_X (gS g) (gN g) (gX g) U U.heap)) (XQ g (h.1 + mc) (h.2.1 + ms) Q) mc ms (fun q => gB g ≤ q)
/-- what stands at every instruction of a method -/
def CX (x : XT) (p : Program) (R : Room) (s : State) (m : MethodId) (args : Array Value) (meth : Method) (c : Code) : Prop :=
  p.tables.exec = Jvm.exec ∧ c.code = x.2.1.2.1 ∧ meth.sig.returnType = x.2.1.2.2.2 ∧ c.maxLocals = x.2.1.2.2.1 ∧ s.vm.findClass x.2.1.1.cls = some m.cls ∧ (∀ w ∈ ktb, w.before args s = true) ∧ meth.locks = false ∧ meth.name = x.2.1.1.name ∧
  x.2.2.1 ≤ R.frames ∧ 40 * x.2.2.1 ≤ R.locals ∧ x.2.2.2.2.2.1 ≤ R.cells ∧ x.2.2.2.2.2.2.1 ≤ R.slots ∧ RT x.1 s ∧ va_X (gS x.1) (gN x.1) (gX x.1) s s.heap ∧ gB x.1 ≤ s.heap.size
def Go (x : XT) (pc : Nat) (ls : List (Option Value)) (st : List Value) (h : AH) : Prop :=
  ∀ (p : Program) (e : Env) (R : Room) (s : State) (m : MethodId) (args : Array Value) (below : List Frame) (meth : Method) (c : Code) (H : Heap) (locs : List Loc) (ls' : Array Slot) (k w : Nat),
    CX x p R s m args meth c → RH x.1 h H → va_S (fun q => gB x.1 ≤ q) s.heap H locs → LV ls' x.2.1.2.2.1 ls → h.1 = x.2.2.2.1 + k ∧ k ≤ x.2.2.2.2.2.1 → h.2.1 = x.2.2.2.2.1 + w ∧ w ≤ x.2.2.2.2.2.2.1 →
    W p (gL x.1) e R s m args below meth c H locs k w (MQ below (XQ x.1 (x.2.2.2.1 + x.2.2.2.2.2.1) (x.2.2.2.2.1 + x.2.2.2.2.2.2.1) x.2.2.2.2.2.2.2) args s x.2.2.2.2.2.1 x.2.2.2.2.2.2.1 (fun q => gB x.1 ≤ q)) (F0 m pc ls' st)
abbrev LK : Type := (Nat × Nat × Nat) × Int32 × Int64 × MI × List (Int32 × Nat)
abbrev IT : Type := Instr × Nat × LK × List Nat
def mi0 : MI := (⟨"", "", ""⟩, ByteArray.empty, 0, none)
def oN (a b c : Nat) : LK := ((a, b, c), 0, 0, mi0, [])
def oI (v : Int32) : LK := ((0, 0, 0), v, 0, mi0, [])
def oJ (a : Nat) (v : Int32) : LK := ((a, 0, 0), v, 0, mi0, [])
def oL (v : Int64) : LK := ((0, 0, 0), 0, v, mi0, [])
def oM (m : MI) (a b : Nat) : LK := ((a, b, 0), 0, 0, m, [])
def oS (d : Nat) (cs : List (Int32 × Nat)) : LK := ((d, 0, 0), 0, 0, mi0, cs)
abbrev FT : Type := List (Option Value) → List Value → AH → Prop
abbrev KT : Type := Nat → List (Option Value) → List Value → AH → Prop
def e_i (o : Option Value) (f : Int32 → Prop) : Prop := match o with | some (.int v) => f v | _ => False
def e_l (o : Option Value) (f : Int64 → Prop) : Prop := match o with | some (.long v) => f v | _ => False
def e_a (o : Option Value) (f : Value → Prop) : Prop := match o with | some (.ref q) => f (.ref q) | some .null => f .null | _ => False
def p_i (st : List Value) (f : Int32 → List Value → Prop) : Prop := match st with | .int v :: r => f v r | _ => False
def p_l (st : List Value) (f : Int64 → List Value → Prop) : Prop := match st with | .long v :: r => f v r | _ => False
def p_a (st : List Value) (f : Value → List Value → Prop) : Prop := match st with | .ref q :: r => f (.ref q) r | .null :: r => f .null r | _ => False
def p_ii (st : List Value) (f : Int32 → Int32 → List Value → Prop) : Prop := match st with | .int b :: .int a :: r => f a b r | _ => False
def p_ll (st : List Value) (f : Int64 → Int64 → List Value → Prop) : Prop := match st with | .long b :: .long a :: r => f a b r | _ => False
def rs (r : List Value) : Nat := (r.map fun v => v.category).sum
/-- a call: by the callee's contract -/
def e_call (x : XT) (mi : MI) (nA : Nat) (F : FT) (ls : List (Option Value)) (st : List Value) (h : AH) : Prop :=
  ∃ (d mc ms : Nat) (Q : Option Value → AH → Prop), nA ≤ st.length ∧ Cn x.1 mi d mc ms (st.take nA).reverse h Q ∧ d < x.2.2.1 ∧ h.1 + mc ≤ x.2.2.2.1 + x.2.2.2.2.2.1 ∧ h.2.1 + ms ≤ x.2.2.2.2.1 + x.2.2.2.2.2.2.1 ∧ rs (st.drop nA) ≤ 8 ∧
    ∀ (r : Option Value) (h' : AH), Q r h' → h'.1 = h.1 + mc → h'.2.1 = h.2.1 + ms → F ls (r.toList ++ st.drop nA) h'
def e_recv (x : XT) (c : Nat) (S : Nat → Nat × Nat) (st : List Value) : Prop := match st with | .ref a :: _ => ∃ k, a = gB x.1 + k ∧ S k = (0, c + 1) | _ => False
def e_end (x : XT) (r : Option Value) (h : AH) : Prop := h.1 = x.2.2.2.1 + x.2.2.2.2.2.1 ∧ h.2.1 = x.2.2.2.2.1 + x.2.2.2.2.2.2.1 ∧ x.2.2.2.2.2.2.2 r h
def e_sw (cs : List (Int32 × Nat)) (d : Nat) (v : Int32) (f : Nat → Prop) : Prop := match cs with
  | [] => f d
  | q :: r => (v = q.1 → f q.2) ∧ (¬ v = q.1 → e_sw r d v f)
def e_br (b : Prop) (T F : Prop) : Prop := (b → T) ∧ (¬ b → F)
def wp1 (x : XT) (i : Instr) (o : LK) (F : FT) (K : KT) (ls : List (Option Value)) (st : List Value) (h : AH) : Prop :=
  match i with
  | .iconst _ => F ls (.int o.2.1 :: st) h
  | .bipush _ => F ls (.int o.2.1 :: st) h
  | .sipush _ => F ls (.int o.2.1 :: st) h
  | .ldc _ => F ls (.int o.2.1 :: st) h
  | .lconst _ => F ls (.long o.2.2.1 :: st) h
  | .ldc2_w _ => F ls (.long o.2.2.1 :: st) h
  | .aconst_null => F ls (.null :: st) h
  | .iload _ => e_i (lgt ls o.1.1) fun v => F ls (.int v :: st) h
  | .iload_n _ => e_i (lgt ls o.1.1) fun v => F ls (.int v :: st) h
  | .lload _ => e_l (lgt ls o.1.1) fun v => F ls (.long v :: st) h
  | .lload_n _ => e_l (lgt ls o.1.1) fun v => F ls (.long v :: st) h
  | .aload _ => e_a (lgt ls o.1.1) fun v => F ls (v :: st) h
  | .aload_n _ => e_a (lgt ls o.1.1) fun v => F ls (v :: st) h
  | .istore _ => p_i st fun v r => F (lst (.int v) o.1.1 ls) r h
  | .istore_n _ => p_i st fun v r => F (lst (.int v) o.1.1 ls) r h
  | .lstore _ => p_l st fun v r => F (lst2 (.long v) o.1.1 ls) r h
  | .lstore_n _ => p_l st fun v r => F (lst2 (.long v) o.1.1 ls) r h
  | .astore _ => p_a st fun v r => F (lst v o.1.1 ls) r h
  | .astore_n _ => p_a st fun v r => F (lst v o.1.1 ls) r h
  | .iinc _ _ => e_i (lgt ls o.1.1) fun v => F (lst (.int (v + o.2.1)) o.1.1 ls) st h
  | .iadd => p_ii st fun a b r => F ls (.int (a + b) :: r) h
  | .isub => p_ii st fun a b r => F ls (.int (a - b) :: r) h
  | .imul => p_ii st fun a b r => F ls (.int (a * b) :: r) h
  | .iand => p_ii st fun a b r => F ls (.int (a &&& b) :: r) h
  | .idiv => p_ii st fun a b r => ¬ b = 0 ∧ F ls (.int (a / b) :: r) h
  | .irem => p_ii st fun a b r => ¬ b = 0 ∧ F ls (.int (a - a / b * b) :: r) h
  | .ineg => p_i st fun a r => F ls (.int (-a) :: r) h
  | .ladd => p_ll st fun a b r => F ls (.long (a + b) :: r) h
  | .lsub => p_ll st fun a b r => F ls (.long (a - b) :: r) h
  | .lmul => p_ll st fun a b r => F ls (.long (a * b) :: r) h
  | .land => p_ll st fun a b r => F ls (.long (a &&& b) :: r) h
  | .ldiv => p_ll st fun a b r => ¬ b = 0 ∧ F ls (.long (a / b) :: r) h
  | .lrem => p_ll st fun a b r => ¬ b = 0 ∧ F ls (.long (a - a / b * b) :: r) h
  | .i2l => p_i st fun v r => F ls (.long v.toInt64 :: r) h
  | .l2i => p_l st fun v r => F ls (.int v.toInt32 :: r) h
  | .dup => (match st with
    | v :: r => v.category = 1 ∧ F ls (v :: v :: r) h
    | _ => False)
  | .pop => (match st with
    | v :: r => v.category = 1 ∧ F ls r h
    | _ => False)
  | .dup2 => (match st with
    | a :: b :: r => a.category = 1 ∧ b.category = 1 ∧ F ls (a :: b :: a :: b :: r) h
    | _ => False)
  | .dup_x1 => (match st with
    | a :: b :: r => a.category = 1 ∧ b.category = 1 ∧ F ls (a :: b :: a :: r) h
    | _ => False)
  | .dup_x2 => (match st with
    | a :: b :: c :: r => a.category = 1 ∧ b.category = 1 ∧ c.category = 1 ∧ F ls (a :: b :: c :: a :: r) h
    | _ => False)
  | .goto _ => K o.1.1 ls st h
  | .ifCond .eq _ => p_i st fun v r => e_br (v = 0) (K o.1.1 ls r h) (F ls r h)
  | .ifCond .ne _ => p_i st fun v r => e_br (v = 0) (F ls r h) (K o.1.1 ls r h)
  | .ifCond .lt _ => p_i st fun v r => e_br (v < 0) (K o.1.1 ls r h) (F ls r h)
  | .ifCond .ge _ => p_i st fun v r => e_br (v < 0) (F ls r h) (K o.1.1 ls r h)
  | .ifCond .gt _ => p_i st fun v r => e_br (0 < v) (K o.1.1 ls r h) (F ls r h)
  | .ifCond .le _ => p_i st fun v r => e_br (0 < v) (F ls r h) (K o.1.1 ls r h)
  | .if_icmp .eq _ => p_ii st fun a b r => e_br (a = b) (K o.1.1 ls r h) (F ls r h)
  | .if_icmp .ne _ => p_ii st fun a b r => e_br (a = b) (F ls r h) (K o.1.1 ls r h)
  | .if_icmp .lt _ => p_ii st fun a b r => e_br (a < b) (K o.1.1 ls r h) (F ls r h)
  | .if_icmp .ge _ => p_ii st fun a b r => e_br (a < b) (F ls r h) (K o.1.1 ls r h)
  | .if_icmp .gt _ => p_ii st fun a b r => e_br (b < a) (K o.1.1 ls r h) (F ls r h)
  | .if_icmp .le _ => p_ii st fun a b r => e_br (b < a) (F ls r h) (K o.1.1 ls r h)
  | .ifnull _ => (match st with
    | .null :: r => K o.1.1 ls r h
    | .ref _ :: r => F ls r h
    | _ => False)
  | .ifnonnull _ => (match st with
    | .null :: r => F ls r h
    | .ref _ :: r => K o.1.1 ls r h
    | _ => False)
  | .getfield _ => (match st with
    | .ref a :: r => ∃ k, a = gB x.1 + k ∧ h.2.2.1 k = (0, o.1.1 + 1) ∧ F ls (cval o.1.2.2 (gB x.1) h.2.2.2.1 h.2.2.2.2.1 h.2.2.2.2.2 k o.1.2.1 :: r) h
    | _ => False)
  | .putfield _ => (match st with
    | .int v :: .ref a :: r => o.1.2.2 = 0 ∧ ∃ k, a = gB x.1 + k ∧ h.2.2.1 k = (0, o.1.1 + 1) ∧ F ls r (h.1, h.2.1, h.2.2.1, va_up h.2.2.2.1 k (va_up (h.2.2.2.1 k) o.1.2.1 v), h.2.2.2.2.1, h.2.2.2.2.2)
    | .long v :: .ref a :: r => o.1.2.2 = 1 ∧ ∃ k, a = gB x.1 + k ∧ h.2.2.1 k = (0, o.1.1 + 1) ∧ F ls r (h.1, h.2.1, h.2.2.1, h.2.2.2.1, va_up h.2.2.2.2.1 k (va_up (h.2.2.2.2.1 k) o.1.2.1 v), h.2.2.2.2.2)
    | .ref q :: .ref a :: r => o.1.2.2 = 2 ∧ ∃ k q', a = gB x.1 + k ∧ q = gB x.1 + q' ∧ h.2.2.1 k = (0, o.1.1 + 1) ∧ F ls r (h.1, h.2.1, h.2.2.1, h.2.2.2.1, h.2.2.2.2.1, va_up h.2.2.2.2.2 k (va_up (h.2.2.2.2.2 k) o.1.2.1 (some q')))
    | _ => False)
  | .iaload => (match st with
    | .int j :: .ref a :: r =>
      if o.1.1 = 0 then ∃ k, a = gB x.1 + k ∧ (h.2.2.1 k).1 = 1 ∧ vp_in j (h.2.2.1 k).2 ∧ F ls (.int (h.2.2.2.1 k j.toNatClampNeg) :: r) h
      else a = gS x.1 ∧ vp_in j (gN x.1) ∧ F ls (.int (gX x.1 j.toNatClampNeg) :: r) h
    | _ => False)
  | .iastore => (match st with
    | .int v :: .int j :: .ref a :: r => ∃ k, a = gB x.1 + k ∧ (h.2.2.1 k).1 = 1 ∧ vp_in j (h.2.2.1 k).2 ∧ F ls r (h.1, h.2.1, h.2.2.1, va_up h.2.2.2.1 k (va_up (h.2.2.2.1 k) j.toNatClampNeg v), h.2.2.2.2.1, h.2.2.2.2.2)
    | _ => False)
  | .baload => (match st with
    | .int j :: .ref a :: r => ∃ k, a = gB x.1 + k ∧ (h.2.2.1 k).1 = 3 ∧ vp_in j (h.2.2.1 k).2 ∧ F ls (.int (h.2.2.2.1 k j.toNatClampNeg) :: r) h
    | _ => False)
  | .bastore => (match st with
    | .int v :: .int j :: .ref a :: r => ∃ k, a = gB x.1 + k ∧ (h.2.2.1 k).1 = 3 ∧ vp_in j (h.2.2.1 k).2 ∧ narrow .boolean (.int v) = .int v ∧ F ls r (h.1, h.2.1, h.2.2.1, va_up h.2.2.2.1 k (va_up (h.2.2.2.1 k) j.toNatClampNeg v), h.2.2.2.2.1, h.2.2.2.2.2)
    | _ => False)
  | .aaload => (match st with
    | .int j :: .ref a :: r => ∃ k, a = gB x.1 + k ∧ (h.2.2.1 k).1 = o.1.1 + 1 ∧ vp_in j (h.2.2.1 k).2 ∧ F ls (rv (gB x.1) (h.2.2.2.2.2 k j.toNatClampNeg) :: r) h
    | _ => False)
  | .aastore => (match st with
    | .ref q :: .int j :: .ref a :: r => ∃ k q', a = gB x.1 + k ∧ q = gB x.1 + q' ∧ (h.2.2.1 k).1 = o.1.1 + 1 ∧ h.2.2.1 q' = (0, o.1.2.1 + 1) ∧ vp_in j (h.2.2.1 k).2 ∧ F ls r (h.1, h.2.1, h.2.2.1, h.2.2.2.1, h.2.2.2.2.1, va_up h.2.2.2.2.2 k (va_up (h.2.2.2.2.2 k) j.toNatClampNeg (some q')))
    | _ => False)
  | .arraylength => (match st with
    | .ref a :: r =>
      if o.1.1 = 0 then ∃ k, a = gB x.1 + k ∧ ¬ (h.2.2.1 k).1 = 0 ∧ F ls (.int (nI (h.2.2.1 k).2) :: r) h
      else a = gS x.1 ∧ F ls (.int (nI (gN x.1)) :: r) h
    | _ => False)
  | .newarray _ => p_i st fun v r => ¬ v < 0 ∧ v.toNatClampNeg ≤ 100000 ∧ h.1 + 1 ≤ x.2.2.2.1 + x.2.2.2.2.2.1 ∧ h.2.1 + v.toNatClampNeg ≤ x.2.2.2.2.1 + x.2.2.2.2.2.2.1 ∧
      F ls (.ref (gB x.1 + h.1) :: r) (h.1 + 1, h.2.1 + v.toNatClampNeg, va_up h.2.2.1 h.1 (o.1.1 + 1, v.toNatClampNeg), va_up h.2.2.2.1 h.1 (fun _ => 0), h.2.2.2.2.1, h.2.2.2.2.2)
  | .anewarray _ => p_i st fun v r => ¬ v < 0 ∧ v.toNatClampNeg ≤ 100000 ∧ h.1 + 1 ≤ x.2.2.2.1 + x.2.2.2.2.2.1 ∧ h.2.1 + v.toNatClampNeg ≤ x.2.2.2.2.1 + x.2.2.2.2.2.2.1 ∧
      F ls (.ref (gB x.1 + h.1) :: r) (h.1 + 1, h.2.1 + v.toNatClampNeg, va_up h.2.2.1 h.1 (o.1.1 + 1, v.toNatClampNeg), h.2.2.2.1, h.2.2.2.2.1, va_up h.2.2.2.2.2 h.1 (fun _ => none))
  | .new _ => h.1 + 1 ≤ x.2.2.2.1 + x.2.2.2.2.2.1 ∧ h.2.1 + o.1.2.1 ≤ x.2.2.2.2.1 + x.2.2.2.2.2.2.1 ∧
      F ls (.ref (gB x.1 + h.1) :: st) (h.1 + 1, h.2.1 + o.1.2.1, va_up h.2.2.1 h.1 (0, o.1.1 + 1), va_up h.2.2.2.1 h.1 (fun _ => 0), va_up h.2.2.2.2.1 h.1 (fun _ => 0), va_up h.2.2.2.2.2 h.1 (fun _ => none))
  | .invokestatic _ => (match o.1.2.2 with
    | 0 => e_call x o.2.2.2.1 o.1.1 F ls st h
    | 1 => p_ii st fun a b r => 1 ≤ x.2.2.1 ∧ rs r ≤ 8 ∧ F ls (.int (if a < b then b else a) :: r) h
    | 2 => p_ii st fun a b r => 1 ≤ x.2.2.1 ∧ rs r ≤ 8 ∧ F ls (.int (if b < a then b else a) :: r) h
    | 3 => (match st with
      | .int n :: .int dp :: .ref a :: .int sp :: .ref b :: r => ∃ k k0, a = gB x.1 + k ∧ b = gB x.1 + k0 ∧ (h.2.2.1 k).1 = 1 ∧ (h.2.2.1 k0).1 = 1 ∧ ¬ sp < 0 ∧ ¬ dp < 0 ∧ ¬ n < 0 ∧ sp.toNatClampNeg + n.toNatClampNeg ≤ (h.2.2.1 k0).2 ∧ dp.toNatClampNeg + n.toNatClampNeg ≤ (h.2.2.1 k).2 ∧ 1 ≤ x.2.2.1 ∧ rs r ≤ 8 ∧
          F ls r (h.1, h.2.1, h.2.2.1, va_up h.2.2.2.1 k (va_cpy (h.2.2.2.1 k0) (h.2.2.2.1 k) sp.toNatClampNeg dp.toNatClampNeg n.toNatClampNeg), h.2.2.2.2.1, h.2.2.2.2.2)
      | _ => False)
    | _ => False)
  | .invokevirtual _ => e_recv x o.1.2.1 h.2.2.1 (st.drop (o.1.1 - 1)) ∧ e_call x o.2.2.2.1 o.1.1 F ls st h
  | .invokespecial _ => (match o.1.2.2 with
    | 0 => (match st.drop (o.1.1 - 1) with
      | .ref _ :: _ => e_call x o.2.2.2.1 o.1.1 F ls st h
      | _ => False)
    | 1 => (match st with
      | .ref _ :: r => 1 ≤ x.2.2.1 ∧ rs r ≤ 8 ∧ F ls r h
      | _ => False)
    | _ => False)
  | .tableswitch _ _ _ _ => p_i st fun v r => e_sw o.2.2.2.2 o.1.1 v (fun t => K t ls r h)
  | .lookupswitch _ _ => p_i st fun v r => e_sw o.2.2.2.2 o.1.1 v (fun t => K t ls r h)
  | .ireturn => (match st with
    | [.int v] => (match x.2.1.2.2.2 with
      | some rt => narrow rt (.int v) = .int v ∧ e_end x (some (.int v)) h
      | none => False)
    | _ => False)
  | .lreturn => (match st with
    | [.long v] => x.2.1.2.2.2 = some .long ∧ e_end x (some (.long v)) h
    | _ => False)
  | .return_ => (match st with
    | [] => x.2.1.2.2.2 = none ∧ e_end x none h
    | _ => False)
  | _ => False
def wp (x : XT) : List IT → Nat → KT → List (Option Value) → List Value → AH → Prop
  | [], pe, K, ls, st, h => K pe ls st h
  | q :: t, pe, K, ls, st, h => wp1 x q.1 q.2.2.1 (fun ls' st' h' => wp x t pe K ls' st' h') K ls st h
end
section
theorem go_iconst {x : XT} {pc : Nat} {ls : List (Option Value)} {st : List Value} {h : AH} {n : Int} {v : Int32} (hd : decode x.2.1.2.1 pc = .ok (.iconst n, 1)) (hv : Int32.ofInt n = v) (kk : Go x (pc + 1) ls (.int v :: st) h) : Go x pc ls st h :=
  fun p e R s m args below meth c' H locs ls' k' w X hR hS hl hn hz => lv_iconst X.1 X.2.1 hd hv (kk p e R s m args below meth c' H locs ls' k' w X hR hS hl hn hz)
theorem go_bipush {x : XT} {pc : Nat} {ls : List (Option Value)} {st : List Value} {h : AH} {n : Int} {v : Int32} (hd : decode x.2.1.2.1 pc = .ok (.bipush n, 2)) (hv : (Int8.ofInt n).toInt32 = v) (kk : Go x (pc + 2) ls (.int v :: st) h) : Go x pc ls st h :=
  fun p e R s m args below meth c' H locs ls' k' w X hR hS hl hn hz => lv_bipush X.1 X.2.1 hd hv (kk p e R s m args below meth c' H locs ls' k' w X hR hS hl hn hz)
theorem go_sipush {x : XT} {pc : Nat} {ls : List (Option Value)} {st : List Value} {h : AH} {n : Int} {v : Int32} (hd : decode x.2.1.2.1 pc = .ok (.sipush n, 3)) (hv : (Int16.ofInt n).toInt32 = v) (kk : Go x (pc + 3) ls (.int v :: st) h) : Go x pc ls st h :=
  fun p e R s m args below meth c' H locs ls' k' w X hR hS hl hn hz => lv_sipush X.1 X.2.1 hd hv (kk p e R s m args below meth c' H locs ls' k' w X hR hS hl hn hz)
theorem go_lconst {x : XT} {pc : Nat} {ls : List (Option Value)} {st : List Value} {h : AH} {n : Fin 2} {v : Int64} (hd : decode x.2.1.2.1 pc = .ok (.lconst n, 1)) (hv : Int64.ofNat (n : Nat) = v) (kk : Go x (pc + 1) ls (.long v :: st) h) : Go x pc ls st h :=
  fun p e R s m args below meth c' H locs ls' k' w X hR hS hl hn hz => lv_lconst X.1 X.2.1 hd hv (kk p e R s m args below meth c' H locs ls' k' w X hR hS hl hn hz)
theorem go_ldc {x : XT} {pc : Nat} {ls : List (Option Value)} {st : List Value} {h : AH} {i : Nat} {v : Int32} (hd : decode x.2.1.2.1 pc = .ok (.ldc i, 2)) (hw : Jvm.Cond.constant x.2.1.1.cls i v ∈ ktb) (kk : Go x (pc + 2) ls (.int v :: st) h) : Go x pc ls st h :=
  fun p e R s m args below meth c' H locs ls' k' w X hR hS hl hn hz => lv_ldc X.1 X.2.1 X.2.2.2.2.1 (X.2.2.2.2.2.1 _ hw) hd (kk p e R s m args below meth c' H locs ls' k' w X hR hS hl hn hz)
theorem go_ldc2 {x : XT} {pc : Nat} {ls : List (Option Value)} {st : List Value} {h : AH} {i : Nat} {v : Int64} (hd : decode x.2.1.2.1 pc = .ok (.ldc2_w i, 3)) (hw : Jvm.Cond.constantLong x.2.1.1.cls i v ∈ ktb) (kk : Go x (pc + 3) ls (.long v :: st) h) : Go x pc ls st h :=
  fun p e R s m args below meth c' H locs ls' k' w X hR hS hl hn hz => lv_ldc2 X.1 X.2.1 X.2.2.2.2.1 (X.2.2.2.2.2.1 _ hw) hd (kk p e R s m args below meth c' H locs ls' k' w X hR hS hl hn hz)
theorem go_null {x : XT} {pc : Nat} {ls : List (Option Value)} {st : List Value} {h : AH}  (hd : decode x.2.1.2.1 pc = .ok (.aconst_null, 1)) (kk : Go x (pc + 1) ls (.null :: st) h) : Go x pc ls st h :=
  fun p e R s m args below meth c' H locs ls' k' w X hR hS hl hn hz => lv_null X.1 X.2.1 hd (kk p e R s m args below meth c' H locs ls' k' w X hR hS hl hn hz)
theorem go_iload {x : XT} {pc : Nat} {ls : List (Option Value)} {st : List Value} {h : AH} {i : Nat} {v : Int32} (hd : decode x.2.1.2.1 pc = .ok (.iload i, 2)) (hv : lgt ls i = some (.int v)) (kk : Go x (pc + 2) ls (.int v :: st) h) : Go x pc ls st h :=
  fun p e R s m args below meth c' H locs ls' k' w X hR hS hl hn hz => lv_iload X.1 X.2.1 hd (hl.get hv) (kk p e R s m args below meth c' H locs ls' k' w X hR hS hl hn hz)
theorem go_iload_n {x : XT} {pc : Nat} {ls : List (Option Value)} {st : List Value} {h : AH} {i : Nat} {f : Fin 4} {v : Int32} (hd : decode x.2.1.2.1 pc = .ok (.iload_n f, 1)) (hi : (f : Nat) = i) (hv : lgt ls i = some (.int v)) (kk : Go x (pc + 1) ls (.int v :: st) h) : Go x pc ls st h :=
  fun p e R s m args below meth c' H locs ls' k' w X hR hS hl hn hz => lv_iload_n X.1 X.2.1 hd hi (hl.get hv) (kk p e R s m args below meth c' H locs ls' k' w X hR hS hl hn hz)
theorem go_lload {x : XT} {pc : Nat} {ls : List (Option Value)} {st : List Value} {h : AH} {i : Nat} {v : Int64} (hd : decode x.2.1.2.1 pc = .ok (.lload i, 2)) (hv : lgt ls i = some (.long v)) (kk : Go x (pc + 2) ls (.long v :: st) h) : Go x pc ls st h :=
  fun p e R s m args below meth c' H locs ls' k' w X hR hS hl hn hz => lv_lload X.1 X.2.1 hd (hl.get hv) (kk p e R s m args below meth c' H locs ls' k' w X hR hS hl hn hz)
theorem go_lload_n {x : XT} {pc : Nat} {ls : List (Option Value)} {st : List Value} {h : AH} {i : Nat} {f : Fin 4} {v : Int64} (hd : decode x.2.1.2.1 pc = .ok (.lload_n f, 1)) (hi : (f : Nat) = i) (hv : lgt ls i = some (.long v)) (kk : Go x (pc + 1) ls (.long v :: st) h) : Go x pc ls st h :=
  fun p e R s m args below meth c' H locs ls' k' w X hR hS hl hn hz => lv_lload_n X.1 X.2.1 hd hi (hl.get hv) (kk p e R s m args below meth c' H locs ls' k' w X hR hS hl hn hz)
theorem go_aload {x : XT} {pc : Nat} {ls : List (Option Value)} {st : List Value} {h : AH} {i : Nat} {v : Nat} (hd : decode x.2.1.2.1 pc = .ok (.aload i, 2)) (hv : lgt ls i = some (.ref v)) (kk : Go x (pc + 2) ls (.ref v :: st) h) : Go x pc ls st h :=
  fun p e R s m args below meth c' H locs ls' k' w X hR hS hl hn hz => lv_aload X.1 X.2.1 hd (hl.get hv) (kk p e R s m args below meth c' H locs ls' k' w X hR hS hl hn hz)
theorem go_aload_n {x : XT} {pc : Nat} {ls : List (Option Value)} {st : List Value} {h : AH} {i : Nat} {f : Fin 4} {v : Nat} (hd : decode x.2.1.2.1 pc = .ok (.aload_n f, 1)) (hi : (f : Nat) = i) (hv : lgt ls i = some (.ref v)) (kk : Go x (pc + 1) ls (.ref v :: st) h) : Go x pc ls st h :=
  fun p e R s m args below meth c' H locs ls' k' w X hR hS hl hn hz => lv_aload_n X.1 X.2.1 hd hi (hl.get hv) (kk p e R s m args below meth c' H locs ls' k' w X hR hS hl hn hz)
theorem go_aloadN {x : XT} {pc : Nat} {ls : List (Option Value)} {st : List Value} {h : AH} {i : Nat} (hd : decode x.2.1.2.1 pc = .ok (.aload i, 2)) (hv : lgt ls i = some .null) (kk : Go x (pc + 2) ls (.null :: st) h) : Go x pc ls st h :=
  fun p e R s m args below meth c' H locs ls' k' w X hR hS hl hn hz => lv_aloadN X.1 X.2.1 hd (hl.get hv) (kk p e R s m args below meth c' H locs ls' k' w X hR hS hl hn hz)
theorem go_aload_nN {x : XT} {pc : Nat} {ls : List (Option Value)} {st : List Value} {h : AH} {i : Nat} {f : Fin 4} (hd : decode x.2.1.2.1 pc = .ok (.aload_n f, 1)) (hi : (f : Nat) = i) (hv : lgt ls i = some .null) (kk : Go x (pc + 1) ls (.null :: st) h) : Go x pc ls st h :=
  fun p e R s m args below meth c' H locs ls' k' w X hR hS hl hn hz => lv_aload_nN X.1 X.2.1 hd hi (hl.get hv) (kk p e R s m args below meth c' H locs ls' k' w X hR hS hl hn hz)
theorem go_istore {x : XT} {pc : Nat} {ls : List (Option Value)} {st : List Value} {h : AH} {i : Nat} {v : Int32} (hd : decode x.2.1.2.1 pc = .ok (.istore i, 2)) (hi2 : i < x.2.1.2.2.1) (kk : Go x (pc + 2) (lst (.int v) i ls) st h) : Go x pc ls (.int v :: st) h :=
  fun p e R s m args below meth c' H locs ls' k' w X hR hS hl hn hz => lv_istore X.1 X.2.1 hd hl.1 hi2 rfl (fun ls'' hl'' => kk p e R s m args below meth c' H locs ls'' k' w X hR hS (LV.put hl.2 hl'') hn hz)
theorem go_istore_n {x : XT} {pc : Nat} {ls : List (Option Value)} {st : List Value} {h : AH} {i : Nat} {f : Fin 4} {v : Int32} (hd : decode x.2.1.2.1 pc = .ok (.istore_n f, 1)) (hi : (f : Nat) = i) (hi2 : i < x.2.1.2.2.1) (kk : Go x (pc + 1) (lst (.int v) i ls) st h) : Go x pc ls (.int v :: st) h :=
  fun p e R s m args below meth c' H locs ls' k' w X hR hS hl hn hz => lv_istore_n X.1 X.2.1 hd hi hl.1 hi2 rfl (fun ls'' hl'' => kk p e R s m args below meth c' H locs ls'' k' w X hR hS (LV.put hl.2 hl'') hn hz)
theorem go_astore {x : XT} {pc : Nat} {ls : List (Option Value)} {st : List Value} {h : AH} {i : Nat} {v : Nat} (hd : decode x.2.1.2.1 pc = .ok (.astore i, 2)) (hi2 : i < x.2.1.2.2.1) (kk : Go x (pc + 2) (lst (.ref v) i ls) st h) : Go x pc ls (.ref v :: st) h :=
  fun p e R s m args below meth c' H locs ls' k' w X hR hS hl hn hz => lv_astore X.1 X.2.1 hd hl.1 hi2 rfl (fun ls'' hl'' => kk p e R s m args below meth c' H locs ls'' k' w X hR hS (LV.put hl.2 hl'') hn hz)
theorem go_astore_n {x : XT} {pc : Nat} {ls : List (Option Value)} {st : List Value} {h : AH} {i : Nat} {f : Fin 4} {v : Nat} (hd : decode x.2.1.2.1 pc = .ok (.astore_n f, 1)) (hi : (f : Nat) = i) (hi2 : i < x.2.1.2.2.1) (kk : Go x (pc + 1) (lst (.ref v) i ls) st h) : Go x pc ls (.ref v :: st) h :=
  fun p e R s m args below meth c' H locs ls' k' w X hR hS hl hn hz => lv_astore_n X.1 X.2.1 hd hi hl.1 hi2 rfl (fun ls'' hl'' => kk p e R s m args below meth c' H locs ls'' k' w X hR hS (LV.put hl.2 hl'') hn hz)
theorem go_astoreN {x : XT} {pc : Nat} {ls : List (Option Value)} {st : List Value} {h : AH} {i : Nat} (hd : decode x.2.1.2.1 pc = .ok (.astore i, 2)) (hi2 : i < x.2.1.2.2.1) (kk : Go x (pc + 2) (lst .null i ls) st h) : Go x pc ls (.null :: st) h :=
  fun p e R s m args below meth c' H locs ls' k' w X hR hS hl hn hz => lv_astoreN X.1 X.2.1 hd hl.1 hi2 rfl (fun ls'' hl'' => kk p e R s m args below meth c' H locs ls'' k' w X hR hS (LV.put hl.2 hl'') hn hz)
theorem go_astore_nN {x : XT} {pc : Nat} {ls : List (Option Value)} {st : List Value} {h : AH} {i : Nat} {f : Fin 4} (hd : decode x.2.1.2.1 pc = .ok (.astore_n f, 1)) (hi : (f : Nat) = i) (hi2 : i < x.2.1.2.2.1) (kk : Go x (pc + 1) (lst .null i ls) st h) : Go x pc ls (.null :: st) h :=
  fun p e R s m args below meth c' H locs ls' k' w X hR hS hl hn hz => lv_astore_nN X.1 X.2.1 hd hi hl.1 hi2 rfl (fun ls'' hl'' => kk p e R s m args below meth c' H locs ls'' k' w X hR hS (LV.put hl.2 hl'') hn hz)
theorem go_lstore {x : XT} {pc : Nat} {ls : List (Option Value)} {st : List Value} {h : AH} {i : Nat} {v : Int64} (hd : decode x.2.1.2.1 pc = .ok (.lstore i, 2)) (hi2 : i + 1 < x.2.1.2.2.1) (kk : Go x (pc + 2) (lst2 (.long v) i ls) st h) : Go x pc ls (.long v :: st) h :=
  fun p e R s m args below meth c' H locs ls' k' w X hR hS hl hn hz => lv_lstore X.1 X.2.1 hd hl.1 hi2 rfl (fun ls'' hl'' => kk p e R s m args below meth c' H locs ls'' k' w X hR hS (LV.put2 hl.2 hl'') hn hz)
theorem go_lstore_n {x : XT} {pc : Nat} {ls : List (Option Value)} {st : List Value} {h : AH} {i : Nat} {f : Fin 4} {v : Int64} (hd : decode x.2.1.2.1 pc = .ok (.lstore_n f, 1)) (hi : (f : Nat) = i) (hi2 : i + 1 < x.2.1.2.2.1) (kk : Go x (pc + 1) (lst2 (.long v) i ls) st h) : Go x pc ls (.long v :: st) h :=
  fun p e R s m args below meth c' H locs ls' k' w X hR hS hl hn hz => lv_lstore_n X.1 X.2.1 hd hi hl.1 hi2 rfl (fun ls'' hl'' => kk p e R s m args below meth c' H locs ls'' k' w X hR hS (LV.put2 hl.2 hl'') hn hz)
theorem go_iinc {x : XT} {pc : Nat} {ls : List (Option Value)} {st : List Value} {h : AH} {i : Nat} {n : Int} {v u : Int32} (hd : decode x.2.1.2.1 pc = .ok (.iinc i n, 3)) (hv : lgt ls i = some (.int v)) (hu : Int32.ofInt n = u) (hi2 : i < x.2.1.2.2.1) (kk : Go x (pc + 3) (lst (.int (v + u)) i ls) st h) : Go x pc ls st h := by
  intro p e R s m args below meth c' H locs ls' k' w X hR hS hl hn hz
  obtain ⟨k1, hk1⟩ := List.getElem?_of_mem ((asc_mem ls 0 (i, .int v)).mpr ⟨i, by simp, hv⟩)
  exact lv_iinc X.1 X.2.1 hd hl.1 hk1 (by rw [hu]) hi2 rfl (fun ls'' hl'' => kk p e R s m args below meth c' H locs ls'' k' w X hR hS (LV.put hl.2 hl'') hn hz)
theorem go_iadd {x : XT} {pc : Nat} {ls : List (Option Value)} {st : List Value} {h : AH} {a b : Int32} (hd : decode x.2.1.2.1 pc = .ok (.iadd, 1)) (kk : Go x (pc + 1) ls (.int (a + b) :: st) h) : Go x pc ls (.int b :: .int a :: st) h :=
  fun p e R s m args below meth c' H locs ls' k' w X hR hS hl hn hz => lv_iadd X.1 X.2.1 hd (kk p e R s m args below meth c' H locs ls' k' w X hR hS hl hn hz)
theorem go_isub {x : XT} {pc : Nat} {ls : List (Option Value)} {st : List Value} {h : AH} {a b : Int32} (hd : decode x.2.1.2.1 pc = .ok (.isub, 1)) (kk : Go x (pc + 1) ls (.int (a - b) :: st) h) : Go x pc ls (.int b :: .int a :: st) h :=
  fun p e R s m args below meth c' H locs ls' k' w X hR hS hl hn hz => lv_isub X.1 X.2.1 hd (kk p e R s m args below meth c' H locs ls' k' w X hR hS hl hn hz)
theorem go_imul {x : XT} {pc : Nat} {ls : List (Option Value)} {st : List Value} {h : AH} {a b : Int32} (hd : decode x.2.1.2.1 pc = .ok (.imul, 1)) (kk : Go x (pc + 1) ls (.int (a * b) :: st) h) : Go x pc ls (.int b :: .int a :: st) h :=
  fun p e R s m args below meth c' H locs ls' k' w X hR hS hl hn hz => lv_imul X.1 X.2.1 hd (kk p e R s m args below meth c' H locs ls' k' w X hR hS hl hn hz)
theorem go_iand {x : XT} {pc : Nat} {ls : List (Option Value)} {st : List Value} {h : AH} {a b : Int32} (hd : decode x.2.1.2.1 pc = .ok (.iand, 1)) (kk : Go x (pc + 1) ls (.int (a &&& b) :: st) h) : Go x pc ls (.int b :: .int a :: st) h :=
  fun p e R s m args below meth c' H locs ls' k' w X hR hS hl hn hz => lv_iand X.1 X.2.1 hd (kk p e R s m args below meth c' H locs ls' k' w X hR hS hl hn hz)
theorem go_idiv {x : XT} {pc : Nat} {ls : List (Option Value)} {st : List Value} {h : AH} {a b : Int32} (hd : decode x.2.1.2.1 pc = .ok (.idiv, 1)) (hb0 : ¬ b = 0) (kk : Go x (pc + 1) ls (.int (a / b) :: st) h) : Go x pc ls (.int b :: .int a :: st) h :=
  fun p e R s m args below meth c' H locs ls' k' w X hR hS hl hn hz => lv_idiv X.1 X.2.1 hd hb0 (kk p e R s m args below meth c' H locs ls' k' w X hR hS hl hn hz)
theorem go_irem {x : XT} {pc : Nat} {ls : List (Option Value)} {st : List Value} {h : AH} {a b : Int32} (hd : decode x.2.1.2.1 pc = .ok (.irem, 1)) (hb0 : ¬ b = 0) (kk : Go x (pc + 1) ls (.int (a - a / b * b) :: st) h) : Go x pc ls (.int b :: .int a :: st) h :=
  fun p e R s m args below meth c' H locs ls' k' w X hR hS hl hn hz => lv_irem X.1 X.2.1 hd hb0 (kk p e R s m args below meth c' H locs ls' k' w X hR hS hl hn hz)
theorem go_ineg {x : XT} {pc : Nat} {ls : List (Option Value)} {st : List Value} {h : AH} {a : Int32} (hd : decode x.2.1.2.1 pc = .ok (.ineg, 1)) (kk : Go x (pc + 1) ls (.int (-a) :: st) h) : Go x pc ls (.int a :: st) h :=
  fun p e R s m args below meth c' H locs ls' k' w X hR hS hl hn hz => lv_ineg X.1 X.2.1 hd (kk p e R s m args below meth c' H locs ls' k' w X hR hS hl hn hz)
theorem go_ladd {x : XT} {pc : Nat} {ls : List (Option Value)} {st : List Value} {h : AH} {a b : Int64} (hd : decode x.2.1.2.1 pc = .ok (.ladd, 1)) (kk : Go x (pc + 1) ls (.long (a + b) :: st) h) : Go x pc ls (.long b :: .long a :: st) h :=
  fun p e R s m args below meth c' H locs ls' k' w X hR hS hl hn hz => lv_ladd X.1 X.2.1 hd (kk p e R s m args below meth c' H locs ls' k' w X hR hS hl hn hz)
theorem go_lsub {x : XT} {pc : Nat} {ls : List (Option Value)} {st : List Value} {h : AH} {a b : Int64} (hd : decode x.2.1.2.1 pc = .ok (.lsub, 1)) (kk : Go x (pc + 1) ls (.long (a - b) :: st) h) : Go x pc ls (.long b :: .long a :: st) h :=
  fun p e R s m args below meth c' H locs ls' k' w X hR hS hl hn hz => lv_lsub X.1 X.2.1 hd (kk p e R s m args below meth c' H locs ls' k' w X hR hS hl hn hz)
theorem go_lmul {x : XT} {pc : Nat} {ls : List (Option Value)} {st : List Value} {h : AH} {a b : Int64} (hd : decode x.2.1.2.1 pc = .ok (.lmul, 1)) (kk : Go x (pc + 1) ls (.long (a * b) :: st) h) : Go x pc ls (.long b :: .long a :: st) h :=
  fun p e R s m args below meth c' H locs ls' k' w X hR hS hl hn hz => lv_lmul X.1 X.2.1 hd (kk p e R s m args below meth c' H locs ls' k' w X hR hS hl hn hz)
theorem go_land {x : XT} {pc : Nat} {ls : List (Option Value)} {st : List Value} {h : AH} {a b : Int64} (hd : decode x.2.1.2.1 pc = .ok (.land, 1)) (kk : Go x (pc + 1) ls (.long (a &&& b) :: st) h) : Go x pc ls (.long b :: .long a :: st) h :=
  fun p e R s m args below meth c' H locs ls' k' w X hR hS hl hn hz => lv_land X.1 X.2.1 hd (kk p e R s m args below meth c' H locs ls' k' w X hR hS hl hn hz)
theorem go_ldiv {x : XT} {pc : Nat} {ls : List (Option Value)} {st : List Value} {h : AH} {a b : Int64} (hd : decode x.2.1.2.1 pc = .ok (.ldiv, 1)) (hb0 : ¬ b = 0) (kk : Go x (pc + 1) ls (.long (a / b) :: st) h) : Go x pc ls (.long b :: .long a :: st) h :=
  fun p e R s m args below meth c' H locs ls' k' w X hR hS hl hn hz => lv_ldiv X.1 X.2.1 hd hb0 (kk p e R s m args below meth c' H locs ls' k' w X hR hS hl hn hz)
theorem go_lrem {x : XT} {pc : Nat} {ls : List (Option Value)} {st : List Value} {h : AH} {a b : Int64} (hd : decode x.2.1.2.1 pc = .ok (.lrem, 1)) (hb0 : ¬ b = 0) (kk : Go x (pc + 1) ls (.long (a - a / b * b) :: st) h) : Go x pc ls (.long b :: .long a :: st) h :=
  fun p e R s m args below meth c' H locs ls' k' w X hR hS hl hn hz => lv_lrem X.1 X.2.1 hd hb0 (kk p e R s m args below meth c' H locs ls' k' w X hR hS hl hn hz)
theorem go_i2l {x : XT} {pc : Nat} {ls : List (Option Value)} {st : List Value} {h : AH} {v : Int32} (hd : decode x.2.1.2.1 pc = .ok (.i2l, 1)) (kk : Go x (pc + 1) ls (.long v.toInt64 :: st) h) : Go x pc ls (.int v :: st) h :=
  fun p e R s m args below meth c' H locs ls' k' w X hR hS hl hn hz => lv_i2l X.1 X.2.1 hd rfl (kk p e R s m args below meth c' H locs ls' k' w X hR hS hl hn hz)
theorem go_l2i {x : XT} {pc : Nat} {ls : List (Option Value)} {st : List Value} {h : AH} {v : Int64} (hd : decode x.2.1.2.1 pc = .ok (.l2i, 1)) (kk : Go x (pc + 1) ls (.int v.toInt32 :: st) h) : Go x pc ls (.long v :: st) h :=
  fun p e R s m args below meth c' H locs ls' k' w X hR hS hl hn hz => lv_l2i X.1 X.2.1 hd rfl (kk p e R s m args below meth c' H locs ls' k' w X hR hS hl hn hz)
theorem go_dup {x : XT} {pc : Nat} {ls : List (Option Value)} {st : List Value} {h : AH} {v : Value} (hd : decode x.2.1.2.1 pc = .ok (.dup, 1)) (h1 : v.category = 1) (kk : Go x (pc + 1) ls (v :: v :: st) h) : Go x pc ls (v :: st) h :=
  fun p e R s m args below meth c' H locs ls' k' w X hR hS hl hn hz => lv_dup X.1 X.2.1 hd h1 (kk p e R s m args below meth c' H locs ls' k' w X hR hS hl hn hz)
theorem go_pop {x : XT} {pc : Nat} {ls : List (Option Value)} {st : List Value} {h : AH} {v : Value} (hd : decode x.2.1.2.1 pc = .ok (.pop, 1)) (h1 : v.category = 1) (kk : Go x (pc + 1) ls st h) : Go x pc ls (v :: st) h :=
  fun p e R s m args below meth c' H locs ls' k' w X hR hS hl hn hz => lv_pop X.1 X.2.1 hd h1 (kk p e R s m args below meth c' H locs ls' k' w X hR hS hl hn hz)
theorem go_dup2 {x : XT} {pc : Nat} {ls : List (Option Value)} {st : List Value} {h : AH} {a b : Value} (hd : decode x.2.1.2.1 pc = .ok (.dup2, 1)) (h1 : a.category = 1) (h2 : b.category = 1) (kk : Go x (pc + 1) ls (a :: b :: a :: b :: st) h) : Go x pc ls (a :: b :: st) h :=
  fun p e R s m args below meth c' H locs ls' k' w X hR hS hl hn hz => lv_dup2_11 X.1 X.2.1 hd h1 h2 (kk p e R s m args below meth c' H locs ls' k' w X hR hS hl hn hz)
theorem go_dup_x1 {x : XT} {pc : Nat} {ls : List (Option Value)} {st : List Value} {h : AH} {a b : Value} (hd : decode x.2.1.2.1 pc = .ok (.dup_x1, 1)) (h1 : a.category = 1) (h2 : b.category = 1) (kk : Go x (pc + 1) ls (a :: b :: a :: st) h) : Go x pc ls (a :: b :: st) h :=
  fun p e R s m args below meth c' H locs ls' k' w X hR hS hl hn hz => lv_dup_x1 X.1 X.2.1 hd h1 h2 (kk p e R s m args below meth c' H locs ls' k' w X hR hS hl hn hz)
theorem go_dup_x2 {x : XT} {pc : Nat} {ls : List (Option Value)} {st : List Value} {h : AH} {a b u : Value} (hd : decode x.2.1.2.1 pc = .ok (.dup_x2, 1)) (h1 : a.category = 1) (h2 : b.category = 1) (h3 : u.category = 1) (kk : Go x (pc + 1) ls (a :: b :: u :: a :: st) h) : Go x pc ls (a :: b :: u :: st) h :=
  fun p e R s m args below meth c' H locs ls' k' w X hR hS hl hn hz => lv_dup_x2 X.1 X.2.1 hd h1 h2 h3 (kk p e R s m args below meth c' H locs ls' k' w X hR hS hl hn hz)
theorem go_goto {x : XT} {pc : Nat} {ls : List (Option Value)} {st : List Value} {h : AH} {off : Int} {t : Nat} (hd : decode x.2.1.2.1 pc = .ok (.goto off, 3)) (ht : (pc : Int) + off = (t : Int)) (kk : Go x t ls st h) : Go x pc ls st h :=
  fun p e R s m args below meth c' H locs ls' k' w X hR hS hl hn hz => lv_goto X.1 X.2.1 hd ht (kk p e R s m args below meth c' H locs ls' k' w X hR hS hl hn hz)
theorem go_if_eq {x : XT} {pc : Nat} {ls : List (Option Value)} {st : List Value} {h : AH} {a : Int32} {off : Int} {t : Nat} (hd : decode x.2.1.2.1 pc = .ok (.ifCond .eq off, 3)) (ht : (pc : Int) + off = (t : Int)) (hb2 : e_br (a = 0) (Go x t ls st h) (Go x (pc + 3) ls st h)) : Go x pc ls (.int a :: st) h :=
  fun p e R s m args below meth c' H locs ls' k' w X hR hS hl hn hz => lv_if_eq X.1 X.2.1 hd ht (fun q => hb2.1 q p e R s m args below meth c' H locs ls' k' w X hR hS hl hn hz) (fun q => hb2.2 q p e R s m args below meth c' H locs ls' k' w X hR hS hl hn hz)
theorem go_if_ne {x : XT} {pc : Nat} {ls : List (Option Value)} {st : List Value} {h : AH} {a : Int32} {off : Int} {t : Nat} (hd : decode x.2.1.2.1 pc = .ok (.ifCond .ne off, 3)) (ht : (pc : Int) + off = (t : Int)) (hb2 : e_br (a = 0) (Go x (pc + 3) ls st h) (Go x t ls st h)) : Go x pc ls (.int a :: st) h :=
  fun p e R s m args below meth c' H locs ls' k' w X hR hS hl hn hz => lv_if_ne X.1 X.2.1 hd ht (fun q => hb2.2 q p e R s m args below meth c' H locs ls' k' w X hR hS hl hn hz) (fun q => hb2.1 q p e R s m args below meth c' H locs ls' k' w X hR hS hl hn hz)
theorem go_if_lt {x : XT} {pc : Nat} {ls : List (Option Value)} {st : List Value} {h : AH} {a : Int32} {off : Int} {t : Nat} (hd : decode x.2.1.2.1 pc = .ok (.ifCond .lt off, 3)) (ht : (pc : Int) + off = (t : Int)) (hb2 : e_br (a < 0) (Go x t ls st h) (Go x (pc + 3) ls st h)) : Go x pc ls (.int a :: st) h :=
  fun p e R s m args below meth c' H locs ls' k' w X hR hS hl hn hz => lv_if_lt X.1 X.2.1 hd ht (fun q => hb2.1 q p e R s m args below meth c' H locs ls' k' w X hR hS hl hn hz) (fun q => hb2.2 q p e R s m args below meth c' H locs ls' k' w X hR hS hl hn hz)
theorem go_if_ge {x : XT} {pc : Nat} {ls : List (Option Value)} {st : List Value} {h : AH} {a : Int32} {off : Int} {t : Nat} (hd : decode x.2.1.2.1 pc = .ok (.ifCond .ge off, 3)) (ht : (pc : Int) + off = (t : Int)) (hb2 : e_br (a < 0) (Go x (pc + 3) ls st h) (Go x t ls st h)) : Go x pc ls (.int a :: st) h :=
  fun p e R s m args below meth c' H locs ls' k' w X hR hS hl hn hz => lv_if_ge X.1 X.2.1 hd ht (fun q => hb2.2 (Int32.not_lt.mpr q) p e R s m args below meth c' H locs ls' k' w X hR hS hl hn hz) (fun q => hb2.1 (Int32.not_le.mp q) p e R s m args below meth c' H locs ls' k' w X hR hS hl hn hz)
theorem go_if_gt {x : XT} {pc : Nat} {ls : List (Option Value)} {st : List Value} {h : AH} {a : Int32} {off : Int} {t : Nat} (hd : decode x.2.1.2.1 pc = .ok (.ifCond .gt off, 3)) (ht : (pc : Int) + off = (t : Int)) (hb2 : e_br (0 < a) (Go x t ls st h) (Go x (pc + 3) ls st h)) : Go x pc ls (.int a :: st) h :=
  fun p e R s m args below meth c' H locs ls' k' w X hR hS hl hn hz => lv_if_gt X.1 X.2.1 hd ht (fun q => hb2.1 q p e R s m args below meth c' H locs ls' k' w X hR hS hl hn hz) (fun q => hb2.2 q p e R s m args below meth c' H locs ls' k' w X hR hS hl hn hz)
theorem go_if_le {x : XT} {pc : Nat} {ls : List (Option Value)} {st : List Value} {h : AH} {a : Int32} {off : Int} {t : Nat} (hd : decode x.2.1.2.1 pc = .ok (.ifCond .le off, 3)) (ht : (pc : Int) + off = (t : Int)) (hb2 : e_br (0 < a) (Go x (pc + 3) ls st h) (Go x t ls st h)) : Go x pc ls (.int a :: st) h :=
  fun p e R s m args below meth c' H locs ls' k' w X hR hS hl hn hz => lv_if_le X.1 X.2.1 hd ht (fun q => hb2.2 (Int32.not_lt.mpr q) p e R s m args below meth c' H locs ls' k' w X hR hS hl hn hz) (fun q => hb2.1 (Int32.not_le.mp q) p e R s m args below meth c' H locs ls' k' w X hR hS hl hn hz)
theorem go_icmp_eq {x : XT} {pc : Nat} {ls : List (Option Value)} {st : List Value} {h : AH} {a b : Int32} {off : Int} {t : Nat} (hd : decode x.2.1.2.1 pc = .ok (.if_icmp .eq off, 3)) (ht : (pc : Int) + off = (t : Int)) (hb2 : e_br (a = b) (Go x t ls st h) (Go x (pc + 3) ls st h)) : Go x pc ls (.int b :: .int a :: st) h :=
  fun p e R s m args below meth c' H locs ls' k' w X hR hS hl hn hz => lv_icmp_eq X.1 X.2.1 hd ht (fun q => hb2.1 q p e R s m args below meth c' H locs ls' k' w X hR hS hl hn hz) (fun q => hb2.2 q p e R s m args below meth c' H locs ls' k' w X hR hS hl hn hz)
theorem go_icmp_ne {x : XT} {pc : Nat} {ls : List (Option Value)} {st : List Value} {h : AH} {a b : Int32} {off : Int} {t : Nat} (hd : decode x.2.1.2.1 pc = .ok (.if_icmp .ne off, 3)) (ht : (pc : Int) + off = (t : Int)) (hb2 : e_br (a = b) (Go x (pc + 3) ls st h) (Go x t ls st h)) : Go x pc ls (.int b :: .int a :: st) h :=
  fun p e R s m args below meth c' H locs ls' k' w X hR hS hl hn hz => lv_icmp_ne X.1 X.2.1 hd ht (fun q => hb2.2 q p e R s m args below meth c' H locs ls' k' w X hR hS hl hn hz) (fun q => hb2.1 q p e R s m args below meth c' H locs ls' k' w X hR hS hl hn hz)
theorem go_icmp_lt {x : XT} {pc : Nat} {ls : List (Option Value)} {st : List Value} {h : AH} {a b : Int32} {off : Int} {t : Nat} (hd : decode x.2.1.2.1 pc = .ok (.if_icmp .lt off, 3)) (ht : (pc : Int) + off = (t : Int)) (hb2 : e_br (a < b) (Go x t ls st h) (Go x (pc + 3) ls st h)) : Go x pc ls (.int b :: .int a :: st) h :=
  fun p e R s m args below meth c' H locs ls' k' w X hR hS hl hn hz => lv_icmp_lt X.1 X.2.1 hd ht (fun q => hb2.1 q p e R s m args below meth c' H locs ls' k' w X hR hS hl hn hz) (fun q => hb2.2 q p e R s m args below meth c' H locs ls' k' w X hR hS hl hn hz)
theorem go_icmp_ge {x : XT} {pc : Nat} {ls : List (Option Value)} {st : List Value} {h : AH} {a b : Int32} {off : Int} {t : Nat} (hd : decode x.2.1.2.1 pc = .ok (.if_icmp .ge off, 3)) (ht : (pc : Int) + off = (t : Int)) (hb2 : e_br (a < b) (Go x (pc + 3) ls st h) (Go x t ls st h)) : Go x pc ls (.int b :: .int a :: st) h :=
  fun p e R s m args below meth c' H locs ls' k' w X hR hS hl hn hz => lv_icmp_ge X.1 X.2.1 hd ht (fun q => hb2.2 (Int32.not_lt.mpr q) p e R s m args below meth c' H locs ls' k' w X hR hS hl hn hz) (fun q => hb2.1 (Int32.not_le.mp q) p e R s m args below meth c' H locs ls' k' w X hR hS hl hn hz)
theorem go_icmp_gt {x : XT} {pc : Nat} {ls : List (Option Value)} {st : List Value} {h : AH} {a b : Int32} {off : Int} {t : Nat} (hd : decode x.2.1.2.1 pc = .ok (.if_icmp .gt off, 3)) (ht : (pc : Int) + off = (t : Int)) (hb2 : e_br (b < a) (Go x t ls st h) (Go x (pc + 3) ls st h)) : Go x pc ls (.int b :: .int a :: st) h :=
  fun p e R s m args below meth c' H locs ls' k' w X hR hS hl hn hz => lv_icmp_gt X.1 X.2.1 hd ht (fun q => hb2.1 q p e R s m args below meth c' H locs ls' k' w X hR hS hl hn hz) (fun q => hb2.2 q p e R s m args below meth c' H locs ls' k' w X hR hS hl hn hz)
theorem go_icmp_le {x : XT} {pc : Nat} {ls : List (Option Value)} {st : List Value} {h : AH} {a b : Int32} {off : Int} {t : Nat} (hd : decode x.2.1.2.1 pc = .ok (.if_icmp .le off, 3)) (ht : (pc : Int) + off = (t : Int)) (hb2 : e_br (b < a) (Go x (pc + 3) ls st h) (Go x t ls st h)) : Go x pc ls (.int b :: .int a :: st) h :=
  fun p e R s m args below meth c' H locs ls' k' w X hR hS hl hn hz => lv_icmp_le X.1 X.2.1 hd ht (fun q => hb2.2 (Int32.not_lt.mpr q) p e R s m args below meth c' H locs ls' k' w X hR hS hl hn hz) (fun q => hb2.1 (Int32.not_le.mp q) p e R s m args below meth c' H locs ls' k' w X hR hS hl hn hz)
theorem go_ifnullN {x : XT} {pc : Nat} {ls : List (Option Value)} {st : List Value} {h : AH} {off : Int} {t : Nat} (hd : decode x.2.1.2.1 pc = .ok (.ifnull off, 3)) (ht : (pc : Int) + off = (t : Int)) (kk : Go x t ls st h) : Go x pc ls (.null :: st) h :=
  fun p e R s m args below meth c' H locs ls' k' w X hR hS hl hn hz => lv_ifnullN X.1 X.2.1 hd ht (kk p e R s m args below meth c' H locs ls' k' w X hR hS hl hn hz)
theorem go_ifnull {x : XT} {pc : Nat} {ls : List (Option Value)} {st : List Value} {h : AH} {off : Int} {q : Nat} (hd : decode x.2.1.2.1 pc = .ok (.ifnull off, 3)) (kk : Go x (pc + 3) ls st h) : Go x pc ls (.ref q :: st) h :=
  fun p e R s m args below meth c' H locs ls' k' w X hR hS hl hn hz => lv_ifnull X.1 X.2.1 hd (kk p e R s m args below meth c' H locs ls' k' w X hR hS hl hn hz)
theorem go_ifnonnullN {x : XT} {pc : Nat} {ls : List (Option Value)} {st : List Value} {h : AH} {off : Int} (hd : decode x.2.1.2.1 pc = .ok (.ifnonnull off, 3)) (kk : Go x (pc + 3) ls st h) : Go x pc ls (.null :: st) h :=
  fun p e R s m args below meth c' H locs ls' k' w X hR hS hl hn hz => lv_ifnonnullN X.1 X.2.1 hd (kk p e R s m args below meth c' H locs ls' k' w X hR hS hl hn hz)
theorem go_ifnonnull {x : XT} {pc : Nat} {ls : List (Option Value)} {st : List Value} {h : AH} {off : Int} {q t : Nat} (hd : decode x.2.1.2.1 pc = .ok (.ifnonnull off, 3)) (ht : (pc : Int) + off = (t : Int)) (kk : Go x t ls st h) : Go x pc ls (.ref q :: st) h :=
  fun p e R s m args below meth c' H locs ls' k' w X hR hS hl hn hz => lv_ifnonnull X.1 X.2.1 hd ht (kk p e R s m args below meth c' H locs ls' k' w X hR hS hl hn hz)
theorem e_sw_spec {v : Int32} {d : Nat} {f : Nat → Prop} : ∀ (cs : List (Int32 × Nat)), e_sw cs d v f → (∃ q ∈ cs, v = q.1 ∧ f q.2) ∨ ((∀ q ∈ cs, ¬ v = q.1) ∧ f d)
  | [], h => Or.inr ⟨fun q hq => (by cases hq), h⟩
  | q :: r, h => by
    by_cases hv : v = q.1
    · exact Or.inl ⟨q, List.mem_cons_self, hv, h.1 hv⟩
    · rcases e_sw_spec r (h.2 hv) with ⟨q', h1, h2⟩ | ⟨h1, h2⟩
      · exact Or.inl ⟨q', List.mem_cons_of_mem _ h1, h2⟩
      · refine Or.inr ⟨fun q' hq' => ?_, h2⟩
        rcases List.mem_cons.mp hq' with h3 | h3
        · rw [h3]; exact hv
        · exact h1 q' h3
theorem go_table {x : XT} {pc : Nat} {ls : List (Option Value)} {st : List Value} {h : AH} {v : Int32} {cs : List (Int32 × Nat)} {dt len : Nat} {dflt lo hi : Int} {offs : Array Int} (hd : decode x.2.1.2.1 pc = .ok (.tableswitch dflt lo hi offs, len)) (hdt : (pc : Int) + dflt = (dt : Int))
    (hcs : cs.all (fun q => decide (lo ≤ q.1.toInt) && decide (q.1.toInt ≤ hi) && (match offs[(q.1.toInt - lo).toNat]? with | some o => decide ((pc : Int) + o = (q.2 : Int)) | none => false)) = true)
    (hall : (List.range (hi - lo + 1).toNat).all (fun i => cs.any (fun q => decide (q.1.toInt = lo + (i : Int)))) = true)
    (kk : e_sw cs dt v (fun t => Go x t ls st h)) : Go x pc ls (.int v :: st) h := by
  intro p e R s m args below meth c' H locs ls' k' w X hR hS hl hn hz
  rcases e_sw_spec cs kk with ⟨q, hq, rfl, hg⟩ | ⟨hno, hg⟩
  · have h1 := List.all_eq_true.mp hcs q hq
    simp only [Bool.and_eq_true, decide_eq_true_eq] at h1
    obtain ⟨⟨h2, h3⟩, h4⟩ := h1
    cases ho : offs[(q.1.toInt - lo).toNat]? with
    | none => rw [ho] at h4; cases h4
    | some o =>
      rw [ho] at h4
      exact lv_tableIn X.1 X.2.1 hd (by omega) (by omega) ho (of_decide_eq_true h4) (hg p e R s m args below meth c' H locs ls' k' w X hR hS hl hn hz)
  · refine lv_tableOut X.1 X.2.1 hd ?_ hdt (hg p e R s m args below meth c' H locs ls' k' w X hR hS hl hn hz)
    by_cases h1 : v.toInt < lo
    · exact Or.inl h1
    · by_cases h2 : hi < v.toInt
      · exact Or.inr h2
      · exfalso
        have h3 := List.all_eq_true.mp hall (v.toInt - lo).toNat (List.mem_range.mpr (by omega))
        obtain ⟨q, hq, he⟩ := List.any_eq_true.mp h3
        have he' := of_decide_eq_true he
        refine hno q hq (Int32.toInt_inj.mp ?_)
        rw [he']
        omega
theorem go_lookup {x : XT} {pc : Nat} {ls : List (Option Value)} {st : List Value} {h : AH} {v : Int32} {cs : List (Int32 × Nat)} {dt len : Nat} {dflt : Int} {ps : Array (Int × Int)} (hd : decode x.2.1.2.1 pc = .ok (.lookupswitch dflt ps, len)) (hdt : (pc : Int) + dflt = (dt : Int))
    (hp : (ps.toList.zip (ps.toList.drop 1)).all (fun (a, next) => a.1 < next.1) = true)
    (hcs : cs.all (fun q => decide ((pc : Int) + Op.lookupswitch.offset ps.toList dflt q.1.toInt = (q.2 : Int))) = true)
    (hall : ps.toList.all (fun r => cs.any (fun q => decide (q.1.toInt = r.1))) = true)
    (kk : e_sw cs dt v (fun t => Go x t ls st h)) : Go x pc ls (.int v :: st) h := by
  intro p e R s m args below meth c' H locs ls' k' w X hR hS hl hn hz
  rcases e_sw_spec cs kk with ⟨q, hq, rfl, hg⟩ | ⟨hno, hg⟩
  · exact lv_lookup X.1 X.2.1 hd hp rfl (of_decide_eq_true (List.all_eq_true.mp hcs q hq)) (hg p e R s m args below meth c' H locs ls' k' w X hR hS hl hn hz)
  · refine lv_lookup X.1 X.2.1 hd hp (Op.lookupswitch.offset_none ?_) hdt (hg p e R s m args below meth c' H locs ls' k' w X hR hS hl hn hz)
    rw [List.find?_eq_none]
    intro r hr hk
    obtain ⟨q, hq, he⟩ := List.any_eq_true.mp (List.all_eq_true.mp hall r hr)
    have he' := of_decide_eq_true he
    have hk' : r.1 = v.toInt := by simpa using hk
    exact hno q hq (Int32.toInt_inj.mp (by rw [he', hk']))
end
section
/-! the heap's instructions, calls, ends -/
theorem cx_rt {x : XT} {p : Program} {R : Room} {s : State} {m : MethodId} {args : Array Value} {meth : Method} {c : Code} (X : CX x p R s m args meth c) : RT x.1 s := X.2.2.2.2.2.2.2.2.2.2.2.2.1
theorem cx_scr {x : XT} {p : Program} {R : Room} {s : State} {m : MethodId} {args : Array Value} {meth : Method} {c : Code} (X : CX x p R s m args meth c) : va_X (gS x.1) (gN x.1) (gX x.1) s s.heap := X.2.2.2.2.2.2.2.2.2.2.2.2.2.1
theorem cx_base {x : XT} {p : Program} {R : Room} {s : State} {m : MethodId} {args : Array Value} {meth : Method} {c : Code} (X : CX x p R s m args meth c) : gB x.1 ≤ s.heap.size := X.2.2.2.2.2.2.2.2.2.2.2.2.2.2
theorem cx_room {x : XT} {p : Program} {R : Room} {s : State} {m : MethodId} {args : Array Value} {meth : Method} {c : Code} (X : CX x p R s m args meth c) : x.2.2.1 ≤ R.frames ∧ 40 * x.2.2.1 ≤ R.locals ∧ x.2.2.2.2.2.1 ≤ R.cells ∧ x.2.2.2.2.2.2.1 ≤ R.slots := ⟨X.2.2.2.2.2.2.2.2.1, X.2.2.2.2.2.2.2.2.2.1, X.2.2.2.2.2.2.2.2.2.2.1, X.2.2.2.2.2.2.2.2.2.2.2.1⟩
theorem cx_locks {x : XT} {p : Program} {R : Room} {s : State} {m : MethodId} {args : Array Value} {meth : Method} {c : Code} (X : CX x p R s m args meth c) : meth.locks = false := X.2.2.2.2.2.2.1
theorem cx_name {x : XT} {p : Program} {R : Room} {s : State} {m : MethodId} {args : Array Value} {meth : Method} {c : Code} (X : CX x p R s m args meth c) : meth.name = x.2.1.1.name := X.2.2.2.2.2.2.2.1
theorem go_getf {x : XT} {pc idx c j k : Nat} {q : vw_C} {ls : List (Option Value)} {st : List Value} {h : AH} (hd : decode x.2.1.2.1 pc = .ok (.getfield idx, 3)) (hq : kcl[c]? = some q) (hj : j < q.2.2) (hw : Cond.fieldLink x.2.1.1.cls idx (q.2.1 j).1 (q.2.1 j).2.1 (q.2.1 j).2.2.1 ∈ ktb) (hs : h.2.2.1 k = (0, c + 1))
    (kk : Go x (pc + 3) ls (cval (fco (ktyp c j)) (gB x.1) h.2.2.2.1 h.2.2.2.2.1 h.2.2.2.2.2 k j :: st) h) : Go x pc ls (.ref (gB x.1 + k) :: st) h := by
  intro p e R s m args below meth c' H locs ls' k' w X hR hS hl hn hz
  obtain ⟨cell, q1, q2, q3, q4⟩ := hR.obj hs hq
  obtain ⟨hSl, hfc, kC, hkC, hkind⟩ := (cx_rt X).1 c q hq
  obtain ⟨cf, kf, fi, f, hi, hsl⟩ := hSl j hj
  refine W.getf X.1 X.2.1 X.2.2.2.2.1 (X.2.2.2.2.2.1 _ hw) hi (u_facts hfc hkC (u_lays X.2.2.2.2.2.1 (kf_in hq) hj) hi).1 q1 (by rw [q3]; exact fun h => by cases h) (v := cval (fco (ktyp c j)) (gB x.1) h.2.2.2.1 h.2.2.2.2.1 h.2.2.2.2.2 k j) ?_ rfl rfl hd (kk p e R s m args below meth c' H locs ls' k' w X hR hS hl hn hz)
  rw [hsl, q4 j hj]
theorem kc_apart {x : XT} {p : Program} {R : Room} {s : State} {m : MethodId} {args : Array Value} {meth : Method} {c' : Code} {c : Nat} {q : vw_C} (X : CX x p R s m args meth c') (hq : kcl[c]? = some q) : ∀ a b, a < q.2.2 → b < q.2.2 → a ≠ b → (gI x.1 c) a ≠ (gI x.1 c) b := by
  intro a b ha hb hne
  obtain ⟨hS, -⟩ := (cx_rt X).1 c q hq
  obtain ⟨_, _, _, fa, hia, ea⟩ := hS a ha
  obtain ⟨_, _, _, fb, hib, eb⟩ := hS b hb
  rw [← ea, ← eb]
  refine u_apart (u_lays X.2.2.2.2.2.1 (kf_in hq) ha) (u_lays X.2.2.2.2.2.1 (kf_in hq) hb) hia hib ?_
  rw [(State.fieldFound?_type hia (kf_ty hq a ha)).1, (State.fieldFound?_type hib (kf_ty hq b hb)).1]
  exact kf_nm hq a ha b hb hne
/-- a field is written: the object's cell afterwards -/
theorem go_putf {x : XT} {pc idx c j k : Nat} {q : vw_C} {v : Value} {ls : List (Option Value)} {st : List Value} {n z : Nat} {S : Nat → Nat × Nat} {I I' : Nat → Nat → Int32} {J J' : Nat → Nat → Int64} {R0 R' : Nat → Nat → Option Nat} (hd : decode x.2.1.2.1 pc = .ok (.putfield idx, 3)) (hq : kcl[c]? = some q) (hj : j < q.2.2) (hw : Cond.fieldLink x.2.1.1.cls idx (q.2.1 j).1 (q.2.1 j).2.1 (q.2.1 j).2.2.1 ∈ ktb) (hs : S k = (0, c + 1))
    (hfin : (q.2.1 j).2.2.2 = false ∨ (x.2.1.1.name = "<init>" ∧ (q.2.1 j).1 = x.2.1.1.cls)) (hna : narrow (ktyp c j) v = v) (hfit : fits (ktyp c j) v = true)
    (hI : ∀ a, a ≠ k → I' a = I a) (hJ : ∀ a, a ≠ k → J' a = J a) (hRr : ∀ a, a ≠ k → R' a = R0 a)
    (hv : ∀ i, i < q.2.2 → cval (fco (ktyp c i)) (gB x.1) I' J' R' k i = if i = j then v else cval (fco (ktyp c i)) (gB x.1) I J R0 k i)
    (kk : Go x (pc + 3) ls st (n, z, S, I', J', R')) : Go x pc ls (v :: .ref (gB x.1 + k) :: st) (n, z, S, I, J, R0) := by
  intro p e R s m args below meth c' H locs ls' k' w X hR hS hl hn hz
  obtain ⟨cell, q1, q2, q3, q4⟩ := hR.obj (h := (n, z, S, I, J, R0)) hs hq
  obtain ⟨hSl, hfc, kC, hkC, hkind⟩ := (cx_rt X).1 c q hq
  obtain ⟨cf, kf, fi, f, hi, hsl⟩ := hSl j hj
  have hts := X.2.2.2.2.2.1
  have hlay := hts _ (kf_in hq _ (u_in_lay hj))
  have hst := (u_facts hfc hkC (u_lays hts (kf_in hq) hj) hi).1
  have hap := kc_apart X hq
  have fin : ∀ H' : Heap, H'[gB x.1 + k]? = some (cell.setSlot f.slot v) → H'.size = H.size → (∀ q, q ≠ gB x.1 + k → H'[q]? = H[q]?) → W p (gL x.1) e R s m args below meth c' H' (locs ++ [⟨gB x.1 + k, f.slot⟩]) k' w (MQ below (XQ x.1 (x.2.2.2.1 + x.2.2.2.2.2.1) (x.2.2.2.2.1 + x.2.2.2.2.2.2.1) x.2.2.2.2.2.2.2) args s x.2.2.2.2.2.1 x.2.2.2.2.2.2.1 (fun q => gB x.1 ≤ q)) (F0 m (pc + 3) ls' st) := by
    intro H' e1 e2 e3
    rw [hsl] at e1
    refine kk p e R s m args below meth c' H' _ ls' k' w X (hR.put e2 e3 hI hJ hRr ?_) (hS.put e2 e3 (Nat.le_add_right _ _)) hl hn hz
    rw [hs]
    refine ⟨q, hq, t_OB.to (V := updV (fun i => cval (fco (ktyp c i)) (gB x.1) I J R0 k i) j v) ⟨_, e1, q2, q3, t_set q4 hap hj v⟩ (fun i hi => ?_)⟩
    rw [hv i hi]
    rfl
  unfold u_lay at hlay
  by_cases hf : (q.2.1 j).2.2.2 = true
  · rw [if_pos hf] at hlay
    rcases hfin with h0 | ⟨hin, hdecl⟩
    · rw [h0] at hf; cases hf
    have hcf : m.cls = cf := by
      obtain ⟨_, _, c2, _, _, _, -, -, hf', -, -, -, hown2, -⟩ := Cond.laysFinal_spec hlay
      have e1 : c2 = cf := by have := hi.symm.trans hf'; simp at this; exact this.1.symm
      rw [hdecl] at hown2
      rw [← e1]; exact Option.some.inj (X.2.2.2.2.1.symm.trans hown2)
    have h6 := u_fits hfc hkC hkind (Or.inr hlay) hi (kf_ty hq j hj) hna hfit
    exact W.putFinK X.1 X.2.1 X.2.2.2.2.1 (hts _ hw) hi hst hcf ((cx_name X).trans hin) (by rw [q2]; exact h6) q1 q3 (by rw [hsl]; exact k2_hasslot (q4 j hj)) rfl rfl hd fin
  · rw [if_neg hf] at hlay
    have h6 := u_store hfc hkC hkind hlay hi (kf_ty hq j hj) hna hfit
    exact W.putK X.1 X.2.1 (f := f) ⟨X.2.2.2.2.1, hts _ hw, ⟨_, _, _, hi⟩, hst⟩ (by rw [q2]; exact h6) q1 q3 (by rw [hsl]; exact k2_hasslot (q4 j hj)) rfl rfl hd fin
theorem cval_int (B : Nat) (I : Nat → Nat → Int32) (J : Nat → Nat → Int64) (R : Nat → Nat → Option Nat) (k j : Nat) : cval 0 B I J R k j = .int (I k j) := rfl
theorem cval_long (B : Nat) (I : Nat → Nat → Int32) (J : Nat → Nat → Int64) (R : Nat → Nat → Option Nat) (k j : Nat) : cval 1 B I J R k j = .long (J k j) := rfl
theorem cval_ref (B : Nat) (I : Nat → Nat → Int32) (J : Nat → Nat → Int64) (R : Nat → Nat → Option Nat) (k j : Nat) : cval 2 B I J R k j = rv B (R k j) := rfl
theorem rv_some (B q : Nat) : rv B (some q) = .ref (B + q) := rfl
theorem rv_none (B : Nat) : rv B none = .null := rfl
theorem fco_cases (t : FieldType) : fco t = 0 ∨ fco t = 1 ∨ fco t = 2 := by cases t <;> simp [fco]
theorem cval_upI {B : Nat} {I : Nat → Nat → Int32} {J : Nat → Nat → Int64} {R : Nat → Nat → Option Nat} {k j i co : Nat} {v : Int32} (hc : i = j → co = 0) : cval co B (va_up I k (va_up (I k) j v)) J R k i = if i = j then .int v else cval co B I J R k i := by
  by_cases h : i = j
  · rw [if_pos h, hc h, h]
    simp [cval, va_up]
  · rw [if_neg h]
    unfold cval
    rw [va_up_self, va_up_ne _ _ h]
theorem cval_upJ {B : Nat} {I : Nat → Nat → Int32} {J : Nat → Nat → Int64} {R : Nat → Nat → Option Nat} {k j i co : Nat} {v : Int64} (hc : i = j → co = 1) : cval co B I (va_up J k (va_up (J k) j v)) R k i = if i = j then .long v else cval co B I J R k i := by
  by_cases h : i = j
  · rw [if_pos h, hc h, h]
    simp [cval, va_up]
  · rw [if_neg h]
    unfold cval
    rw [va_up_self, va_up_ne _ _ h]
theorem cval_upR {B : Nat} {I : Nat → Nat → Int32} {J : Nat → Nat → Int64} {R : Nat → Nat → Option Nat} {k j i co : Nat} {v : Option Nat} (hc : i = j → co = 2) : cval co B I J (va_up R k (va_up (R k) j v)) k i = if i = j then rv B v else cval co B I J R k i := by
  by_cases h : i = j
  · rw [if_pos h, hc h, h]
    simp [cval, va_up]
  · rw [if_neg h]
    unfold cval
    rw [va_up_self, va_up_ne _ _ h]
theorem go_iald {x : XT} {pc k len : Nat} {j : Int32} {ls : List (Option Value)} {st : List Value} {h : AH} (hd : decode x.2.1.2.1 pc = .ok (.iaload, 1)) (hs : h.2.2.1 k = (1, len)) (hin : vp_in j len) (kk : Go x (pc + 1) ls (.int (h.2.2.2.1 k j.toNatClampNeg) :: st) h) : Go x pc ls (.int j :: .ref (gB x.1 + k) :: st) h := by
  intro p e R s m args below meth c' H locs ls' k' w X hR hS hl hn hz
  obtain ⟨ht, hc⟩ := hR.arr (t := 0) hs
  have hlt : j.toNatClampNeg < len := Nat.not_le.mp fun q => hin (Or.inr q)
  have hA := ((cx_rt X).2.1 0 ht).1
  rw [kak_0] at hA hc
  exact W.iald (v := .int (h.2.2.2.1 k j.toNatClampNeg)) X.1 X.2.1 hc (hA _ _) (fun q => by cases q) (by rw [arrV_size]; exact hin) (by rw [arrV_read _ _ hlt]; rfl) rfl rfl hd (kk p e R s m args below meth c' H locs ls' k' w X hR hS hl hn hz)
theorem go_sld {x : XT} {pc : Nat} {j : Int32} {ls : List (Option Value)} {st : List Value} {h : AH} (hd : decode x.2.1.2.1 pc = .ok (.iaload, 1)) (hin : vp_in j (gN x.1)) (kk : Go x (pc + 1) ls (.int (gX x.1 j.toNatClampNeg) :: st) h) : Go x pc ls (.int j :: .ref (gS x.1) :: st) h := by
  intro p e R s m args below meth c' H locs ls' k' w X hR hS hl hn hz
  have hb := hR.2.2.2
  have hbs := cx_base X
  exact va_sld X.1 X.2.1 (cx_scr X) (by omega) (by show ¬ gB x.1 ≤ gS x.1; omega) hS hin hd (kk p e R s m args below meth c' H locs ls' k' w X hR hS hl hn hz)
theorem go_slen {x : XT} {pc : Nat} {ls : List (Option Value)} {st : List Value} {h : AH} (hd : decode x.2.1.2.1 pc = .ok (.arraylength, 1)) (kk : Go x (pc + 1) ls (.int (nI (gN x.1)) :: st) h) : Go x pc ls (.ref (gS x.1) :: st) h := by
  intro p e R s m args below meth c' H locs ls' k' w X hR hS hl hn hz
  have hb := hR.2.2.2
  have hbs := cx_base X
  exact va_slen X.1 X.2.1 (cx_scr X) (by omega) (by show ¬ gB x.1 ≤ gS x.1; omega) hS hd (kk p e R s m args below meth c' H locs ls' k' w X hR hS hl hn hz)
theorem go_alen {x : XT} {pc k t len : Nat} {ls : List (Option Value)} {st : List Value} {h : AH} (hd : decode x.2.1.2.1 pc = .ok (.arraylength, 1)) (hs : h.2.2.1 k = (t + 1, len)) (kk : Go x (pc + 1) ls (.int (nI len) :: st) h) : Go x pc ls (.ref (gB x.1 + k) :: st) h := by
  intro p e R s m args below meth c' H locs ls' k' w X hR hS hl hn hz
  obtain ⟨ht, hc⟩ := hR.arr hs
  exact W.alen (n := Int32.ofNat len) X.1 X.2.1 hc (((cx_rt X).2.1 t ht).1 _ _) (by rw [arrV_size] <;> rfl) rfl rfl hd (kk p e R s m args below meth c' H locs ls' k' w X hR hS hl hn hz)
theorem go_iast {x : XT} {pc k len : Nat} {j v : Int32} {ls : List (Option Value)} {st : List Value} {n z : Nat} {S : Nat → Nat × Nat} {I : Nat → Nat → Int32} {J : Nat → Nat → Int64} {R0 : Nat → Nat → Option Nat} (hd : decode x.2.1.2.1 pc = .ok (.iastore, 1)) (hs : S k = (1, len)) (hin : vp_in j len)
    (kk : Go x (pc + 1) ls st (n, z, S, va_up I k (va_up (I k) j.toNatClampNeg v), J, R0)) : Go x pc ls (.int v :: .int j :: .ref (gB x.1 + k) :: st) (n, z, S, I, J, R0) := by
  intro p e R s m args below meth c' H locs ls' k' w X hR hS hl hn hz
  obtain ⟨ht, hc⟩ := hR.arr (h := (n, z, S, I, J, R0)) (t := 0) hs
  have hA := ((cx_rt X).2.1 0 ht).1
  have hc0 := hc
  rw [kak_0] at hA hc
  refine W.iast X.1 X.2.1 hc (hA _ _) (fun q => by cases q) (by rw [arrV_size]; exact hin) rfl rfl hd fun H1 e1 z1 oq => ?_
  refine kk p e R s m args below meth c' H1 _ ls' k' w X (hR.put z1 oq (fun a ha => va_up_ne _ _ ha) (fun a ha => rfl) (fun a ha => rfl) ?_) (hS.put z1 oq (Nat.le_add_right _ _)) hl hn hz
  rw [hs]
  refine ⟨ht, ?_⟩
  rw [e1, arrV_store, kak_0]
  congr 2
  funext i
  show updV _ _ _ i = cval 0 _ _ _ _ k i
  rw [cval_upI (fun _ => rfl)]
  rfl
theorem go_bald {x : XT} {pc k len : Nat} {j : Int32} {ls : List (Option Value)} {st : List Value} {h : AH} (hd : decode x.2.1.2.1 pc = .ok (.baload, 1)) (hs : h.2.2.1 k = (3, len)) (hin : vp_in j len) (kk : Go x (pc + 1) ls (.int (h.2.2.2.1 k j.toNatClampNeg) :: st) h) : Go x pc ls (.int j :: .ref (gB x.1 + k) :: st) h := by
  intro p e R s m args below meth c' H locs ls' k' w X hR hS hl hn hz
  obtain ⟨ht, hc⟩ := hR.arr (t := 2) hs
  have hlt : j.toNatClampNeg < len := Nat.not_le.mp fun q => hin (Or.inr q)
  have hA := ((cx_rt X).2.1 2 ht).1
  rw [kak_2] at hA hc
  exact W.zald (v := .int (h.2.2.2.1 k j.toNatClampNeg)) X.1 X.2.1 hc (hA _ _) (fun q => by cases q) (by rw [arrV_size]; exact hin) (by rw [arrV_read _ _ hlt]; rfl) rfl rfl hd (kk p e R s m args below meth c' H locs ls' k' w X hR hS hl hn hz)
theorem go_bast {x : XT} {pc k len : Nat} {j v : Int32} {ls : List (Option Value)} {st : List Value} {n z : Nat} {S : Nat → Nat × Nat} {I : Nat → Nat → Int32} {J : Nat → Nat → Int64} {R0 : Nat → Nat → Option Nat} (hd : decode x.2.1.2.1 pc = .ok (.bastore, 1)) (hs : S k = (3, len)) (hin : vp_in j len) (hna : narrow .boolean (.int v) = .int v)
    (kk : Go x (pc + 1) ls st (n, z, S, va_up I k (va_up (I k) j.toNatClampNeg v), J, R0)) : Go x pc ls (.int v :: .int j :: .ref (gB x.1 + k) :: st) (n, z, S, I, J, R0) := by
  intro p e R s m args below meth c' H locs ls' k' w X hR hS hl hn hz
  obtain ⟨ht, hc⟩ := hR.arr (h := (n, z, S, I, J, R0)) (t := 2) hs
  have hA := ((cx_rt X).2.1 2 ht).1
  rw [kak_2] at hA hc
  refine W.zast X.1 X.2.1 hc (hA _ _) (fun q => by cases q) (by rw [arrV_size]; exact hin) rfl rfl hd fun H1 e1 z1 oq => ?_
  rw [hna] at e1
  refine kk p e R s m args below meth c' H1 _ ls' k' w X (hR.put z1 oq (fun a ha => va_up_ne _ _ ha) (fun a ha => rfl) (fun a ha => rfl) ?_) (hS.put z1 oq (Nat.le_add_right _ _)) hl hn hz
  rw [hs]
  refine ⟨ht, ?_⟩
  rw [e1, arrV_store, kak_2]
  congr 2
  funext i
  show updV _ _ _ i = cval 0 _ _ _ _ k i
  rw [cval_upI (fun _ => rfl)]
  rfl
theorem go_aald {x : XT} {pc k t len : Nat} {j : Int32} {ls : List (Option Value)} {st : List Value} {h : AH} (hd : decode x.2.1.2.1 pc = .ok (.aaload, 1)) (hs : h.2.2.1 k = (t + 1, len)) (hr : (kak t).isReference = true) (hin : vp_in j len) (kk : Go x (pc + 1) ls (rv (gB x.1) (h.2.2.2.2.2 k j.toNatClampNeg) :: st) h) : Go x pc ls (.int j :: .ref (gB x.1 + k) :: st) h := by
  intro p e R s m args below meth c' H locs ls' k' w X hR hS hl hn hz
  obtain ⟨ht, hc⟩ := hR.arr hs
  have hlt : j.toNatClampNeg < len := Nat.not_le.mp fun q => hin (Or.inr q)
  have hf : fco (kak t) = 2 := by
    cases hk : kak t <;> rw [hk] at hr <;> first | rfl | cases hr
  exact W.aald (v := rv (gB x.1) (h.2.2.2.2.2 k j.toNatClampNeg)) (ty := kak t) X.1 X.2.1 hc (((cx_rt X).2.1 t ht).1 _ _) hr (fun q => by cases q) (by rw [arrV_size]; exact hin) (by rw [arrV_read _ _ hlt, hf]; rfl) rfl rfl hd (kk p e R s m args below meth c' H locs ls' k' w X hR hS hl hn hz)
theorem go_aast {x : XT} {pc k t len c q' : Nat} {j : Int32} {q : vw_C} {ls : List (Option Value)} {st : List Value} {n z : Nat} {S : Nat → Nat × Nat} {I : Nat → Nat → Int32} {J : Nat → Nat → Int64} {R0 : Nat → Nat → Option Nat} (hd : decode x.2.1.2.1 pc = .ok (.aastore, 1)) (hs : S k = (t + 1, len)) (hq : kcl[c]? = some q) (hk : kak t = .object q.1) (hv : S q' = (0, c + 1)) (hin : vp_in j len)
    (kk : Go x (pc + 1) ls st (n, z, S, I, J, va_up R0 k (va_up (R0 k) j.toNatClampNeg (some q')))) : Go x pc ls (.ref (gB x.1 + q') :: .int j :: .ref (gB x.1 + k) :: st) (n, z, S, I, J, R0) := by
  intro p e R s m args below meth c' H locs ls' k' w X hR hS hl hn hz
  obtain ⟨ht, hc⟩ := hR.arr (h := (n, z, S, I, J, R0)) hs
  obtain ⟨cellV, g1, g2, g3, -⟩ := hR.obj (h := (n, z, S, I, J, R0)) hv hq
  have hlt : j.toNatClampNeg < len := Nat.not_le.mp fun q => hin (Or.inr q)
  have h0 : ¬ j < 0 := fun q => hin (Or.inl q)
  have hcls := ((cx_rt X).1 c q hq).2
  have hra := ((cx_rt X).2.1 t ht).2
  rw [hk] at hra
  obtain ⟨kA, comp, k1, k2, k3, -⟩ := hra
  have hcomp : comp = gC x.1 c := Option.some.inj (k3.symm.trans hcls.1)
  subst hcomp
  obtain ⟨kC, hkC, -⟩ := hcls.2
  refine W.aast X.1 X.2.1 hc (fun q h => by cases h) (fun h => by cases h) k1 k2 rfl hkC ⟨h0, by rw [arrV_size]; exact hlt⟩ g1 (fun q h => by rw [g3] at h; cases h) (by rw [g2]; exact hkC) (by rw [g2]; exact va_assign hcls) rfl rfl hd fun H1 e1 z1 oq => ?_
  refine kk p e R s m args below meth c' H1 _ ls' k' w X (hR.put z1 oq (fun a ha => rfl) (fun a ha => rfl) (fun a ha => va_up_ne _ _ ha) ?_) (hS.put z1 oq (Nat.le_add_right _ _)) hl hn hz
  rw [hs]
  refine ⟨ht, ?_⟩
  rw [e1, arrV_store, hk]
  congr 2
  funext i
  show updV _ _ _ i = cval 2 _ _ _ _ k i
  rw [cval_upR (fun _ => rfl)]
  rfl
end
section
theorem vs_push {A : Nat → Prop} {H0 H H1 : Heap} {locs : List Loc} (h : va_S A H0 H locs) (z : H1.size = H.size + 1) (o : ∀ q : Nat, q < H.size → H1[q]? = H[q]?) : va_S A H0 H1 locs :=
  ⟨by have := h.1; omega, fun q h1 h2 => (o q (Nat.lt_of_lt_of_le h1 h.1)).trans (h.2.1 q h1 h2), h.2.2⟩
theorem go_newa {x : XT} {pc t : Nat} {at_ : ArrayType} {v : Int32} {ls : List (Option Value)} {st : List Value} {n z : Nat} {S : Nat → Nat × Nat} {I : Nat → Nat → Int32} {J : Nat → Nat → Int64} {R0 : Nat → Nat → Option Nat} (hd : decode x.2.1.2.1 pc = .ok (.newarray at_, 2)) (hw : Cond.arrayClass (kak t) ∈ ktb) (hk0 : t < kna) (hty : newarray.typeOf at_ = kak t) (hpr : kak t = .int ∨ kak t = .boolean) (h0 : ¬ v < 0) (h1 : v.toNatClampNeg ≤ 100000) (hc : n + 1 ≤ x.2.2.2.1 + x.2.2.2.2.2.1) (hs : z + v.toNatClampNeg ≤ x.2.2.2.2.1 + x.2.2.2.2.2.2.1)
    (kk : Go x (pc + 2) ls (.ref (gB x.1 + n) :: st) (n + 1, z + v.toNatClampNeg, va_up S n (t + 1, v.toNatClampNeg), va_up I n (fun _ => 0), J, R0)) : Go x pc ls (.int v :: st) (n, z, S, I, J, R0) := by
  intro p e R s m args below meth c' H locs ls' k' w X hR hS hl hn hz
  obtain ⟨r1, r2, r3, r4⟩ := cx_room X
  have hn' : n = x.2.2.2.1 + k' := hn.1
  have hz' : z = x.2.2.2.2.1 + w := hz.1
  have hsz : H.size = gB x.1 + n := hR.1
  refine va_newaK (N := v.toNatClampNeg) (h := gB x.1 + n) X.1 X.2.1 (by rw [hty]; exact X.2.2.2.2.2.1 _ hw) rfl hd rfl h0 rfl (by rw [hty]; rcases hpr with e | e <;> rw [e] <;> (show _ * _ ≤ _; simp only [componentBytes]; omega)) (by omega) (by omega) hsz fun H1 cA e1 z1 o1 hAr hNm => ?_
  have hra := ((cx_rt X).2.1 t hk0).2
  have hra : s.vm.findClass ("[" ++ (newarray.typeOf at_).toString) = some (gA x.1 t) := by
    rw [hty]
    rcases hpr with e | e <;> rw [e] at hra ⊢ <;> exact hra
  have hcA : cA = gA x.1 t := Option.some.inj (hNm.symm.trans hra)
  subst hcA
  refine kk p e R s m args below meth c' H1 locs ls' (k' + 1) (w + v.toNatClampNeg) X (hR.push (by rw [z1, hsz]) (by rw [hsz]; exact o1) (fun a ha => va_up_ne _ _ ha) (fun a ha => rfl) (fun a ha => rfl) ⟨hk0, ?_⟩) (vs_push hS (by rw [z1, hsz]) (by rw [hsz]; exact o1)) hl ⟨by show n + 1 = _; omega, by omega⟩ ⟨by show z + _ = _; omega, by omega⟩
  rw [e1, hty]
  congr 2
  funext i
  show _ = cval (fco (kak t)) _ (va_up I n (fun _ => 0)) _ _ n i
  rcases hpr with e | e <;> rw [e] <;> (show _ = Value.int (va_up I n (fun _ => 0) n i); rw [va_up_self]; rfl)
theorem go_newq {x : XT} {pc idx t : Nat} {C : String} {v : Int32} {ls : List (Option Value)} {st : List Value} {n z : Nat} {S : Nat → Nat × Nat} {I : Nat → Nat → Int32} {J : Nat → Nat → Int64} {R0 : Nat → Nat → Option Nat} (hd : decode x.2.1.2.1 pc = .ok (.anewarray idx, 3)) (hw : Cond.classLink x.2.1.1.cls idx C ∈ ktb) (ho : C ∈ kao) (hk0 : t < kna) (hkt : kak t = .object C) (h0 : ¬ v < 0) (h1 : v.toNatClampNeg ≤ 100000) (hc : n + 1 ≤ x.2.2.2.1 + x.2.2.2.2.2.1) (hs : z + v.toNatClampNeg ≤ x.2.2.2.2.1 + x.2.2.2.2.2.2.1)
    (kk : Go x (pc + 3) ls (.ref (gB x.1 + n) :: st) (n + 1, z + v.toNatClampNeg, va_up S n (t + 1, v.toNatClampNeg), I, J, va_up R0 n (fun _ => none))) : Go x pc ls (.int v :: st) (n, z, S, I, J, R0) := by
  intro p e R s m args below meth c' H locs ls' k' w X hR hS hl hn hz
  obtain ⟨r1, r2, r3, r4⟩ := cx_room X
  have hn' : n = x.2.2.2.1 + k' := hn.1
  have hz' : z = x.2.2.2.2.1 + w := hz.1
  have hsz : H.size = gB x.1 + n := hR.1
  refine W.anew X.1 X.2.1 X.2.2.2.2.1 (X.2.2.2.2.2.1 _ hw) (va_AO.use ((cx_rt X).2.2.2 C ho)) rfl hd rfl h0 (by omega) (by omega) (by omega) fun cA kA comp f1 f2 f3 f4 => ?_
  have hra := ((cx_rt X).2.1 t hk0).2
  rw [hkt] at hra
  obtain ⟨_, _, -, -, -, hra⟩ := hra
  have hcA : cA = gA x.1 t := Option.some.inj (f1.symm.trans hra)
  subst hcA
  generalize hH1 : H.push ({ cls := gA x.1 t, slots := Array.replicate v.toNatClampNeg .null, vm := .none } : Cell) = H1
  have z1 : H1.size = H.size + 1 := by rw [← hH1, Array.size_push]
  have e1 : H1[H.size]? = some (arrV (gA x.1 t) v.toNatClampNeg (fun _ => .null)) := by rw [← hH1, Array.getElem?_push_size, ← arrV_new]
  have o1 : ∀ q : Nat, q < H.size → H1[q]? = H[q]? := fun q hq => by rw [← hH1, Array.getElem?_push, if_neg (Nat.ne_of_lt hq)]
  refine W.eq (g2 := F0 m (pc + 3) ls' (.ref (gB x.1 + n) :: st)) (by rw [hsz]) ?_
  refine kk p e R s m args below meth c' H1 locs ls' (k' + 1) (w + v.toNatClampNeg) X (hR.push z1 o1 (fun a ha => rfl) (fun a ha => rfl) (fun a ha => va_up_ne _ _ ha) ⟨hk0, ?_⟩) (vs_push hS z1 o1) hl ⟨by show n + 1 = _; omega, by omega⟩ ⟨by show z + _ = _; omega, by omega⟩
  rw [← hsz, e1, hkt]
  congr 2
  funext i
  show _ = rv _ (va_up R0 n (fun _ => none) n i)
  rw [va_up_self]
  rfl
theorem go_new {x : XT} {pc idx c : Nat} {q : vw_C} {ls : List (Option Value)} {st : List Value} {n z : Nat} {S : Nat → Nat × Nat} {I : Nat → Nat → Int32} {J : Nat → Nat → Int64} {R0 : Nat → Nat → Option Nat} (hd : decode x.2.1.2.1 pc = .ok (.new idx, 3)) (hq : kcl[c]? = some q) (hw1 : Cond.classLink x.2.1.1.cls idx q.1 ∈ ktb) (hw2 : Cond.instantiable q.1 q.2.2 ∈ ktb) (hw3 : Cond.initialized q.1 ∈ ktb) (hc : n + 1 ≤ x.2.2.2.1 + x.2.2.2.2.2.1) (hs : z + q.2.2 ≤ x.2.2.2.2.1 + x.2.2.2.2.2.2.1)
    (kk : Go x (pc + 3) ls (.ref (gB x.1 + n) :: st) (n + 1, z + q.2.2, va_up S n (0, c + 1), va_up I n (fun _ => 0), va_up J n (fun _ => 0), va_up R0 n (fun _ => none))) : Go x pc ls st (n, z, S, I, J, R0) := by
  intro p e R s m args below meth c' H locs ls' k' w X hR hS hl hn hz
  obtain ⟨r1, r2, r3, r4⟩ := cx_room X
  have hn' : n = x.2.2.2.1 + k' := hn.1
  have hz' : z = x.2.2.2.2.1 + w := hz.1
  have hsz : H.size = gB x.1 + n := hR.1
  have hts := X.2.2.2.2.2.1
  have hKn := (cx_rt X).1 c q hq
  refine W.newcK X.1 X.2.1 X.2.2.2.2.1 (hts _ hw1) (hts _ hw2) (hts _ hw3) rfl hd (by omega) (by omega) hKn.2.1 hsz fun H1 kC hkC e1 z1 o1 => ?_
  refine kk p e R s m args below meth c' H1 locs ls' (k' + 1) (w + q.2.2) X (hR.push (by rw [z1, hsz]) (by rw [hsz]; exact o1) (fun a ha => va_up_ne _ _ ha) (fun a ha => va_up_ne _ _ ha) (fun a ha => va_up_ne _ _ ha) ⟨q, hq, (u_born (ktyp c) hts (kf_in hq) hKn hkC e1 (kf_ty hq)).to (fun i hi => ?_)⟩) (vs_push hS (by rw [z1, hsz]) (by rw [hsz]; exact o1)) hl ⟨by show n + 1 = _; omega, by omega⟩ ⟨by show z + _ = _; omega, by omega⟩
  show _ = cval _ _ (va_up I n _) (va_up J n _) (va_up R0 n _) n i
  unfold cval
  simp only [va_up_self]
  have hdf := kf_df hq i hi
  cases hk : ktyp c i <;> first | rfl | exact absurd hk hdf.1 | exact absurd hk hdf.2
theorem go_objInit {x : XT} {pc idx a : Nat} {ls : List (Option Value)} {st : List Value} {h : AH} (hd : decode x.2.1.2.1 pc = .ok (.invokespecial idx, 3)) (hw1 : Cond.methodLink x.2.1.1.cls idx objectInit ∈ ktb) (hw2 : Cond.instanceMethod objectInit ∈ ktb) (hw3 : Cond.code objectInit ⟨#[0xb1]⟩ 1 none ∈ ktb) (hf : 1 ≤ x.2.2.1) (hr : rs st ≤ 8) (kk : Go x (pc + 3) ls st h) : Go x pc ls (.ref a :: st) h := by
  intro p e R s m args below meth c' H locs ls' k' w X hR hS hl hn hz
  obtain ⟨r1, r2, r3, r4⟩ := cx_room X
  have hts := X.2.2.2.2.2.1
  have hr' : (st.map fun v => v.category).sum ≤ 8 := hr
  refine W.objInit X.1 X.2.1 X.2.2.2.2.1 (hts _ hw1) (hts _ hw2) (hts _ hw3) rfl (by rw [X.2.2.2.1]; exact hl.1.1) rfl hd (by omega) (by show 2 * 0 + _ + 12 ≤ _; omega) ?_
  exact kk p e R s m args below meth c' H locs ls' k' w X hR hS hl hn hz
theorem go_max {x : XT} {pc idx : Nat} {a b : Int32} {ls : List (Option Value)} {st : List Value} {h : AH} (hd : decode x.2.1.2.1 pc = .ok (.invokestatic idx, 3)) (hw1 : Cond.methodLink x.2.1.1.cls idx Lib.Math.max.name ∈ ktb) (hw2 : Cond.static Lib.Math.max.name ∈ ktb) (hw3 : Cond.initialized "java/lang/Math" ∈ ktb) (hw4 : Cond.code Lib.Math.max.name Lib.Math.max.code 2 (some .int) ∈ ktb) (hf : 1 ≤ x.2.2.1) (hr : rs st ≤ 8) (kk : Go x (pc + 3) ls (.int (if a < b then b else a) :: st) h) : Go x pc ls (.int b :: .int a :: st) h := by
  intro p e R s m args below meth c' H locs ls' k' w X hR hS hl hn hz
  obtain ⟨r1, r2, r3, r4⟩ := cx_room X
  have hts := X.2.2.2.2.2.1
  have hr' : (st.map fun v => v.category).sum ≤ 8 := hr
  exact va_mmax X.1 X.2.1 (by rw [X.2.2.2.1]; exact hl.1.1.symm) X.2.2.2.2.1 (hts _ hw1) (hts _ hw2) (hts _ hw3) (hts _ hw4) (by omega) (by omega) (Nat.le_trans hn.2 r3) (Nat.le_trans hz.2 r4) hd (kk p e R s m args below meth c' H locs ls' k' w X hR hS hl hn hz)
theorem go_min {x : XT} {pc idx : Nat} {a b : Int32} {ls : List (Option Value)} {st : List Value} {h : AH} (hd : decode x.2.1.2.1 pc = .ok (.invokestatic idx, 3)) (hw1 : Cond.methodLink x.2.1.1.cls idx Lib.Math.min.name ∈ ktb) (hw2 : Cond.static Lib.Math.min.name ∈ ktb) (hw3 : Cond.initialized "java/lang/Math" ∈ ktb) (hw4 : Cond.code Lib.Math.min.name Lib.Math.min.code 2 (some .int) ∈ ktb) (hf : 1 ≤ x.2.2.1) (hr : rs st ≤ 8) (kk : Go x (pc + 3) ls (.int (if b < a then b else a) :: st) h) : Go x pc ls (.int b :: .int a :: st) h := by
  intro p e R s m args below meth c' H locs ls' k' w X hR hS hl hn hz
  obtain ⟨r1, r2, r3, r4⟩ := cx_room X
  have hts := X.2.2.2.2.2.1
  have hr' : (st.map fun v => v.category).sum ≤ 8 := hr
  exact va_mmin X.1 X.2.1 (by rw [X.2.2.2.1]; exact hl.1.1.symm) X.2.2.2.2.1 (hts _ hw1) (hts _ hw2) (hts _ hw3) (hts _ hw4) (by omega) (by omega) (Nat.le_trans hn.2 r3) (Nat.le_trans hz.2 r4) hd (kk p e R s m args below meth c' H locs ls' k' w X hR hS hl hn hz)
/-- arraycopy of int arrays -/
theorem go_copy {x : XT} {pc idx k k0 len len0 : Nat} {sp dp cnt : Int32} {ls : List (Option Value)} {st : List Value} {n z : Nat} {S : Nat → Nat × Nat} {I : Nat → Nat → Int32} {J : Nat → Nat → Int64} {R0 : Nat → Nat → Option Nat} (hd : decode x.2.1.2.1 pc = .ok (.invokestatic idx, 3)) (hw1 : Cond.methodLink x.2.1.1.cls idx arraycopyName ∈ ktb) (hw2 : Cond.native arraycopyName ∈ ktb) (hw3 : Cond.static arraycopyName ∈ ktb) (hw4 : Cond.initialized "java/lang/System" ∈ ktb)
    (hs : S k = (1, len)) (hs0 : S k0 = (1, len0)) (h1 : ¬ sp < 0) (h2 : ¬ dp < 0) (h3 : ¬ cnt < 0) (h4 : sp.toNatClampNeg + cnt.toNatClampNeg ≤ len0) (h5 : dp.toNatClampNeg + cnt.toNatClampNeg ≤ len) (hf : 1 ≤ x.2.2.1) (hr : rs st ≤ 8)
    (kk : Go x (pc + 3) ls st (n, z, S, va_up I k (va_cpy (I k0) (I k) sp.toNatClampNeg dp.toNatClampNeg cnt.toNatClampNeg), J, R0)) : Go x pc ls (.int cnt :: .int dp :: .ref (gB x.1 + k) :: .int sp :: .ref (gB x.1 + k0) :: st) (n, z, S, I, J, R0) := by
  intro p e R s m args below meth c' H locs ls' k' w X hR hS hl hn hz
  obtain ⟨r1, r2, r3, r4⟩ := cx_room X
  have hts := X.2.2.2.2.2.1
  have hr' : (st.map fun v => v.category).sum ≤ 8 := hr
  obtain ⟨ht, hc1⟩ := hR.arr (h := (n, z, S, I, J, R0)) (t := 0) hs
  obtain ⟨-, hc0⟩ := hR.arr (h := (n, z, S, I, J, R0)) (t := 0) hs0
  have hA := ((cx_rt X).2.1 0 ht)
  rw [kak_0] at hA hc1 hc0
  have hP : va_P ((fun _ => 0), (fun _ _ => 0)) [] [(gB x.1 + k0, .inl (gA x.1 0, len0, .inl (I k0))), (gB x.1 + k, .inl (gA x.1 0, len, .inl (I k)))] H := by
    intro i q hq
    match i, hq with
    | 0, hq => cases hq; exact hc0
    | 1, hq => cases hq; exact hc1
    | i + 2, hq => simp at hq
  intro T hT Y
  have nn : ∀ y : Int32, ¬ y < 0 → y.toInt = (y.toNatClampNeg : Int) := by
    intro y hy
    have hy0 : (0 : Int) ≤ y.toInt := by
      have := Int32.not_lt.mp hy
      simpa using Int32.le_iff_toInt_le.mp this
    show y.toInt = ((y.toInt.toNat : Nat) : Int)
    omega
  have hc0 : H[gB x.1 + k0]? = some (vp_cell (gA x.1 0) (len0, .inl (I k0))) := hc0
  have hc1 : H[gB x.1 + k]? = some (vp_cell (gA x.1 0) (len, .inl (I k))) := hc1
  obtain ⟨-, q0, hq0, cm0, hkk0⟩ := hA.1 len0 (fun j => .int (I k0 j))
  obtain ⟨-, q1, hq1, cm1, hkk1⟩ := hA.1 len (fun j => .int (I k j))
  obtain ⟨vm', X', step⟩ := Y.arraycopy X.1 X.2.2.2.2.1 (hts _ hw1) (hts _ hw2) (hts _ hw3) (hts _ hw4) (src := gB x.1 + k0) (dst := gB x.1 + k) (cs := vp_cell (gA x.1 0) (len0, .inl (I k0))) (cd := vp_cell (gA x.1 0) (len, .inl (I k))) (srcPos := sp) (destPos := dp) (n := cnt) (by rw [hT]; exact hc0) (by rw [hT]; exact hc1)
    (fun _ h => by cases h) (fun _ h => by cases h) (fun h => by cases h) (fun h => by cases h) hq0 hq1 hkk0 hkk1 (by simp [refKind]) h1 h2 h3
    (by rw [nn sp h1, nn cnt h3]; show ¬ _ > ((arrV (gA x.1 0) len0 (fun j => .int (I k0 j))).slots.size : Int); rw [arrV_size]; omega)
    (by rw [nn dp h2, nn cnt h3]; show ¬ _ > ((arrV (gA x.1 0) len (fun j => .int (I k j))).slots.size : Int); rw [arrV_size]; omega)
    (fun vm₁ _ i hi => by
      have e : (vp_cell (gA x.1 0) (len0, .inl (I k0))).slots.getD (sp.toNatClampNeg + i) .null = .int (I k0 (sp.toNatClampNeg + i)) := by
        show (arrV (gA x.1 0) len0 (fun j => .int (I k0 j))).slots.getD _ _ = _
        rw [Array.getD_eq_getD_getElem?, arrV_read _ _ (by omega)]
        rfl
      refine ⟨?_, ?_⟩
      · rw [e]; rfl
      · rw [e]; exact trivial)
    (g := F0 m pc ls' (.int cnt :: .int dp :: .ref (gB x.1 + k) :: .int sp :: .ref (gB x.1 + k0) :: st)) rfl (by rw [X.2.2.2.1]; exact hl.1.1) (rest := st) rfl (by rw [X.2.1]; exact hd) (by omega) (by
      have e5 : nativeFrameWords "java/lang/System" "arraycopy" 5 + 11 ≤ 32 := by decide +kernel
      show 2 * 0 + _ + _ ≤ _
      omega)
  have e1 : copied (vp_cell (gA x.1 0) (len0, .inl (I k0))) (vp_cell (gA x.1 0) (len, .inl (I k))) sp dp cnt = vp_cell (gA x.1 0) (len, .inl (va_cpy (I k0) (I k) sp.toNatClampNeg dp.toNatClampNeg cnt.toNatClampNeg)) := va_copied (fun z => .int z) (gA x.1 0) (gA x.1 0) (I k0) (I k) h4
  rw [e1] at X' step
  have hlt : gB x.1 + k < H.size := (Array.getElem?_eq_some_iff.mp hc1).1
  have hheap : ((T.setVm vm').setCell (gB x.1 + k) (vp_cell (gA x.1 0) (len, .inl (va_cpy (I k0) (I k) sp.toNatClampNeg dp.toNatClampNeg cnt.toNatClampNeg)))).heap = H.setIfInBounds (gB x.1 + k) (vp_cell (gA x.1 0) (len, .inl (va_cpy (I k0) (I k) sp.toNatClampNeg dp.toNatClampNeg cnt.toNatClampNeg))) := by rw [← hT]; rfl
  have oq : ∀ q : Nat, q ≠ gB x.1 + k → (H.setIfInBounds (gB x.1 + k) (vp_cell (gA x.1 0) (len, .inl (va_cpy (I k0) (I k) sp.toNatClampNeg dp.toNatClampNeg cnt.toNatClampNeg))))[q]? = H[q]? := fun q hq => by simp [Array.getElem?_setIfInBounds, Ne.symm hq]
  obtain ⟨t, a1, b1⟩ := kk p e R s m args below meth c' _ _ ls' k' w X (hR.put (H' := H.setIfInBounds (gB x.1 + k) _) (by simp) oq (fun a ha => va_up_ne _ _ ha) (fun a ha => rfl) (fun a ha => rfl) (by
      rw [hs]
      refine ⟨ht, ?_⟩
      rw [kak_0]
      rw [show (H.setIfInBounds (gB x.1 + k) (vp_cell (gA x.1 0) (len, .inl (va_cpy (I k0) (I k) sp.toNatClampNeg dp.toNatClampNeg cnt.toNatClampNeg))))[gB x.1 + k]? = some (vp_cell (gA x.1 0) (len, .inl (va_cpy (I k0) (I k) sp.toNatClampNeg dp.toNatClampNeg cnt.toNatClampNeg))) by simp [Array.getElem?_setIfInBounds, hlt]]
      show some (arrV (gA x.1 0) len (fun j => Value.int (va_cpy (I k0) (I k) sp.toNatClampNeg dp.toNatClampNeg cnt.toNatClampNeg j))) = _
      congr 2
      funext i
      show _ = Value.int (va_up I k _ k i)
      rw [va_up_self])) ⟨by simp; exact hS.1, fun q g1 g2 => by
      rw [oq q (fun e => g2 (by rw [e]; exact Nat.le_add_right _ _))]
      exact hS.2.1 q g1 g2, fun q hq => by
      rcases List.mem_append.mp hq with h | h
      · exact hS.2.2 q h
      · obtain ⟨y, -, hy⟩ := List.mem_map.mp h
        rw [← hy]
        exact Nat.le_add_right _ _⟩ hl hn hz _ hheap X'
  exact ⟨t, step t a1, b1⟩

/-- how a call goes on -/
theorem go_run {x : XT} {p : Program} {e : Env} {R : Room} {s : State} {m : MethodId} {args : Array Value} {below : List Frame} {meth : Method} {c' : Code} {H : Heap} {locs : List Loc} {ls' : Array Slot} {k' w pc mc ms : Nat} {ls : List (Option Value)} {st rest : List Value} {h : AH} {a : Array Value} {Q : Option Value → AH → Prop}
    (X : CX x p R s m args meth c') (hR : RH x.1 h H) (hS : va_S (fun q => gB x.1 ≤ q) s.heap H locs) (hl : LV ls' x.2.1.2.2.1 ls) (hn : h.1 = x.2.2.2.1 + k' ∧ k' ≤ x.2.2.2.2.2.1) (hz : h.2.1 = x.2.2.2.2.1 + w ∧ w ≤ x.2.2.2.2.2.2.1)
    (hr : va_Run p (gL x.1) e R s m args below meth c' H locs k' w mc ms (F0 m pc ls' st) rest (XQ x.1 (h.1 + mc) (h.2.1 + ms) Q a) (fun q => gB x.1 ≤ q)) (hc : h.1 + mc ≤ x.2.2.2.1 + x.2.2.2.2.2.1) (hs : h.2.1 + ms ≤ x.2.2.2.2.1 + x.2.2.2.2.2.2.1)
    (kk : ∀ (r : Option Value) (h' : AH), Q r h' → h'.1 = h.1 + mc → h'.2.1 = h.2.1 + ms → Go x (pc + 3) ls (r.toList ++ rest) h') :
    W p (gL x.1) e R s m args below meth c' H locs k' w (MQ below (XQ x.1 (x.2.2.2.1 + x.2.2.2.2.2.1) (x.2.2.2.2.1 + x.2.2.2.2.2.2.1) x.2.2.2.2.2.2.2) args s x.2.2.2.2.2.1 x.2.2.2.2.2.2.1 (fun q => gB x.1 ≤ q)) (F0 m pc ls' st) := by
  intro T hT Y
  obtain ⟨v, st₀, t, T', L, h0, X', hL, e1, e2, ⟨⟨r, h', ho, hQ, en, ez, hR'⟩, hz1, hk⟩, stp⟩ := hr T hT Y
  cases ho
  rw [h0] at hz1 hk
  have hS' : va_S (fun q => gB x.1 ≤ q) s.heap T'.heap (locs ++ L) := ⟨Nat.le_trans hS.1 (by rw [e1]; exact hz1), fun q h1 h2 => by rw [e1, hk q (Nat.lt_of_lt_of_le h1 hS.1) h2]; exact hS.2.1 q h1 h2, fun q hq => by
      rcases List.mem_append.mp hq with h | h
      · exact hS.2.2 q h
      · exact hL q h⟩
  obtain ⟨t2, a1, b1⟩ := kk v h' hQ en ez p e R s m args below meth c' T'.heap (locs ++ L) ls' (k' + mc) (w + ms) X (by rw [e1]; exact hR') hS' hl ⟨by omega, by omega⟩ ⟨by omega, by omega⟩ T' rfl X'
  exact ⟨t2, stp t2 a1, b1⟩
theorem cn_blind {g : GT} {as : List Value} {h : AH} : FrameBlind (va_Pc as (fun U => RT g U ∧ RH g h U.heap ∧ va_X (gS g) (gN g) (gX g) U U.heap)) :=
  fun a U f mk q => ⟨q.1, RT.same (s := U) (U := U.calling f mk a) rfl q.2.1, q.2.2.1, va_X.moved (u := U) (U := U.calling f mk a) (Vm.Alike.refl U.vm) q.2.2.2⟩
theorem cn_pre {x : XT} {p : Program} {R : Room} {s : State} {m : MethodId} {args : Array Value} {meth : Method} {c' : Code} {H : Heap} {locs : List Loc} {h : AH} {as : List Value} (X : CX x p R s m args meth c') (hR : RH x.1 h H) (hS : va_S (fun q => gB x.1 ≤ q) s.heap H locs) (U : State) (hU : U.heap = H) (hW : s.WarmedH U.vm) :
    va_Pc as (fun U => RT x.1 U ∧ RH x.1 h U.heap ∧ va_X (gS x.1) (gN x.1) (gX x.1) U U.heap) as.toArray U := by
  have hb := hR.2.2.2
  have hbs := cx_base X
  refine ⟨rfl, (cx_rt X).moved hW, by rw [hU]; exact hR, ?_⟩
  have h1 : va_X (gS x.1) (gN x.1) (gX x.1) s U.heap := (cx_scr X).kept (by rw [hU]; exact hS.2.1 _ (by omega) (by show ¬ gB x.1 ≤ gS x.1; omega))
  exact va_X.moved hW.alike h1
/-- what a call's words must be -/
def cwd (own : String) (idx : Nat) (mi : MI) (nA : Nat) : Prop :=
  Cond.initialized mi.1.cls ∈ ktb ∧ (mi.1.cls ≠ "java/lang/invoke/MethodHandle" ∧ mi.1.cls ≠ "java/lang/invoke/VarHandle") ∧ (parseMethodDescriptor mi.1.desc).map (fun d => d.parameters.length) = some nA ∧ mi.2.2.1 ≤ 21
theorem cwd_B {x : XT} {p : Program} {R : Room} {s : State} {m : MethodId} {args : Array Value} {meth : Method} {c' : Code} {idx nA d mc ms : Nat} {mi : MI} (X : CX x p R s m args meth c') (w1 : Cond.code mi.1 mi.2.1 mi.2.2.1 mi.2.2.2 ∈ ktb) (hw : cwd x.2.1.1.cls idx mi nA) (hl : Cond.methodLink x.2.1.1.cls idx mi.1 ∈ ktb) (hdd : d < x.2.2.1) :
    CallB R s args x.2.1.1.cls idx mi.1 mi.2.1 mi.2.2.1 mi.2.2.2 (Cond.code mi.1 mi.2.1 mi.2.2.1 mi.2.2.2 :: ktb) { frames := d, cells := mc, slots := ms, locals := 40 * d } mc ms nA := by
  obtain ⟨w2, w3, w4, w5⟩ := hw
  obtain ⟨r1, r2, r3, r4⟩ := cx_room X
  have hts := X.2.2.2.2.2.1
  refine ⟨rfl, rfl, by show d + 1 ≤ _; omega, by show 8 + (_ + 11) + 40 * d ≤ _; omega, ?_, List.mem_cons_self, hts _ w1, hts _ w2, w3, fun sig h => ?_, hts _ hl⟩
  · refine pay_in (big := ktb) hts (fun w h => ?_)
    rcases List.mem_cons.mp h with rfl | h
    · exact ⟨w1, kgood _ w1⟩
    · exact ⟨h, kgood _ h⟩
  · rw [h] at w4
    exact (Option.some.inj w4).symm
theorem go_callV {x : XT} {pc idx nA d mc ms c k : Nat} {mi : MI} {q : vw_C} {as rest : List Value} {ls : List (Option Value)} {h : AH} {Q : Option Value → AH → Prop} (hd : decode x.2.1.2.1 pc = .ok (.invokevirtual idx, 3)) (hw : cwd x.2.1.1.cls idx mi nA) (hl0 : Cond.methodLink x.2.1.1.cls idx mi.1 ∈ ktb) (hi : Cond.instanceMethod mi.1 ∈ ktb) (hse : Cond.selects mi.1.cls mi.1 mi.1 ∈ ktb) (hq : kcl[c]? = some q) (hqn : q.1 = mi.1.cls) (hk : h.2.2.1 k = (0, c + 1)) (hA : as.length = nA)
    (hM : Cn x.1 mi d mc ms (.ref (gB x.1 + k) :: as) h Q) (hdd : d < x.2.2.1) (hc : h.1 + mc ≤ x.2.2.2.1 + x.2.2.2.2.2.1) (hs : h.2.1 + ms ≤ x.2.2.2.2.1 + x.2.2.2.2.2.2.1) (hr : rs rest ≤ 8)
    (kk : ∀ (r : Option Value) (h' : AH), Q r h' → h'.1 = h.1 + mc → h'.2.1 = h.2.1 + ms → Go x (pc + 3) ls (r.toList ++ rest) h') : Go x pc ls (as.reverse ++ .ref (gB x.1 + k) :: rest) h := by
  intro p e R s m args below meth c' H locs ls' k' w X hR hS hl hn hz
  obtain ⟨r1, r2, r3, r4⟩ := cx_room X
  have hts := X.2.2.2.2.2.1
  obtain ⟨cell, q1, q2, q3, -⟩ := hR.obj hk hq
  refine go_run X hR hS hl hn hz (va_runV (As := as) (rest := rest) (Ts := ktb) ⟨X.1, X.2.1, X.2.2.2.1, X.2.2.2.2.1, hts⟩ hM.2 ⟨cwd_B X hM.1 hw hl0 hdd, hts _ hi, hts _ hse⟩ ⟨cn_blind, ⟨cell, q1, by rw [q3]; rfl, by rw [q2, ← hqn]; exact ((cx_rt X).1 c q hq).2.1⟩, fun U hU hW => cn_pre X hR hS U hU hW⟩ rfl hA hl.1.1 rfl (lv_room hr) hd ⟨by omega, by omega⟩) hc hs kk
theorem go_callS {x : XT} {pc idx nA d mc ms : Nat} {mi : MI} {as rest : List Value} {ls : List (Option Value)} {h : AH} {Q : Option Value → AH → Prop} (hd : decode x.2.1.2.1 pc = .ok (.invokestatic idx, 3)) (hw : cwd x.2.1.1.cls idx mi nA) (hl0 : Cond.methodLink x.2.1.1.cls idx mi.1 ∈ ktb) (hi : Cond.static mi.1 ∈ ktb) (hA : as.length = nA)
    (hM : Cn x.1 mi d mc ms as h Q) (hdd : d < x.2.2.1) (hc : h.1 + mc ≤ x.2.2.2.1 + x.2.2.2.2.2.1) (hs : h.2.1 + ms ≤ x.2.2.2.2.1 + x.2.2.2.2.2.2.1) (hr : rs rest ≤ 8)
    (kk : ∀ (r : Option Value) (h' : AH), Q r h' → h'.1 = h.1 + mc → h'.2.1 = h.2.1 + ms → Go x (pc + 3) ls (r.toList ++ rest) h') : Go x pc ls (as.reverse ++ rest) h := by
  intro p e R s m args below meth c' H locs ls' k' w X hR hS hl hn hz
  obtain ⟨r1, r2, r3, r4⟩ := cx_room X
  have hts := X.2.2.2.2.2.1
  refine go_run X hR hS hl hn hz (va_runS (As := as) (rest := rest) (Ts := ktb) ⟨X.1, X.2.1, X.2.2.2.1, X.2.2.2.2.1, hts⟩ hM.2 ⟨cwd_B X hM.1 hw hl0 hdd, hts _ hi⟩ ⟨cn_blind, fun U hU hW => cn_pre X hR hS U hU hW⟩ rfl hA hl.1.1 rfl (lv_room hr) hd ⟨by omega, by omega⟩) hc hs kk
theorem go_callI {x : XT} {pc idx nA d mc ms a : Nat} {mi : MI} {as rest : List Value} {ls : List (Option Value)} {h : AH} {Q : Option Value → AH → Prop} (hd : decode x.2.1.2.1 pc = .ok (.invokespecial idx, 3)) (hw : cwd x.2.1.1.cls idx mi nA) (hl0 : Cond.methodLink x.2.1.1.cls idx mi.1 ∈ ktb) (hi : Cond.instanceMethod mi.1 ∈ ktb) (hnm : mi.1.name = "<init>") (hret : mi.2.2.2 = none) (hA : as.length = nA)
    (hM : Cn x.1 mi d mc ms (.ref a :: as) h Q) (hdd : d < x.2.2.1) (hc : h.1 + mc ≤ x.2.2.2.1 + x.2.2.2.2.2.1) (hs : h.2.1 + ms ≤ x.2.2.2.2.1 + x.2.2.2.2.2.2.1) (hr : rs rest ≤ 8)
    (kk : ∀ (r : Option Value) (h' : AH), Q r h' → h'.1 = h.1 + mc → h'.2.1 = h.2.1 + ms → Go x (pc + 3) ls (r.toList ++ rest) h') : Go x pc ls (as.reverse ++ .ref a :: rest) h := by
  intro p e R s m args below meth c' H locs ls' k' w X hR hS hl hn hz
  obtain ⟨r1, r2, r3, r4⟩ := cx_room X
  have hts := X.2.2.2.2.2.1
  have hB := cwd_B (mc := mc) (ms := ms) X hM.1 hw hl0 hdd
  have hM' := hM.2
  rw [hret] at hM' hB
  refine go_run X hR hS hl hn hz (va_runI (As := as) (rest := rest) (Ts := ktb) ⟨X.1, X.2.1, X.2.2.2.1, X.2.2.2.2.1, hts⟩ hM' ⟨hB, hnm, hts _ hi⟩ ⟨cn_blind, fun U hU hW => cn_pre X hR hS U hU hW⟩ rfl hA hl.1.1 rfl (lv_room hr) hd ⟨by omega, by omega⟩) hc hs kk
theorem go_callIN {x : XT} {pc idx nA d mc ms a : Nat} {host : String} {mi : MI} {as rest : List Value} {ls : List (Option Value)} {h : AH} {Q : Option Value → AH → Prop} (hd : decode x.2.1.2.1 pc = .ok (.invokespecial idx, 3)) (hw : cwd x.2.1.1.cls idx mi nA) (hl0 : Cond.methodLinkNest x.2.1.1.cls idx mi.1 host ∈ knst) (hi : Cond.instanceMethod mi.1 ∈ ktb) (hnm : mi.1.name = "<init>") (hret : mi.2.2.2 = none) (hA : as.length = nA)
    (hM : Cn x.1 mi d mc ms (.ref a :: as) h Q) (hdd : d < x.2.2.1) (hc : h.1 + mc ≤ x.2.2.2.1 + x.2.2.2.2.2.1) (hs : h.2.1 + ms ≤ x.2.2.2.2.1 + x.2.2.2.2.2.2.1) (hr : rs rest ≤ 8)
    (kk : ∀ (r : Option Value) (h' : AH), Q r h' → h'.1 = h.1 + mc → h'.2.1 = h.2.1 + ms → Go x (pc + 3) ls (r.toList ++ rest) h') : Go x pc ls (as.reverse ++ .ref a :: rest) h := by
  intro p e R s m args below meth c' H locs ls' k' w X hR hS hl hn hz
  obtain ⟨r1, r2, r3, r4⟩ := cx_room X
  have hts := X.2.2.2.2.2.1
  have hM' := hM.2
  rw [hret] at hM'
  obtain ⟨w2, w3, w4, w5⟩ := hw
  have w1 := hM.1
  rw [hret] at w1
  have hG : GoodIn ktb (Cond.code mi.1 mi.2.1 mi.2.2.1 none :: ktb) := fun w h => by
    rcases List.mem_cons.mp h with rfl | h
    · exact ⟨w1, kgood _ w1⟩
    · exact ⟨h, kgood _ h⟩
  refine go_run X hR hS hl hn hz (va_runIN (As := as) (rest := rest) (Ts := ktb) (host := host) ⟨X.1, X.2.1, X.2.2.2.1, X.2.2.2.2.1, hts⟩ hM' ⟨va_cnB nA hts hG rfl rfl rfl ((cx_rt X).2.2.1 _ hl0) (hts _ w2) ⟨w3.1, w3.2, w4⟩ ⟨by show d + 1 ≤ _; omega, by show 8 + (_ + 11) + 40 * d ≤ _; omega⟩, hnm, hts _ hi⟩ ⟨cn_blind, fun U hU hW => cn_pre X hR hS U hU hW⟩ rfl hA hl.1.1 rfl (lv_room hr) hd ⟨by omega, by omega⟩) hc hs kk
/-! ends -/
theorem go_iret {x : XT} {pc : Nat} {v : Int32} {rt : FieldType} {ls : List (Option Value)} {h : AH} (hd : decode x.2.1.2.1 pc = .ok (.ireturn, 1)) (hrt : x.2.1.2.2.2 = some rt) (hna : narrow rt (.int v) = .int v) (he : e_end x (some (.int v)) h) : Go x pc ls [.int v] h := by
  intro p e R s m args below meth c' H locs ls' k' w X hR hS hl hn hz
  obtain ⟨e1, e2, hQ⟩ := he
  have hk : k' = x.2.2.2.2.2.1 := by have := hn.1; omega
  have hw : w = x.2.2.2.2.2.2.1 := by have := hz.1; omega
  rw [← hk] at e1 ⊢
  rw [← hw] at e2 ⊢
  exact W.zret (hlocks := cx_locks X) X.1 X.2.1 (X.2.2.1.trans hrt) hna (fun t ht hW => ⟨⟨_, h, rfl, hQ, e1, e2, by rw [ht]; exact hR⟩, hS.F ht⟩) hS.2.2 hd
theorem go_lret {x : XT} {pc : Nat} {v : Int64} {ls : List (Option Value)} {h : AH} (hd : decode x.2.1.2.1 pc = .ok (.lreturn, 1)) (hrt : x.2.1.2.2.2 = some .long) (he : e_end x (some (.long v)) h) : Go x pc ls [.long v] h := by
  intro p e R s m args below meth c' H locs ls' k' w X hR hS hl hn hz
  obtain ⟨e1, e2, hQ⟩ := he
  have hk : k' = x.2.2.2.2.2.1 := by have := hn.1; omega
  have hw : w = x.2.2.2.2.2.2.1 := by have := hz.1; omega
  rw [← hk] at e1 ⊢
  rw [← hw] at e2 ⊢
  exact W.lret (hlocks := cx_locks X) X.1 X.2.1 (X.2.2.1.trans hrt) (fun t ht hW => ⟨⟨_, h, rfl, hQ, e1, e2, by rw [ht]; exact hR⟩, hS.F ht⟩) hS.2.2 hd
theorem go_vret {x : XT} {pc : Nat} {ls : List (Option Value)} {h : AH} (hd : decode x.2.1.2.1 pc = .ok (.return_, 1)) (hrt : x.2.1.2.2.2 = none) (he : e_end x none h) : Go x pc ls [] h := by
  intro p e R s m args below meth c' H locs ls' k' w X hR hS hl hn hz
  obtain ⟨e1, e2, hQ⟩ := he
  have hk : k' = x.2.2.2.2.2.1 := by have := hn.1; omega
  have hw : w = x.2.2.2.2.2.2.1 := by have := hz.1; omega
  rw [← hk] at e1 ⊢
  rw [← hw] at e2 ⊢
  exact W.vret (hlocks := cx_locks X) X.1 X.2.1 (X.2.2.1.trans hrt) (fun t ht hW => ⟨⟨_, h, rfl, hQ, e1, e2, by rw [ht]; exact hR⟩, hS.F ht⟩) hS.2.2 hd
/-- a contract, out of the walk from the method's first instruction -/
theorem cn_of {g : GT} {mi : MI} {d mc ms : Nat} {as : List Value} {h : AH} {Q : Option Value → AH → Prop} (hco : Cond.code mi.1 mi.2.1 mi.2.2.1 mi.2.2.2 ∈ ktb) (hpl : plainName mi.1.cls = true) (hle : (ent as).length ≤ mi.2.2.1) (kk : Go (g, mi, d, h.1, h.2.1, mc, ms, Q) 0 (entN as mi.2.2.1) [] h) : Cn g mi d mc ms as h Q := by
  refine ⟨hco, Met.ofW (cc := mi.2.1) (maxL := mi.2.2.1) (ret := mi.2.2.2) hpl rfl ?_⟩
  intro p e s m args below meth c s₁ B hml hv
  obtain ⟨rfl, hT, hR, hX⟩ := hv
  have hts := atoms_spec (ws := Cond.code mi.1 mi.2.1 mi.2.2.1 mi.2.2.2 :: ktb) B.pre
  have hown : s.vm.findClass mi.1.cls = some m.cls := findClass_of_methodNamed B.named
  rw [lg_entry_eq]
  have hbase : gB g ≤ s.heap.size := by rw [hR.1]; exact Nat.le_add_right _ _
  refine kk p e _ s m as.toArray below meth c s.heap [] _ 0 0 ⟨B.exec, B.bytes, B.returns, hml, hown, fun w hw => hts w (List.mem_cons_of_mem _ hw), B.notSynchronized, (name_of_methodNamed B.named B.method).1, Nat.le_refl _, Nat.le_refl _, Nat.le_refl _, Nat.le_refl _, hT, hX, hbase⟩ hR va_S.rf (LV.entry hle) ⟨rfl, Nat.zero_le _⟩ ⟨rfl, Nat.zero_le _⟩
end
section
/-! what is decided of a stretch of code: its instructions, their operands, their words -/
def inT (ps : List Nat) (i : Nat) (w : Cond) : Bool := decide (lw_tbl[ps.getD i 9999]? = some w) && goodWord w
theorem inT_ok {ps : List Nat} {i : Nat} {w : Cond} (h : inT ps i w = true) : w ∈ ktb := by
  simp only [inT, Bool.and_eq_true, decide_eq_true_eq] at h
  exact List.mem_filter.mpr ⟨List.mem_of_getElem? h.1, h.2⟩
def okF (ps : List Nat) (own : String) (idx c j co : Nat) : Bool := match kcl[c]? with
  | some q => decide (j < q.2.2) && decide (co = fco (ktyp c j)) && inT ps 0 (.fieldLink own idx (q.2.1 j).1 (q.2.1 j).2.1 (q.2.1 j).2.2.1)
  | none => false
theorem okF_ok {ps : List Nat} {own : String} {idx c j co : Nat} (h : okF ps own idx c j co = true) : ∃ q, kcl[c]? = some q ∧ j < q.2.2 ∧ co = fco (ktyp c j) ∧ Cond.fieldLink own idx (q.2.1 j).1 (q.2.1 j).2.1 (q.2.1 j).2.2.1 ∈ ktb := by
  unfold okF at h
  cases hq : kcl[c]? with
  | none => rw [hq] at h; cases h
  | some q =>
    rw [hq] at h
    simp only [Bool.and_eq_true, decide_eq_true_eq] at h
    exact ⟨q, rfl, h.1.1, h.1.2, inT_ok h.2⟩
def okP (mi : MI) (c j : Nat) : Bool := match kcl[c]? with
  | some q => (decide ((q.2.1 j).2.2.2 = false) || (decide (mi.1.name = "<init>") && decide ((q.2.1 j).1 = mi.1.cls))) && (match ktyp c j with | .int => true | .long => true | .object _ => true | .array _ => true | _ => false)
  | none => false
theorem okP_ok {mi : MI} {c j : Nat} {q : vw_C} (hq : kcl[c]? = some q) (h : okP mi c j = true) : ((q.2.1 j).2.2.2 = false ∨ (mi.1.name = "<init>" ∧ (q.2.1 j).1 = mi.1.cls)) ∧ (ktyp c j = .int ∨ ktyp c j = .long ∨ (∃ C, ktyp c j = .object C) ∨ ∃ t, ktyp c j = .array t) := by
  unfold okP at h
  rw [hq] at h
  simp only [Bool.and_eq_true, Bool.or_eq_true, decide_eq_true_eq] at h
  refine ⟨h.1, ?_⟩
  have h2 := h.2
  cases hk : ktyp c j <;> rw [hk] at h2 <;> first | exact Or.inl rfl | exact Or.inr (Or.inl rfl) | exact Or.inr (Or.inr (Or.inl ⟨_, rfl⟩)) | exact Or.inr (Or.inr (Or.inr ⟨_, rfl⟩)) | cases h2
def okC (ps : List Nat) (mi : MI) (nA : Nat) : Bool := inT ps 0 (.initialized mi.1.cls) && decide (mi.1.cls ≠ "java/lang/invoke/MethodHandle") && decide (mi.1.cls ≠ "java/lang/invoke/VarHandle") && decide ((parseMethodDescriptor mi.1.desc).map (fun d => d.parameters.length) = some nA) && decide (mi.2.2.1 ≤ 21)
theorem okC_ok {ps : List Nat} {own : String} {idx : Nat} {mi : MI} {nA : Nat} (h : okC ps mi nA = true) : cwd own idx mi nA := by
  simp only [okC, Bool.and_eq_true, decide_eq_true_eq] at h
  exact ⟨inT_ok h.1.1.1.1, ⟨h.1.1.1.2, h.1.1.2⟩, h.1.2, h.2⟩
def hosts : List String := knst.filterMap (fun w => match w with | .methodLinkNest _ _ _ h => some h | _ => none)
def okL (mi : MI) (pc : Nat) (i : Instr) (len : Nat) (o : LK) (ps : List Nat) : Bool :=
  match i with
  | .iconst n => decide (len = 1) && decide (Int32.ofInt n = o.2.1)
  | .bipush n => decide (len = 2) && decide ((Int8.ofInt n).toInt32 = o.2.1)
  | .sipush n => decide (len = 3) && decide ((Int16.ofInt n).toInt32 = o.2.1)
  | .ldc i => decide (len = 2) && inT ps 0 (.constant mi.1.cls i o.2.1)
  | .lconst n => decide (len = 1) && decide (Int64.ofNat (n : Nat) = o.2.2.1)
  | .ldc2_w i => decide (len = 3) && inT ps 0 (.constantLong mi.1.cls i o.2.2.1)
  | .iload k => decide (len = 2) && decide (k = o.1.1)
  | .iload_n k => decide (len = 1) && decide ((k : Nat) = o.1.1)
  | .lload k => decide (len = 2) && decide (k = o.1.1)
  | .lload_n k => decide (len = 1) && decide ((k : Nat) = o.1.1)
  | .aload k => decide (len = 2) && decide (k = o.1.1)
  | .aload_n k => decide (len = 1) && decide ((k : Nat) = o.1.1)
  | .istore k => decide (len = 2) && decide (k = o.1.1) && decide (o.1.1 < mi.2.2.1)
  | .istore_n k => decide (len = 1) && decide ((k : Nat) = o.1.1) && decide (o.1.1 < mi.2.2.1)
  | .astore k => decide (len = 2) && decide (k = o.1.1) && decide (o.1.1 < mi.2.2.1)
  | .astore_n k => decide (len = 1) && decide ((k : Nat) = o.1.1) && decide (o.1.1 < mi.2.2.1)
  | .lstore k => decide (len = 2) && decide (k = o.1.1) && decide (o.1.1 + 1 < mi.2.2.1)
  | .lstore_n k => decide (len = 1) && decide ((k : Nat) = o.1.1) && decide (o.1.1 + 1 < mi.2.2.1)
  | .iinc k n => decide (len = 3) && decide (k = o.1.1) && decide (Int32.ofInt n = o.2.1) && decide (o.1.1 < mi.2.2.1)
  | .iadd => decide (len = 1)
  | .isub => decide (len = 1)
  | .imul => decide (len = 1)
  | .iand => decide (len = 1)
  | .idiv => decide (len = 1)
  | .irem => decide (len = 1)
  | .ineg => decide (len = 1)
  | .ladd => decide (len = 1)
  | .lsub => decide (len = 1)
  | .lmul => decide (len = 1)
  | .land => decide (len = 1)
  | .ldiv => decide (len = 1)
  | .lrem => decide (len = 1)
  | .i2l => decide (len = 1)
  | .l2i => decide (len = 1)
  | .dup => decide (len = 1)
  | .pop => decide (len = 1)
  | .dup2 => decide (len = 1)
  | .dup_x1 => decide (len = 1)
  | .dup_x2 => decide (len = 1)
  | .aconst_null => decide (len = 1)
  | .iaload => decide (len = 1)
  | .iastore => decide (len = 1)
  | .baload => decide (len = 1)
  | .bastore => decide (len = 1)
  | .ireturn => decide (len = 1)
  | .lreturn => decide (len = 1)
  | .return_ => decide (len = 1)
  | .arraylength => decide (len = 1)
  | .goto off => decide (len = 3) && decide ((pc : Int) + off = (o.1.1 : Int))
  | .ifCond _ off => decide (len = 3) && decide ((pc : Int) + off = (o.1.1 : Int))
  | .if_icmp _ off => decide (len = 3) && decide ((pc : Int) + off = (o.1.1 : Int))
  | .ifnull off => decide (len = 3) && decide ((pc : Int) + off = (o.1.1 : Int))
  | .ifnonnull off => decide (len = 3) && decide ((pc : Int) + off = (o.1.1 : Int))
  | .getfield i => decide (len = 3) && okF ps mi.1.cls i o.1.1 o.1.2.1 o.1.2.2
  | .putfield i => decide (len = 3) && okF ps mi.1.cls i o.1.1 o.1.2.1 o.1.2.2 && okP mi o.1.1 o.1.2.1
  | .aaload => decide (len = 1) && (kak o.1.1).isReference
  | .aastore => decide (len = 1) && (match kcl[o.1.2.1]? with | some q => decide (kak o.1.1 = .object q.1) | none => false)
  | .newarray t => decide (len = 2) && decide (newarray.typeOf t = kak o.1.1) && inT ps 0 (.arrayClass (kak o.1.1)) && decide (o.1.1 < kna) && (decide (kak o.1.1 = .int) || decide (kak o.1.1 = .boolean))
  | .anewarray i => decide (len = 3) && decide (o.1.1 < kna) && (match kak o.1.1 with | .object C => inT ps 0 (.classLink mi.1.cls i C) && decide (C ∈ kao) | _ => false)
  | .new i => decide (len = 3) && (match kcl[o.1.1]? with | some q => inT ps 0 (.classLink mi.1.cls i q.1) && inT ps 1 (.instantiable q.1 q.2.2) && inT ps 2 (.initialized q.1) && decide (o.1.2.1 = q.2.2) | none => false)
  | .invokestatic i => decide (len = 3) && (match o.1.2.2 with
    | 0 => okC ps o.2.2.2.1 o.1.1 && inT ps 1 (.methodLink mi.1.cls i o.2.2.2.1.1) && inT ps 2 (.static o.2.2.2.1.1)
    | 1 => inT ps 0 (.methodLink mi.1.cls i Lib.Math.max.name) && inT ps 1 (.static Lib.Math.max.name) && inT ps 2 (.initialized "java/lang/Math")
    | 2 => inT ps 0 (.methodLink mi.1.cls i Lib.Math.min.name) && inT ps 1 (.static Lib.Math.min.name) && inT ps 2 (.initialized "java/lang/Math")
    | 3 => inT ps 0 (.methodLink mi.1.cls i arraycopyName) && inT ps 1 (.native arraycopyName) && inT ps 2 (.static arraycopyName) && inT ps 3 (.initialized "java/lang/System")
    | _ => false)
  | .invokevirtual i => decide (len = 3) && decide (0 < o.1.1) && okC ps o.2.2.2.1 (o.1.1 - 1) && inT ps 1 (.methodLink mi.1.cls i o.2.2.2.1.1) && inT ps 2 (.instanceMethod o.2.2.2.1.1) && inT ps 3 (.selects o.2.2.2.1.1.cls o.2.2.2.1.1 o.2.2.2.1.1) && (match kcl[o.1.2.1]? with | some q => decide (q.1 = o.2.2.2.1.1.cls) | none => false)
  | .invokespecial i => decide (len = 3) && (match o.1.2.2 with
    | 0 => decide (0 < o.1.1) && okC ps o.2.2.2.1 (o.1.1 - 1) && (inT ps 1 (.methodLink mi.1.cls i o.2.2.2.1.1) || hosts.any (fun h => decide (Cond.methodLinkNest mi.1.cls i o.2.2.2.1.1 h ∈ knst))) && inT ps 2 (.instanceMethod o.2.2.2.1.1) && decide (o.2.2.2.1.1.name = "<init>") && decide (o.2.2.2.1.2.2.2 = none)
    | 1 => inT ps 0 (.methodLink mi.1.cls i objectInit) && inT ps 1 (.instanceMethod objectInit)
    | _ => false)
  | .tableswitch dflt lo hi offs => decide ((pc : Int) + dflt = (o.1.1 : Int)) && o.2.2.2.2.all (fun q => decide (lo ≤ q.1.toInt) && decide (q.1.toInt ≤ hi) && (match offs[(q.1.toInt - lo).toNat]? with | some f => decide ((pc : Int) + f = (q.2 : Int)) | none => false)) && (List.range (hi - lo + 1).toNat).all (fun i => o.2.2.2.2.any (fun q => decide (q.1.toInt = lo + (i : Int))))
  | .lookupswitch dflt ps => decide ((pc : Int) + dflt = (o.1.1 : Int)) && (ps.toList.zip (ps.toList.drop 1)).all (fun (a, next) => a.1 < next.1) && o.2.2.2.2.all (fun q => decide ((pc : Int) + Op.lookupswitch.offset ps.toList dflt q.1.toInt = (q.2 : Int))) && ps.toList.all (fun r => o.2.2.2.2.any (fun q => decide (q.1.toInt = r.1)))
  | _ => false
def okI (mi : MI) (pc : Nat) (q : IT) : Bool := decide (decode mi.2.1 pc = .ok (q.1, q.2.1)) && okL mi pc q.1 q.2.1 q.2.2.1 q.2.2.2
def okB (mi : MI) : Nat → List IT → Nat → Bool
  | pc, [], pe => decide (pc = pe)
  | pc, q :: t, pe => okI mi pc q && okB mi (pc + q.2.1) t pe
theorem st_split {st : List Value} {nA : Nat} {v : Value} {r : List Value} (hpos : 0 < nA) (hd : st.drop (nA - 1) = v :: r) : (st.take nA).reverse = v :: (st.take (nA - 1)).reverse ∧ st.drop nA = r ∧ st = (st.take (nA - 1)).reverse.reverse ++ v :: r ∧ ((st.take (nA - 1)).reverse).length = nA - 1 := by
  obtain ⟨m, rfl⟩ : ∃ m, nA = m + 1 := ⟨nA - 1, by omega⟩
  rw [Nat.add_sub_cancel] at hd ⊢
  have hst : st = st.take m ++ v :: r := by rw [← hd, List.take_append_drop]
  have hlen : (st.take m).length = m := by
    have h1 := congrArg List.length hd
    rw [List.length_drop, List.length_cons] at h1
    rw [List.length_take]
    omega
  generalize hl : st.take m = l at hst hlen ⊢
  subst hst
  subst hlen
  refine ⟨?_, ?_, by rw [List.reverse_reverse], by rw [List.length_reverse]⟩
  · rw [List.take_append, Nat.add_sub_cancel_left, List.take_of_length_le (by omega)]
    simp
  · rw [List.drop_append, Nat.add_sub_cancel_left, List.drop_of_length_le (by omega)]
    simp
theorem go_callV' {x : XT} {pc idx nA d mc ms c : Nat} {mi : MI} {q : vw_C} {st : List Value} {ls : List (Option Value)} {h : AH} {Q : Option Value → AH → Prop} (hd : decode x.2.1.2.1 pc = .ok (.invokevirtual idx, 3)) (hw : cwd x.2.1.1.cls idx mi (nA - 1)) (hl0 : Cond.methodLink x.2.1.1.cls idx mi.1 ∈ ktb) (hi : Cond.instanceMethod mi.1 ∈ ktb) (hse : Cond.selects mi.1.cls mi.1 mi.1 ∈ ktb) (hq : kcl[c]? = some q) (hqn : q.1 = mi.1.cls) (hpos : 0 < nA) (hrec : e_recv x c h.2.2.1 (st.drop (nA - 1)))
    (hM : Cn x.1 mi d mc ms (st.take nA).reverse h Q) (hdd : d < x.2.2.1) (hc : h.1 + mc ≤ x.2.2.2.1 + x.2.2.2.2.2.1) (hs : h.2.1 + ms ≤ x.2.2.2.2.1 + x.2.2.2.2.2.2.1) (hr : rs (st.drop nA) ≤ 8)
    (kk : ∀ (r : Option Value) (h' : AH), Q r h' → h'.1 = h.1 + mc → h'.2.1 = h.2.1 + ms → Go x (pc + 3) ls (r.toList ++ st.drop nA) h') : Go x pc ls st h := by
  cases hdr : st.drop (nA - 1) with
  | nil => rw [hdr] at hrec; exact hrec.elim
  | cons v r =>
    rw [hdr] at hrec
    cases v with
    | ref a =>
      obtain ⟨k, rfl, hk⟩ := hrec
      obtain ⟨e1, e2, e3, e4⟩ := st_split hpos hdr
      rw [e1] at hM
      rw [e2] at hr kk
      rw [e3]
      exact go_callV hd hw hl0 hi hse hq hqn hk e4 hM hdd hc hs hr kk
    | _ => exact hrec.elim
theorem go_callI' {x : XT} {pc idx nA : Nat} {mi : MI} {st : List Value} {ls : List (Option Value)} {h : AH} {F : FT} (hd : decode x.2.1.2.1 pc = .ok (.invokespecial idx, 3)) (hw : cwd x.2.1.1.cls idx mi (nA - 1)) {ps : List Nat} (hl0 : inT ps 1 (.methodLink x.2.1.1.cls idx mi.1) = true ∨ hosts.any (fun h => decide (Cond.methodLinkNest x.2.1.1.cls idx mi.1 h ∈ knst)) = true) (hi : Cond.instanceMethod mi.1 ∈ ktb) (hnm : mi.1.name = "<init>") (hret : mi.2.2.2 = none) (hpos : 0 < nA)
    (hw1 : match st.drop (nA - 1) with
      | .ref _ :: _ => e_call x mi nA F ls st h
      | _ => False) (hF : ∀ ls st h, F ls st h → Go x (pc + 3) ls st h) : Go x pc ls st h := by
  cases hdr : st.drop (nA - 1) with
  | nil => rw [hdr] at hw1; exact hw1.elim
  | cons v r =>
    rw [hdr] at hw1
    cases v with
    | ref a =>
      obtain ⟨d, mc, ms, Q, hle, hM, hdd, hc, hs, hr, kk⟩ := hw1
      obtain ⟨e1, e2, e3, e4⟩ := st_split hpos hdr
      rw [e1] at hM
      rw [e2] at hr kk
      rw [e3]
      rcases hl0 with hl0 | hl0
      · exact go_callI hd hw (inT_ok hl0) hi hnm hret e4 hM hdd hc hs hr (fun r h' a b c => hF _ _ _ (kk r h' a b c))
      · obtain ⟨host, -, hh⟩ := List.any_eq_true.mp hl0
        exact go_callIN hd hw (of_decide_eq_true hh) hi hnm hret e4 hM hdd hc hs hr (fun r h' a b c => hF _ _ _ (kk r h' a b c))
    | _ => exact hw1.elim
theorem e_sw_mono {f f' : Nat → Prop} {v : Int32} {d : Nat} (hm : ∀ t, f t → f' t) : ∀ (cs : List (Int32 × Nat)), e_sw cs d v f → e_sw cs d v f'
  | [], h => hm _ h
  | _ :: r, h => ⟨fun e => hm _ (h.1 e), fun e => e_sw_mono hm r (h.2 e)⟩
set_option maxHeartbeats 4000000 in
theorem wp1_ok {x : XT} {i : Instr} {o : LK} {ps : List Nat} {F : FT} {K : KT} {pc len : Nat} {ls : List (Option Value)} {st : List Value} {h : AH} (hd : decode x.2.1.2.1 pc = .ok (i, len)) (hok : okL x.2.1 pc i len o ps = true) (hF : ∀ ls st h, F ls st h → Go x (pc + len) ls st h) (hK : ∀ t ls st h, K t ls st h → Go x t ls st h) (hw : wp1 x i o F K ls st h) : Go x pc ls st h := by
  cases i with
  | iconst n =>
    simp only [okL, Bool.and_eq_true, decide_eq_true_eq] at hok
    obtain ⟨rfl, hv⟩ := hok
    exact go_iconst hd hv (hF _ _ _ hw)
  | bipush n =>
    simp only [okL, Bool.and_eq_true, decide_eq_true_eq] at hok
    obtain ⟨rfl, hv⟩ := hok
    exact go_bipush hd hv (hF _ _ _ hw)
  | sipush n =>
    simp only [okL, Bool.and_eq_true, decide_eq_true_eq] at hok
    obtain ⟨rfl, hv⟩ := hok
    exact go_sipush hd hv (hF _ _ _ hw)
  | lconst n =>
    simp only [okL, Bool.and_eq_true, decide_eq_true_eq] at hok
    obtain ⟨rfl, hv⟩ := hok
    exact go_lconst hd hv (hF _ _ _ hw)
  | ldc n =>
    simp only [okL, Bool.and_eq_true, decide_eq_true_eq] at hok
    obtain ⟨rfl, hv⟩ := hok
    exact go_ldc hd (inT_ok hv) (hF _ _ _ hw)
  | ldc2_w n =>
    simp only [okL, Bool.and_eq_true, decide_eq_true_eq] at hok
    obtain ⟨rfl, hv⟩ := hok
    exact go_ldc2 hd (inT_ok hv) (hF _ _ _ hw)
  | aconst_null =>
    simp only [okL, Bool.and_eq_true, decide_eq_true_eq] at hok
    subst hok
    exact go_null hd (hF _ _ _ hw)
  | iload k =>
    simp only [okL, Bool.and_eq_true, decide_eq_true_eq] at hok
    obtain ⟨rfl, hi⟩ := hok
    subst hi
    have hw' : e_i (lgt ls o.1.1) _ := hw
    cases hg : lgt ls o.1.1 with
    | none => rw [hg] at hw'; exact hw'.elim
    | some v =>
      rw [hg] at hw'
      cases v with
      | int q => exact go_iload hd hg (hF _ _ _ hw')
      | _ => exact hw'.elim
  | iload_n k =>
    simp only [okL, Bool.and_eq_true, decide_eq_true_eq] at hok
    obtain ⟨rfl, hi⟩ := hok
    have hw' : e_i (lgt ls o.1.1) _ := hw
    cases hg : lgt ls o.1.1 with
    | none => rw [hg] at hw'; exact hw'.elim
    | some v =>
      rw [hg] at hw'
      cases v with
      | int q => exact go_iload_n hd hi hg (hF _ _ _ hw')
      | _ => exact hw'.elim
  | lload k =>
    simp only [okL, Bool.and_eq_true, decide_eq_true_eq] at hok
    obtain ⟨rfl, hi⟩ := hok
    subst hi
    have hw' : e_l (lgt ls o.1.1) _ := hw
    cases hg : lgt ls o.1.1 with
    | none => rw [hg] at hw'; exact hw'.elim
    | some v =>
      rw [hg] at hw'
      cases v with
      | long q => exact go_lload hd hg (hF _ _ _ hw')
      | _ => exact hw'.elim
  | lload_n k =>
    simp only [okL, Bool.and_eq_true, decide_eq_true_eq] at hok
    obtain ⟨rfl, hi⟩ := hok
    have hw' : e_l (lgt ls o.1.1) _ := hw
    cases hg : lgt ls o.1.1 with
    | none => rw [hg] at hw'; exact hw'.elim
    | some v =>
      rw [hg] at hw'
      cases v with
      | long q => exact go_lload_n hd hi hg (hF _ _ _ hw')
      | _ => exact hw'.elim
  | aload k =>
    simp only [okL, Bool.and_eq_true, decide_eq_true_eq] at hok
    obtain ⟨rfl, hi⟩ := hok
    subst hi
    have hw' : e_a (lgt ls o.1.1) (fun v => F ls (v :: st) h) := hw
    cases hg : lgt ls o.1.1 with
    | none => rw [hg] at hw'; exact hw'.elim
    | some v =>
      rw [hg] at hw'
      cases v with
      | ref q => exact go_aload hd hg (hF _ _ _ hw')
      | null => exact go_aloadN hd hg (hF _ _ _ hw')
      | _ => exact hw'.elim
  | aload_n k =>
    simp only [okL, Bool.and_eq_true, decide_eq_true_eq] at hok
    obtain ⟨rfl, hi⟩ := hok
    have hw' : e_a (lgt ls o.1.1) (fun v => F ls (v :: st) h) := hw
    cases hg : lgt ls o.1.1 with
    | none => rw [hg] at hw'; exact hw'.elim
    | some v =>
      rw [hg] at hw'
      cases v with
      | ref q => exact go_aload_n hd hi hg (hF _ _ _ hw')
      | null => exact go_aload_nN hd hi hg (hF _ _ _ hw')
      | _ => exact hw'.elim
  | istore k =>
    simp only [okL, Bool.and_eq_true, decide_eq_true_eq] at hok
    obtain ⟨⟨rfl, hi⟩, hi2⟩ := hok
    subst hi
    match st, hw with
    | .int v :: r, hw => exact go_istore hd hi2 (hF _ _ _ hw)
  | istore_n k =>
    simp only [okL, Bool.and_eq_true, decide_eq_true_eq] at hok
    obtain ⟨⟨rfl, hi⟩, hi2⟩ := hok
    match st, hw with
    | .int v :: r, hw => exact go_istore_n hd hi hi2 (hF _ _ _ hw)
  | lstore k =>
    simp only [okL, Bool.and_eq_true, decide_eq_true_eq] at hok
    obtain ⟨⟨rfl, hi⟩, hi2⟩ := hok
    subst hi
    match st, hw with
    | .long v :: r, hw => exact go_lstore hd hi2 (hF _ _ _ hw)
  | lstore_n k =>
    simp only [okL, Bool.and_eq_true, decide_eq_true_eq] at hok
    obtain ⟨⟨rfl, hi⟩, hi2⟩ := hok
    match st, hw with
    | .long v :: r, hw => exact go_lstore_n hd hi hi2 (hF _ _ _ hw)
  | astore k =>
    simp only [okL, Bool.and_eq_true, decide_eq_true_eq] at hok
    obtain ⟨⟨rfl, hi⟩, hi2⟩ := hok
    subst hi
    match st, hw with
    | .ref v :: r, hw => exact go_astore hd hi2 (hF _ _ _ hw)
    | .null :: r, hw => exact go_astoreN hd hi2 (hF _ _ _ hw)
  | astore_n k =>
    simp only [okL, Bool.and_eq_true, decide_eq_true_eq] at hok
    obtain ⟨⟨rfl, hi⟩, hi2⟩ := hok
    match st, hw with
    | .ref v :: r, hw => exact go_astore_n hd hi hi2 (hF _ _ _ hw)
    | .null :: r, hw => exact go_astore_nN hd hi hi2 (hF _ _ _ hw)
  | iinc k n =>
    simp only [okL, Bool.and_eq_true, decide_eq_true_eq] at hok
    obtain ⟨⟨⟨rfl, hi⟩, hv⟩, hi2⟩ := hok
    subst hi
    have hw' : e_i (lgt ls o.1.1) _ := hw
    cases hg : lgt ls o.1.1 with
    | none => rw [hg] at hw'; exact hw'.elim
    | some v =>
      rw [hg] at hw'
      cases v with
      | int q => exact go_iinc hd hg hv hi2 (hF _ _ _ hw')
      | _ => exact hw'.elim
  | iadd =>
    simp only [okL, Bool.and_eq_true, decide_eq_true_eq] at hok
    subst hok
    match st, hw with
    | .int b :: .int a :: r, hw => exact go_iadd hd (hF _ _ _ hw)
  | isub =>
    simp only [okL, Bool.and_eq_true, decide_eq_true_eq] at hok
    subst hok
    match st, hw with
    | .int b :: .int a :: r, hw => exact go_isub hd (hF _ _ _ hw)
  | imul =>
    simp only [okL, Bool.and_eq_true, decide_eq_true_eq] at hok
    subst hok
    match st, hw with
    | .int b :: .int a :: r, hw => exact go_imul hd (hF _ _ _ hw)
  | iand =>
    simp only [okL, Bool.and_eq_true, decide_eq_true_eq] at hok
    subst hok
    match st, hw with
    | .int b :: .int a :: r, hw => exact go_iand hd (hF _ _ _ hw)
  | idiv =>
    simp only [okL, Bool.and_eq_true, decide_eq_true_eq] at hok
    subst hok
    match st, hw with
    | .int b :: .int a :: r, hw => exact go_idiv hd hw.1 (hF _ _ _ hw.2)
  | irem =>
    simp only [okL, Bool.and_eq_true, decide_eq_true_eq] at hok
    subst hok
    match st, hw with
    | .int b :: .int a :: r, hw => exact go_irem hd hw.1 (hF _ _ _ hw.2)
  | ineg =>
    simp only [okL, Bool.and_eq_true, decide_eq_true_eq] at hok
    subst hok
    match st, hw with
    | .int a :: r, hw => exact go_ineg hd (hF _ _ _ hw)
  | ladd =>
    simp only [okL, Bool.and_eq_true, decide_eq_true_eq] at hok
    subst hok
    match st, hw with
    | .long b :: .long a :: r, hw => exact go_ladd hd (hF _ _ _ hw)
  | lsub =>
    simp only [okL, Bool.and_eq_true, decide_eq_true_eq] at hok
    subst hok
    match st, hw with
    | .long b :: .long a :: r, hw => exact go_lsub hd (hF _ _ _ hw)
  | lmul =>
    simp only [okL, Bool.and_eq_true, decide_eq_true_eq] at hok
    subst hok
    match st, hw with
    | .long b :: .long a :: r, hw => exact go_lmul hd (hF _ _ _ hw)
  | land =>
    simp only [okL, Bool.and_eq_true, decide_eq_true_eq] at hok
    subst hok
    match st, hw with
    | .long b :: .long a :: r, hw => exact go_land hd (hF _ _ _ hw)
  | ldiv =>
    simp only [okL, Bool.and_eq_true, decide_eq_true_eq] at hok
    subst hok
    match st, hw with
    | .long b :: .long a :: r, hw => exact go_ldiv hd hw.1 (hF _ _ _ hw.2)
  | lrem =>
    simp only [okL, Bool.and_eq_true, decide_eq_true_eq] at hok
    subst hok
    match st, hw with
    | .long b :: .long a :: r, hw => exact go_lrem hd hw.1 (hF _ _ _ hw.2)
  | i2l =>
    simp only [okL, Bool.and_eq_true, decide_eq_true_eq] at hok
    subst hok
    match st, hw with
    | .int a :: r, hw => exact go_i2l hd (hF _ _ _ hw)
  | l2i =>
    simp only [okL, Bool.and_eq_true, decide_eq_true_eq] at hok
    subst hok
    match st, hw with
    | .long a :: r, hw => exact go_l2i hd (hF _ _ _ hw)
  | dup =>
    simp only [okL, Bool.and_eq_true, decide_eq_true_eq] at hok
    subst hok
    match st, hw with
    | a :: r, hw => exact go_dup hd hw.1 (hF _ _ _ hw.2)
  | pop =>
    simp only [okL, Bool.and_eq_true, decide_eq_true_eq] at hok
    subst hok
    match st, hw with
    | a :: r, hw => exact go_pop hd hw.1 (hF _ _ _ hw.2)
  | dup2 =>
    simp only [okL, Bool.and_eq_true, decide_eq_true_eq] at hok
    subst hok
    match st, hw with
    | a :: b :: r, hw => exact go_dup2 hd hw.1 hw.2.1 (hF _ _ _ hw.2.2)
  | dup_x1 =>
    simp only [okL, Bool.and_eq_true, decide_eq_true_eq] at hok
    subst hok
    match st, hw with
    | a :: b :: r, hw => exact go_dup_x1 hd hw.1 hw.2.1 (hF _ _ _ hw.2.2)
  | dup_x2 =>
    simp only [okL, Bool.and_eq_true, decide_eq_true_eq] at hok
    subst hok
    match st, hw with
    | a :: b :: c :: r, hw => exact go_dup_x2 hd hw.1 hw.2.1 hw.2.2.1 (hF _ _ _ hw.2.2.2)
  | goto off =>
    simp only [okL, Bool.and_eq_true, decide_eq_true_eq] at hok
    obtain ⟨rfl, ht⟩ := hok
    exact go_goto hd ht (hK _ _ _ _ hw)
  | ifCond c off =>
    simp only [okL, Bool.and_eq_true, decide_eq_true_eq] at hok
    obtain ⟨rfl, ht⟩ := hok
    cases c with
    | eq =>
      match st, hw with
      | .int a :: r, hw => exact go_if_eq hd ht ⟨fun q => hK _ _ _ _ (hw.1 q), fun q => hF _ _ _ (hw.2 q)⟩
    | ne =>
      match st, hw with
      | .int a :: r, hw => exact go_if_ne hd ht ⟨fun q => hF _ _ _ (hw.1 q), fun q => hK _ _ _ _ (hw.2 q)⟩
    | lt =>
      match st, hw with
      | .int a :: r, hw => exact go_if_lt hd ht ⟨fun q => hK _ _ _ _ (hw.1 q), fun q => hF _ _ _ (hw.2 q)⟩
    | ge =>
      match st, hw with
      | .int a :: r, hw => exact go_if_ge hd ht ⟨fun q => hF _ _ _ (hw.1 q), fun q => hK _ _ _ _ (hw.2 q)⟩
    | gt =>
      match st, hw with
      | .int a :: r, hw => exact go_if_gt hd ht ⟨fun q => hK _ _ _ _ (hw.1 q), fun q => hF _ _ _ (hw.2 q)⟩
    | le =>
      match st, hw with
      | .int a :: r, hw => exact go_if_le hd ht ⟨fun q => hF _ _ _ (hw.1 q), fun q => hK _ _ _ _ (hw.2 q)⟩
  | if_icmp c off =>
    simp only [okL, Bool.and_eq_true, decide_eq_true_eq] at hok
    obtain ⟨rfl, ht⟩ := hok
    cases c with
    | eq =>
      match st, hw with
      | .int b :: .int a :: r, hw => exact go_icmp_eq hd ht ⟨fun q => hK _ _ _ _ (hw.1 q), fun q => hF _ _ _ (hw.2 q)⟩
    | ne =>
      match st, hw with
      | .int b :: .int a :: r, hw => exact go_icmp_ne hd ht ⟨fun q => hF _ _ _ (hw.1 q), fun q => hK _ _ _ _ (hw.2 q)⟩
    | lt =>
      match st, hw with
      | .int b :: .int a :: r, hw => exact go_icmp_lt hd ht ⟨fun q => hK _ _ _ _ (hw.1 q), fun q => hF _ _ _ (hw.2 q)⟩
    | ge =>
      match st, hw with
      | .int b :: .int a :: r, hw => exact go_icmp_ge hd ht ⟨fun q => hF _ _ _ (hw.1 q), fun q => hK _ _ _ _ (hw.2 q)⟩
    | gt =>
      match st, hw with
      | .int b :: .int a :: r, hw => exact go_icmp_gt hd ht ⟨fun q => hK _ _ _ _ (hw.1 q), fun q => hF _ _ _ (hw.2 q)⟩
    | le =>
      match st, hw with
      | .int b :: .int a :: r, hw => exact go_icmp_le hd ht ⟨fun q => hF _ _ _ (hw.1 q), fun q => hK _ _ _ _ (hw.2 q)⟩
  | ifnull off =>
    simp only [okL, Bool.and_eq_true, decide_eq_true_eq] at hok
    obtain ⟨rfl, ht⟩ := hok
    match st, hw with
    | .null :: r, hw => exact go_ifnullN hd ht (hK _ _ _ _ hw)
    | .ref q :: r, hw => exact go_ifnull hd (hF _ _ _ hw)
  | ifnonnull off =>
    simp only [okL, Bool.and_eq_true, decide_eq_true_eq] at hok
    obtain ⟨rfl, ht⟩ := hok
    match st, hw with
    | .null :: r, hw => exact go_ifnonnullN hd (hF _ _ _ hw)
    | .ref q :: r, hw => exact go_ifnonnull hd ht (hK _ _ _ _ hw)
  | getfield idx =>
    simp only [okL, Bool.and_eq_true, decide_eq_true_eq] at hok
    obtain ⟨rfl, hf⟩ := hok
    obtain ⟨q, hq, hj, hco, hwd⟩ := okF_ok hf
    match st, hw with
    | .ref a :: r, hw =>
      obtain ⟨k, rfl, hs, hw⟩ := hw
      rw [hco] at hw
      exact go_getf hd hq hj hwd hs (hF _ _ _ hw)
  | putfield idx =>
    simp only [okL, Bool.and_eq_true, decide_eq_true_eq] at hok
    obtain ⟨⟨rfl, hf⟩, hp⟩ := hok
    obtain ⟨q, hq, hj, hco, hwd⟩ := okF_ok hf
    obtain ⟨hfin, hty⟩ := okP_ok hq hp
    obtain ⟨n, z, S, I, J, R0⟩ := h
    match st, hw with
    | .int v :: .ref a :: r, hw =>
      obtain ⟨h0, k, rfl, hs, hw⟩ := hw
      rw [h0] at hco
      have ht : ktyp o.1.1 o.1.2.1 = .int := by
        rcases hty with e | e | ⟨C, e⟩ | ⟨t, e⟩ <;> rw [e] at hco <;> first | exact e | cases hco
      exact go_putf hd hq hj hwd hs hfin (by rw [ht]; rfl) (by rw [ht]; rfl) (fun a ha => va_up_ne _ _ ha) (fun a ha => rfl) (fun a ha => rfl) (fun i hi => cval_upI (fun e => by rw [e, ht]; rfl)) (hF _ _ _ hw)
    | .long v :: .ref a :: r, hw =>
      obtain ⟨h0, k, rfl, hs, hw⟩ := hw
      rw [h0] at hco
      have ht : ktyp o.1.1 o.1.2.1 = .long := by
        rcases hty with e | e | ⟨C, e⟩ | ⟨t, e⟩ <;> rw [e] at hco <;> first | exact e | cases hco
      exact go_putf hd hq hj hwd hs hfin (by rw [ht]; rfl) (by rw [ht]; rfl) (fun a ha => rfl) (fun a ha => va_up_ne _ _ ha) (fun a ha => rfl) (fun i hi => cval_upJ (fun e => by rw [e, ht]; rfl)) (hF _ _ _ hw)
    | .ref u :: .ref a :: r, hw =>
      obtain ⟨h0, k, q', rfl, rfl, hs, hw⟩ := hw
      rw [h0] at hco
      have ht : (∃ C, ktyp o.1.1 o.1.2.1 = .object C) ∨ ∃ t, ktyp o.1.1 o.1.2.1 = .array t := by
        rcases hty with e | e | ⟨C, e⟩ | ⟨t, e⟩
        · rw [e] at hco; cases hco
        · rw [e] at hco; cases hco
        · exact Or.inl ⟨C, e⟩
        · exact Or.inr ⟨t, e⟩
      exact go_putf hd hq hj hwd hs hfin (by rcases ht with ⟨C, e⟩ | ⟨t, e⟩ <;> rw [e] <;> rfl) (by rcases ht with ⟨C, e⟩ | ⟨t, e⟩ <;> rw [e] <;> rfl) (fun a ha => rfl) (fun a ha => rfl) (fun a ha => va_up_ne _ _ ha) (fun i hi => cval_upR (v := some q') (fun e => by rw [e]; exact hco.symm)) (hF _ _ _ hw)
  | iaload =>
    simp only [okL, Bool.and_eq_true, decide_eq_true_eq] at hok
    subst hok
    match st, hw with
    | .int j :: .ref a :: r, hw =>
      have hw' : if o.1.1 = 0 then _ else _ := hw
      by_cases h0 : o.1.1 = 0
      · rw [if_pos h0] at hw'
        obtain ⟨k, rfl, hs, hin, hw⟩ := hw'
        exact go_iald (len := (h.2.2.1 k).2) hd (by rw [← hs]) hin (hF _ _ _ hw)
      · rw [if_neg h0] at hw'
        obtain ⟨rfl, hin, hw⟩ := hw'
        exact go_sld hd hin (hF _ _ _ hw)
  | iastore =>
    simp only [okL, Bool.and_eq_true, decide_eq_true_eq] at hok
    subst hok
    obtain ⟨n, z, S, I, J, R0⟩ := h
    match st, hw with
    | .int v :: .int j :: .ref a :: r, hw =>
      obtain ⟨k, rfl, hs, hin, hw⟩ := hw
      exact go_iast (len := (S k).2) hd (by rw [← hs]) hin (hF _ _ _ hw)
  | baload =>
    simp only [okL, Bool.and_eq_true, decide_eq_true_eq] at hok
    subst hok
    match st, hw with
    | .int j :: .ref a :: r, hw =>
      obtain ⟨k, rfl, hs, hin, hw⟩ := hw
      exact go_bald (len := (h.2.2.1 k).2) hd (by rw [← hs]) hin (hF _ _ _ hw)
  | bastore =>
    simp only [okL, Bool.and_eq_true, decide_eq_true_eq] at hok
    subst hok
    obtain ⟨n, z, S, I, J, R0⟩ := h
    match st, hw with
    | .int v :: .int j :: .ref a :: r, hw =>
      obtain ⟨k, rfl, hs, hin, hna, hw⟩ := hw
      exact go_bast (len := (S k).2) hd (by rw [← hs]) hin hna (hF _ _ _ hw)
  | aaload =>
    simp only [okL, Bool.and_eq_true, decide_eq_true_eq] at hok
    obtain ⟨rfl, hr⟩ := hok
    match st, hw with
    | .int j :: .ref a :: r, hw =>
      obtain ⟨k, rfl, hs, hin, hw⟩ := hw
      exact go_aald (t := o.1.1) (len := (h.2.2.1 k).2) hd (by rw [← hs]) hr hin (hF _ _ _ hw)
  | aastore =>
    simp only [okL, Bool.and_eq_true, decide_eq_true_eq] at hok
    obtain ⟨rfl, hr⟩ := hok
    obtain ⟨n, z, S, I, J, R0⟩ := h
    cases hq : kcl[o.1.2.1]? with
    | none => rw [hq] at hr; cases hr
    | some q =>
      rw [hq] at hr
      have hk := of_decide_eq_true hr
      match st, hw with
      | .ref u :: .int j :: .ref a :: r, hw =>
        obtain ⟨k, q', rfl, rfl, hs, hv, hin, hw⟩ := hw
        exact go_aast (t := o.1.1) (len := (S k).2) hd (by rw [← hs]) hq hk hv hin (hF _ _ _ hw)
  | arraylength =>
    simp only [okL, Bool.and_eq_true, decide_eq_true_eq] at hok
    subst hok
    match st, hw with
    | .ref a :: r, hw =>
      have hw' : if o.1.1 = 0 then _ else _ := hw
      by_cases h0 : o.1.1 = 0
      · rw [if_pos h0] at hw'
        obtain ⟨k, rfl, hs, hw⟩ := hw'
        obtain ⟨t, ht⟩ := Nat.exists_eq_succ_of_ne_zero hs
        exact go_alen (t := t) (len := (h.2.2.1 k).2) hd (by rw [← Nat.succ_eq_add_one, ← ht]) (hF _ _ _ hw)
      · rw [if_neg h0] at hw'
        obtain ⟨rfl, hw2⟩ := hw'
        exact go_slen hd (hF _ _ _ hw2)
  | newarray t =>
    simp only [okL, Bool.and_eq_true, decide_eq_true_eq] at hok
    simp only [Bool.or_eq_true, decide_eq_true_eq] at hok
    obtain ⟨⟨⟨⟨rfl, hty⟩, hwd⟩, hk0⟩, hpr⟩ := hok
    obtain ⟨n, z, S, I, J, R0⟩ := h
    match st, hw with
    | .int v :: r, hw =>
      obtain ⟨h0, h1, hc, hs, hw⟩ := hw
      exact go_newa (t := o.1.1) hd (inT_ok hwd) hk0 hty hpr h0 h1 hc hs (hF _ _ _ hw)
  | anewarray idx =>
    simp only [okL, Bool.and_eq_true, decide_eq_true_eq] at hok
    obtain ⟨⟨rfl, hk0⟩, hm⟩ := hok
    obtain ⟨n, z, S, I, J, R0⟩ := h
    cases hk : kak o.1.1 with
    | object C =>
      rw [hk] at hm
      simp only [Bool.and_eq_true, decide_eq_true_eq] at hm
      match st, hw with
      | .int v :: r, hw =>
        obtain ⟨h0, h1, hc, hs, hw⟩ := hw
        exact go_newq hd (inT_ok hm.1) hm.2 hk0 hk h0 h1 hc hs (hF _ _ _ hw)
    | _ => rw [hk] at hm; cases hm
  | new idx =>
    simp only [okL, Bool.and_eq_true, decide_eq_true_eq] at hok
    obtain ⟨rfl, hm⟩ := hok
    obtain ⟨n, z, S, I, J, R0⟩ := h
    cases hq : kcl[o.1.1]? with
    | none => rw [hq] at hm; cases hm
    | some q =>
      rw [hq] at hm
      simp only [Bool.and_eq_true, decide_eq_true_eq] at hm
      obtain ⟨hc, hs, hw⟩ := hw
      rw [hm.2] at hs hw
      exact go_new hd hq (inT_ok hm.1.1.1) (inT_ok hm.1.1.2) (inT_ok hm.1.2) hc hs (hF _ _ _ hw)
  | invokestatic idx =>
    simp only [okL, Bool.and_eq_true, decide_eq_true_eq] at hok
    obtain ⟨rfl, hm⟩ := hok
    obtain ⟨⟨o1, o2, o3⟩, o4, o5, mi, cs⟩ := o
    match o3, hm, hw with
    | 0, hm, hw =>
      simp only [Bool.and_eq_true] at hm
      obtain ⟨d, mc, ms, Q, hle, hM, hdd, hc, hs, hr, kk⟩ := hw
      have e : st = (st.take o1).reverse.reverse ++ st.drop o1 := by rw [List.reverse_reverse, List.take_append_drop]
      have hle' : o1 ≤ st.length := hle
      have hlen : (st.take o1).reverse.length = o1 := by rw [List.length_reverse, List.length_take]; omega
      rw [e]
      exact go_callS hd (okC_ok hm.1.1) (inT_ok hm.1.2) (inT_ok hm.2) hlen hM hdd hc hs hr (fun r h' a b c => hF _ _ _ (kk r h' a b c))
    | 1, hm, hw =>
      simp only [Bool.and_eq_true] at hm
      match st, hw with
      | .int b :: .int a :: r, hw => exact go_max hd (inT_ok hm.1.1) (inT_ok hm.1.2) (inT_ok hm.2) kco_max hw.1 hw.2.1 (hF _ _ _ hw.2.2)
    | 2, hm, hw =>
      simp only [Bool.and_eq_true] at hm
      match st, hw with
      | .int b :: .int a :: r, hw => exact go_min hd (inT_ok hm.1.1) (inT_ok hm.1.2) (inT_ok hm.2) kco_min hw.1 hw.2.1 (hF _ _ _ hw.2.2)
    | 3, hm, hw =>
      simp only [Bool.and_eq_true] at hm
      obtain ⟨n, z, S, I, J, R0⟩ := h
      match st, hw with
      | .int cnt :: .int dp :: .ref a :: .int sp :: .ref b :: r, hw =>
        obtain ⟨k, k0, rfl, rfl, s1, s0, h1, h2, h3, h4, h5, h6, h7, hw⟩ := hw
        exact go_copy (len := (S k).2) (len0 := (S k0).2) hd (inT_ok hm.1.1.1) (inT_ok hm.1.1.2) (inT_ok hm.1.2) (inT_ok hm.2) (by rw [← s1]) (by rw [← s0]) h1 h2 h3 h4 h5 h6 h7 (hF _ _ _ hw)
  | invokevirtual idx =>
    simp only [okL, Bool.and_eq_true, decide_eq_true_eq] at hok
    obtain ⟨⟨⟨⟨⟨⟨rfl, hpos⟩, hcc⟩, hl0⟩, hi⟩, hse⟩, hm⟩ := hok
    cases hq : kcl[o.1.2.1]? with
    | none => rw [hq] at hm; cases hm
    | some q =>
      rw [hq] at hm
      have hqn := of_decide_eq_true hm
      obtain ⟨hrec, d, mc, ms, Q, hle, hM, hdd, hc, hs, hr, kk⟩ := hw
      exact go_callV' hd (okC_ok hcc) (inT_ok hl0) (inT_ok hi) (inT_ok hse) hq hqn hpos hrec hM hdd hc hs hr (fun r h' a b c => hF _ _ _ (kk r h' a b c))
  | invokespecial idx =>
    simp only [okL, Bool.and_eq_true, decide_eq_true_eq] at hok
    obtain ⟨rfl, hm⟩ := hok
    obtain ⟨⟨o1, o2, o3⟩, o4, o5, mi, cs⟩ := o
    match o3, hm, hw with
    | 0, hm, hw =>
      simp only [Bool.and_eq_true, Bool.or_eq_true, decide_eq_true_eq] at hm
      obtain ⟨⟨⟨⟨⟨hpos, hcc⟩, hl0⟩, hi⟩, hnm⟩, hret⟩ := hm
      exact go_callI' hd (okC_ok hcc) hl0 (inT_ok hi) hnm hret hpos hw hF
    | 1, hm, hw =>
      simp only [Bool.and_eq_true] at hm
      match st, hw with
      | .ref a :: r, hw => exact go_objInit hd (inT_ok hm.1) (inT_ok hm.2) kco_obj hw.1 hw.2.1 (hF _ _ _ hw.2.2)
  | tableswitch dflt lo hi offs =>
    simp only [okL, Bool.and_eq_true] at hok
    obtain ⟨⟨h1, h2⟩, h3⟩ := hok
    match st, hw with
    | .int v :: r, hw => exact go_table hd (of_decide_eq_true h1) h2 h3 (e_sw_mono (fun t => hK t _ _ _) _ hw)
  | lookupswitch dflt ps =>
    simp only [okL, Bool.and_eq_true] at hok
    obtain ⟨⟨⟨h1, h2⟩, h3⟩, h4⟩ := hok
    match st, hw with
    | .int v :: r, hw => exact go_lookup hd (of_decide_eq_true h1) h2 h3 h4 (e_sw_mono (fun t => hK t _ _ _) _ hw)
  | ireturn =>
    simp only [okL, Bool.and_eq_true, decide_eq_true_eq] at hok
    subst hok
    match st, hw with
    | [.int v], hw =>
      cases hrt : x.2.1.2.2.2 with
      | none => simp only [wp1, hrt] at hw
      | some rt =>
        simp only [wp1, hrt] at hw
        exact go_iret hd hrt hw.1 hw.2
  | lreturn =>
    simp only [okL, Bool.and_eq_true, decide_eq_true_eq] at hok
    subst hok
    match st, hw with
    | [.long v], hw => exact go_lret hd hw.1 hw.2
  | return_ =>
    simp only [okL, Bool.and_eq_true, decide_eq_true_eq] at hok
    subst hok
    match st, hw with
    | [], hw => exact go_vret hd hw.1 hw.2
  | _ => exact hw.elim
theorem wp_ok {x : XT} {K : KT} (hK : ∀ t ls st h, K t ls st h → Go x t ls st h) : ∀ (is : List IT) (pc pe : Nat) (ls : List (Option Value)) (st : List Value) (h : AH), okB x.2.1 pc is pe = true → wp x is pe K ls st h → Go x pc ls st h
  | [], pc, pe, ls, st, h, hok, hw => by
    have e : pc = pe := of_decide_eq_true hok
    rw [e]
    exact hK _ _ _ _ hw
  | q :: t, pc, pe, ls, st, h, hok, hw => by
    simp only [okB, okI, Bool.and_eq_true, decide_eq_true_eq] at hok
    exact wp1_ok hok.1.1 hok.1.2 (fun ls st h h1 => wp_ok hK t _ pe ls st h hok.2 h1) hK hw
theorem go_wp {x : XT} {is : List IT} {pc pe : Nat} {ls : List (Option Value)} {st : List Value} {h : AH} (hok : okB x.2.1 pc is pe = true) (hw : wp x is pe (Go x) ls st h) : Go x pc ls st h := wp_ok (fun _ _ _ _ q => q) is pc pe ls st h hok hw
end
section
/-! the rules by which simp walks a stretch -/
section Rules
variable {x : XT} {g : GT} {y : MI × Nat × Nat × Nat × Nat × Nat × (Option Value → AH → Prop)} {is : List IT} {pe : Nat} {K : KT} {ls : List (Option Value)} {st : List Value} {h : AH} {l : Nat} {ps : List Nat}
theorem wp_nil : wp x [] pe K ls st h = K pe ls st h := rfl
theorem wp_iconst {n : Int} {v : Int32} : wp x ((.iconst n, l, oI v, ps) :: is) pe K ls st h = wp x is pe K ls (.int v :: st) h := rfl
theorem wp_bipush {n : Int} {v : Int32} : wp x ((.bipush n, l, oI v, ps) :: is) pe K ls st h = wp x is pe K ls (.int v :: st) h := rfl
theorem wp_sipush {n : Int} {v : Int32} : wp x ((.sipush n, l, oI v, ps) :: is) pe K ls st h = wp x is pe K ls (.int v :: st) h := rfl
theorem wp_ldc {n : Nat} {v : Int32} : wp x ((.ldc n, l, oI v, ps) :: is) pe K ls st h = wp x is pe K ls (.int v :: st) h := rfl
theorem wp_lconst {n : Fin 2} {v : Int64} : wp x ((.lconst n, l, oL v, ps) :: is) pe K ls st h = wp x is pe K ls (.long v :: st) h := rfl
theorem wp_ldc2 {n : Nat} {v : Int64} : wp x ((.ldc2_w n, l, oL v, ps) :: is) pe K ls st h = wp x is pe K ls (.long v :: st) h := rfl
theorem wp_null : wp x ((.aconst_null, l, oN 0 0 0, ps) :: is) pe K ls st h = wp x is pe K ls (.null :: st) h := rfl
theorem wp_iload {n i : Nat} : wp x ((.iload n, l, oN i 0 0, ps) :: is) pe K ls st h = e_i (lgt ls i) (fun v => wp x is pe K ls (.int v :: st) h) := rfl
theorem wp_iload_n {n : Fin 4} {i : Nat} : wp x ((.iload_n n, l, oN i 0 0, ps) :: is) pe K ls st h = e_i (lgt ls i) (fun v => wp x is pe K ls (.int v :: st) h) := rfl
theorem wp_lload {n i : Nat} : wp x ((.lload n, l, oN i 0 0, ps) :: is) pe K ls st h = e_l (lgt ls i) (fun v => wp x is pe K ls (.long v :: st) h) := rfl
theorem wp_lload_n {n : Fin 4} {i : Nat} : wp x ((.lload_n n, l, oN i 0 0, ps) :: is) pe K ls st h = e_l (lgt ls i) (fun v => wp x is pe K ls (.long v :: st) h) := rfl
theorem wp_aload {n i : Nat} : wp x ((.aload n, l, oN i 0 0, ps) :: is) pe K ls st h = e_a (lgt ls i) (fun v => wp x is pe K ls (v :: st) h) := rfl
theorem wp_aload_n {n : Fin 4} {i : Nat} : wp x ((.aload_n n, l, oN i 0 0, ps) :: is) pe K ls st h = e_a (lgt ls i) (fun v => wp x is pe K ls (v :: st) h) := rfl
theorem e_i_int {v : Int32} {f : Int32 → Prop} : e_i (some (.int v)) f = f v := rfl
theorem e_l_long {v : Int64} {f : Int64 → Prop} : e_l (some (.long v)) f = f v := rfl
theorem e_a_ref {v : Nat} {f : Value → Prop} : e_a (some (.ref v)) f = f (.ref v) := rfl
theorem e_a_null {f : Value → Prop} : e_a (some .null) f = f .null := rfl
theorem wp_istore {n i : Nat} {v : Int32} : wp x ((.istore n, l, oN i 0 0, ps) :: is) pe K ls (.int v :: st) h = wp x is pe K (lst (.int v) i ls) st h := rfl
theorem wp_istore_n {n : Fin 4} {i : Nat} {v : Int32} : wp x ((.istore_n n, l, oN i 0 0, ps) :: is) pe K ls (.int v :: st) h = wp x is pe K (lst (.int v) i ls) st h := rfl
theorem wp_lstore {n i : Nat} {v : Int64} : wp x ((.lstore n, l, oN i 0 0, ps) :: is) pe K ls (.long v :: st) h = wp x is pe K (lst2 (.long v) i ls) st h := rfl
theorem wp_lstore_n {n : Fin 4} {i : Nat} {v : Int64} : wp x ((.lstore_n n, l, oN i 0 0, ps) :: is) pe K ls (.long v :: st) h = wp x is pe K (lst2 (.long v) i ls) st h := rfl
theorem wp_astore {n i a : Nat} : wp x ((.astore n, l, oN i 0 0, ps) :: is) pe K ls (.ref a :: st) h = wp x is pe K (lst (.ref a) i ls) st h := rfl
theorem wp_astore_n {n : Fin 4} {i a : Nat} : wp x ((.astore_n n, l, oN i 0 0, ps) :: is) pe K ls (.ref a :: st) h = wp x is pe K (lst (.ref a) i ls) st h := rfl
theorem wp_iinc {n i : Nat} {m : Int} {u : Int32} : wp x ((.iinc n m, l, oJ i u, ps) :: is) pe K ls st h = e_i (lgt ls i) (fun v => wp x is pe K (lst (.int (v + u)) i ls) st h) := rfl
theorem wp_iadd {o : LK} {a b : Int32} : wp x ((.iadd, l, o, ps) :: is) pe K ls (.int b :: .int a :: st) h = wp x is pe K ls (.int (a + b) :: st) h := rfl
theorem wp_isub {o : LK} {a b : Int32} : wp x ((.isub, l, o, ps) :: is) pe K ls (.int b :: .int a :: st) h = wp x is pe K ls (.int (a - b) :: st) h := rfl
theorem wp_imul {o : LK} {a b : Int32} : wp x ((.imul, l, o, ps) :: is) pe K ls (.int b :: .int a :: st) h = wp x is pe K ls (.int (a * b) :: st) h := rfl
theorem wp_iand {o : LK} {a b : Int32} : wp x ((.iand, l, o, ps) :: is) pe K ls (.int b :: .int a :: st) h = wp x is pe K ls (.int (a &&& b) :: st) h := rfl
theorem wp_idiv {o : LK} {a b : Int32} : wp x ((.idiv, l, o, ps) :: is) pe K ls (.int b :: .int a :: st) h = (¬ b = 0 ∧ wp x is pe K ls (.int (a / b) :: st) h) := rfl
theorem wp_irem {o : LK} {a b : Int32} : wp x ((.irem, l, o, ps) :: is) pe K ls (.int b :: .int a :: st) h = (¬ b = 0 ∧ wp x is pe K ls (.int (a - a / b * b) :: st) h) := rfl
theorem wp_ineg {o : LK} {a : Int32} : wp x ((.ineg, l, o, ps) :: is) pe K ls (.int a :: st) h = wp x is pe K ls (.int (-a) :: st) h := rfl
theorem wp_ladd {o : LK} {a b : Int64} : wp x ((.ladd, l, o, ps) :: is) pe K ls (.long b :: .long a :: st) h = wp x is pe K ls (.long (a + b) :: st) h := rfl
theorem wp_lsub {o : LK} {a b : Int64} : wp x ((.lsub, l, o, ps) :: is) pe K ls (.long b :: .long a :: st) h = wp x is pe K ls (.long (a - b) :: st) h := rfl
theorem wp_lmul {o : LK} {a b : Int64} : wp x ((.lmul, l, o, ps) :: is) pe K ls (.long b :: .long a :: st) h = wp x is pe K ls (.long (a * b) :: st) h := rfl
theorem wp_land {o : LK} {a b : Int64} : wp x ((.land, l, o, ps) :: is) pe K ls (.long b :: .long a :: st) h = wp x is pe K ls (.long (a &&& b) :: st) h := rfl
theorem wp_ldiv {o : LK} {a b : Int64} : wp x ((.ldiv, l, o, ps) :: is) pe K ls (.long b :: .long a :: st) h = (¬ b = 0 ∧ wp x is pe K ls (.long (a / b) :: st) h) := rfl
theorem wp_lrem {o : LK} {a b : Int64} : wp x ((.lrem, l, o, ps) :: is) pe K ls (.long b :: .long a :: st) h = (¬ b = 0 ∧ wp x is pe K ls (.long (a - a / b * b) :: st) h) := rfl
theorem wp_i2l {o : LK} {a : Int32} : wp x ((.i2l, l, o, ps) :: is) pe K ls (.int a :: st) h = wp x is pe K ls (.long a.toInt64 :: st) h := rfl
theorem wp_l2i {o : LK} {a : Int64} : wp x ((.l2i, l, o, ps) :: is) pe K ls (.long a :: st) h = wp x is pe K ls (.int a.toInt32 :: st) h := rfl
theorem wp_dup {o : LK} {v : Value} : wp x ((.dup, l, o, ps) :: is) pe K ls (v :: st) h = (v.category = 1 ∧ wp x is pe K ls (v :: v :: st) h) := rfl
theorem wp_pop {o : LK} {v : Value} : wp x ((.pop, l, o, ps) :: is) pe K ls (v :: st) h = (v.category = 1 ∧ wp x is pe K ls st h) := rfl
theorem wp_dup2 {o : LK} {a b : Value} : wp x ((.dup2, l, o, ps) :: is) pe K ls (a :: b :: st) h = (a.category = 1 ∧ b.category = 1 ∧ wp x is pe K ls (a :: b :: a :: b :: st) h) := rfl
theorem wp_dup_x1 {o : LK} {a b : Value} : wp x ((.dup_x1, l, o, ps) :: is) pe K ls (a :: b :: st) h = (a.category = 1 ∧ b.category = 1 ∧ wp x is pe K ls (a :: b :: a :: st) h) := rfl
theorem cat_int {v : Int32} : (Value.int v).category = 1 := rfl
theorem cat_ref {v : Nat} : (Value.ref v).category = 1 := rfl
theorem cat_null : Value.null.category = 1 := rfl
theorem cat_long {v : Int64} : (Value.long v).category = 2 := rfl
theorem wp_goto {off : Int} {t : Nat} : wp x ((.goto off, l, oN t 0 0, ps) :: is) pe K ls st h = K t ls st h := rfl
theorem wp_if_eq {off : Int} {t : Nat} {v : Int32} : wp x ((.ifCond .eq off, l, oN t 0 0, ps) :: is) pe K ls (.int v :: st) h = e_br (v = 0) (K t ls st h) (wp x is pe K ls st h) := rfl
theorem wp_if_ne {off : Int} {t : Nat} {v : Int32} : wp x ((.ifCond .ne off, l, oN t 0 0, ps) :: is) pe K ls (.int v :: st) h = e_br (v = 0) (wp x is pe K ls st h) (K t ls st h) := rfl
theorem wp_if_lt {off : Int} {t : Nat} {v : Int32} : wp x ((.ifCond .lt off, l, oN t 0 0, ps) :: is) pe K ls (.int v :: st) h = e_br (v < 0) (K t ls st h) (wp x is pe K ls st h) := rfl
theorem wp_if_ge {off : Int} {t : Nat} {v : Int32} : wp x ((.ifCond .ge off, l, oN t 0 0, ps) :: is) pe K ls (.int v :: st) h = e_br (v < 0) (wp x is pe K ls st h) (K t ls st h) := rfl
theorem wp_if_gt {off : Int} {t : Nat} {v : Int32} : wp x ((.ifCond .gt off, l, oN t 0 0, ps) :: is) pe K ls (.int v :: st) h = e_br (0 < v) (K t ls st h) (wp x is pe K ls st h) := rfl
theorem wp_if_le {off : Int} {t : Nat} {v : Int32} : wp x ((.ifCond .le off, l, oN t 0 0, ps) :: is) pe K ls (.int v :: st) h = e_br (0 < v) (wp x is pe K ls st h) (K t ls st h) := rfl
theorem wp_icmp_eq {off : Int} {t : Nat} {a b : Int32} : wp x ((.if_icmp .eq off, l, oN t 0 0, ps) :: is) pe K ls (.int b :: .int a :: st) h = e_br (a = b) (K t ls st h) (wp x is pe K ls st h) := rfl
theorem wp_icmp_ne {off : Int} {t : Nat} {a b : Int32} : wp x ((.if_icmp .ne off, l, oN t 0 0, ps) :: is) pe K ls (.int b :: .int a :: st) h = e_br (a = b) (wp x is pe K ls st h) (K t ls st h) := rfl
theorem wp_icmp_lt {off : Int} {t : Nat} {a b : Int32} : wp x ((.if_icmp .lt off, l, oN t 0 0, ps) :: is) pe K ls (.int b :: .int a :: st) h = e_br (a < b) (K t ls st h) (wp x is pe K ls st h) := rfl
theorem wp_icmp_ge {off : Int} {t : Nat} {a b : Int32} : wp x ((.if_icmp .ge off, l, oN t 0 0, ps) :: is) pe K ls (.int b :: .int a :: st) h = e_br (a < b) (wp x is pe K ls st h) (K t ls st h) := rfl
theorem wp_icmp_gt {off : Int} {t : Nat} {a b : Int32} : wp x ((.if_icmp .gt off, l, oN t 0 0, ps) :: is) pe K ls (.int b :: .int a :: st) h = e_br (b < a) (K t ls st h) (wp x is pe K ls st h) := rfl
theorem wp_icmp_le {off : Int} {t : Nat} {a b : Int32} : wp x ((.if_icmp .le off, l, oN t 0 0, ps) :: is) pe K ls (.int b :: .int a :: st) h = e_br (b < a) (wp x is pe K ls st h) (K t ls st h) := rfl
theorem wp_ifnullN {off : Int} {t : Nat} : wp x ((.ifnull off, l, oN t 0 0, ps) :: is) pe K ls (.null :: st) h = K t ls st h := rfl
theorem wp_ifnull {off : Int} {t a : Nat} : wp x ((.ifnull off, l, oN t 0 0, ps) :: is) pe K ls (.ref a :: st) h = wp x is pe K ls st h := rfl
theorem wp_ifnonnullN {off : Int} {t : Nat} : wp x ((.ifnonnull off, l, oN t 0 0, ps) :: is) pe K ls (.null :: st) h = wp x is pe K ls st h := rfl
theorem wp_ifnonnull {off : Int} {t a : Nat} : wp x ((.ifnonnull off, l, oN t 0 0, ps) :: is) pe K ls (.ref a :: st) h = K t ls st h := rfl
theorem wp_table {d lo hi : Int} {offs : Array Int} {t : Nat} {cs : List (Int32 × Nat)} {v : Int32} : wp x ((.tableswitch d lo hi offs, l, oS t cs, ps) :: is) pe K ls (.int v :: st) h = e_sw cs t v (fun t => K t ls st h) := rfl
theorem wp_lookup {d : Int} {qs : Array (Int × Int)} {t : Nat} {cs : List (Int32 × Nat)} {v : Int32} : wp x ((.lookupswitch d qs, l, oS t cs, ps) :: is) pe K ls (.int v :: st) h = e_sw cs t v (fun t => K t ls st h) := rfl
theorem e_sw_nil {v : Int32} {d : Nat} {f : Nat → Prop} : e_sw [] d v f = f d := rfl
theorem e_sw_cons {v k : Int32} {d t : Nat} {r : List (Int32 × Nat)} {f : Nat → Prop} : e_sw ((k, t) :: r) d v f = ((v = k → f t) ∧ (¬ v = k → e_sw r d v f)) := rfl
variable {n z : Nat} {S : Nat → Nat × Nat} {I : Nat → Nat → Int32} {J : Nat → Nat → Int64} {R : Nat → Nat → Option Nat} {k c j co : Nat}
theorem ex_add {B k : Nat} {p : Nat → Prop} : (∃ q, B + k = B + q ∧ p q) = p k :=
  propext ⟨fun ⟨q, e, h⟩ => by rw [show k = q by omega]; exact h, fun h => ⟨k, rfl, h⟩⟩
theorem wp_getf {i : Nat} : wp (g, y) ((.getfield i, l, oN c j co, ps) :: is) pe K ls (.ref (gB g + k) :: st) (n, z, S, I, J, R) = (S k = (0, c + 1) ∧ wp (g, y) is pe K ls (cval co (gB g) I J R k j :: st) (n, z, S, I, J, R)) :=
  ex_add (p := fun k => S k = (0, c + 1) ∧ wp (g, y) is pe K ls (cval co (gB g) I J R k j :: st) (n, z, S, I, J, R))
theorem wp_putI {i : Nat} {v : Int32} : wp (g, y) ((.putfield i, l, oN c j 0, ps) :: is) pe K ls (.int v :: .ref (gB g + k) :: st) (n, z, S, I, J, R) = (S k = (0, c + 1) ∧ wp (g, y) is pe K ls st (n, z, S, va_up I k (va_up (I k) j v), J, R)) :=
  propext ⟨fun ⟨_, q, e, h⟩ => by
    have e3 : k = q := Nat.add_left_cancel (show gB g + k = gB g + q from e)
    subst e3
    exact h, fun h => ⟨rfl, k, rfl, h⟩⟩
theorem wp_putJ {i : Nat} {v : Int64} : wp (g, y) ((.putfield i, l, oN c j 1, ps) :: is) pe K ls (.long v :: .ref (gB g + k) :: st) (n, z, S, I, J, R) = (S k = (0, c + 1) ∧ wp (g, y) is pe K ls st (n, z, S, I, va_up J k (va_up (J k) j v), R)) :=
  propext ⟨fun ⟨_, q, e, h⟩ => by
    have e3 : k = q := Nat.add_left_cancel (show gB g + k = gB g + q from e)
    subst e3
    exact h, fun h => ⟨rfl, k, rfl, h⟩⟩
theorem wp_putR {i q : Nat} : wp (g, y) ((.putfield i, l, oN c j 2, ps) :: is) pe K ls (.ref (gB g + q) :: .ref (gB g + k) :: st) (n, z, S, I, J, R) = (S k = (0, c + 1) ∧ wp (g, y) is pe K ls st (n, z, S, I, J, va_up R k (va_up (R k) j (some q)))) :=
  propext ⟨fun ⟨_, k', q', e1, e2, h1, h2⟩ => by
    have e3 : k = k' := Nat.add_left_cancel (show gB g + k = gB g + k' from e1)
    have e4 : q = q' := Nat.add_left_cancel (show gB g + q = gB g + q' from e2)
    subst e3; subst e4
    exact ⟨h1, h2⟩, fun ⟨h1, h2⟩ => ⟨rfl, k, q, rfl, rfl, h1, h2⟩⟩
theorem wp_iald {j : Int32} : wp (g, y) ((.iaload, l, oN 0 0 0, ps) :: is) pe K ls (.int j :: .ref (gB g + k) :: st) (n, z, S, I, J, R) = ((S k).1 = 1 ∧ vp_in j (S k).2 ∧ wp (g, y) is pe K ls (.int (I k j.toNatClampNeg) :: st) (n, z, S, I, J, R)) :=
  ex_add (p := fun k => (S k).1 = 1 ∧ vp_in j (S k).2 ∧ wp (g, y) is pe K ls (.int (I k j.toNatClampNeg) :: st) (n, z, S, I, J, R))
theorem wp_sld {j : Int32} : wp (g, y) ((.iaload, l, oN 1 0 0, ps) :: is) pe K ls (.int j :: .ref (gS g) :: st) h = (vp_in j (gN g) ∧ wp (g, y) is pe K ls (.int (gX g j.toNatClampNeg) :: st) h) :=
  propext ⟨fun q => q.2, fun q => ⟨rfl, q⟩⟩
theorem wp_slen : wp (g, y) ((.arraylength, l, oN 1 0 0, ps) :: is) pe K ls (.ref (gS g) :: st) h = wp (g, y) is pe K ls (.int (nI (gN g)) :: st) h :=
  propext ⟨fun q => q.2, fun q => ⟨rfl, q⟩⟩
theorem wp_alen : wp (g, y) ((.arraylength, l, oN 0 0 0, ps) :: is) pe K ls (.ref (gB g + k) :: st) (n, z, S, I, J, R) = (¬ (S k).1 = 0 ∧ wp (g, y) is pe K ls (.int (nI (S k).2) :: st) (n, z, S, I, J, R)) :=
  ex_add (p := fun k => ¬ (S k).1 = 0 ∧ wp (g, y) is pe K ls (.int (nI (S k).2) :: st) (n, z, S, I, J, R))
theorem wp_iast {o : LK} {j v : Int32} : wp (g, y) ((.iastore, l, o, ps) :: is) pe K ls (.int v :: .int j :: .ref (gB g + k) :: st) (n, z, S, I, J, R) = ((S k).1 = 1 ∧ vp_in j (S k).2 ∧ wp (g, y) is pe K ls st (n, z, S, va_up I k (va_up (I k) j.toNatClampNeg v), J, R)) :=
  ex_add (p := fun k => (S k).1 = 1 ∧ vp_in j (S k).2 ∧ wp (g, y) is pe K ls st (n, z, S, va_up I k (va_up (I k) j.toNatClampNeg v), J, R))
theorem wp_bald {o : LK} {j : Int32} : wp (g, y) ((.baload, l, o, ps) :: is) pe K ls (.int j :: .ref (gB g + k) :: st) (n, z, S, I, J, R) = ((S k).1 = 3 ∧ vp_in j (S k).2 ∧ wp (g, y) is pe K ls (.int (I k j.toNatClampNeg) :: st) (n, z, S, I, J, R)) :=
  ex_add (p := fun k => (S k).1 = 3 ∧ vp_in j (S k).2 ∧ wp (g, y) is pe K ls (.int (I k j.toNatClampNeg) :: st) (n, z, S, I, J, R))
theorem wp_bast {o : LK} {j v : Int32} : wp (g, y) ((.bastore, l, o, ps) :: is) pe K ls (.int v :: .int j :: .ref (gB g + k) :: st) (n, z, S, I, J, R) = ((S k).1 = 3 ∧ vp_in j (S k).2 ∧ narrow .boolean (.int v) = .int v ∧ wp (g, y) is pe K ls st (n, z, S, va_up I k (va_up (I k) j.toNatClampNeg v), J, R)) :=
  ex_add (p := fun k => (S k).1 = 3 ∧ vp_in j (S k).2 ∧ narrow .boolean (.int v) = .int v ∧ wp (g, y) is pe K ls st (n, z, S, va_up I k (va_up (I k) j.toNatClampNeg v), J, R))
theorem wp_aald {t : Nat} {j : Int32} : wp (g, y) ((.aaload, l, oN t 0 0, ps) :: is) pe K ls (.int j :: .ref (gB g + k) :: st) (n, z, S, I, J, R) = ((S k).1 = t + 1 ∧ vp_in j (S k).2 ∧ wp (g, y) is pe K ls (rv (gB g) (R k j.toNatClampNeg) :: st) (n, z, S, I, J, R)) :=
  ex_add (p := fun k => (S k).1 = t + 1 ∧ vp_in j (S k).2 ∧ wp (g, y) is pe K ls (rv (gB g) (R k j.toNatClampNeg) :: st) (n, z, S, I, J, R))
theorem wp_aast {t q : Nat} {j : Int32} : wp (g, y) ((.aastore, l, oN t c 0, ps) :: is) pe K ls (.ref (gB g + q) :: .int j :: .ref (gB g + k) :: st) (n, z, S, I, J, R) = ((S k).1 = t + 1 ∧ S q = (0, c + 1) ∧ vp_in j (S k).2 ∧ wp (g, y) is pe K ls st (n, z, S, I, J, va_up R k (va_up (R k) j.toNatClampNeg (some q)))) :=
  propext ⟨fun ⟨k', q', e1, e2, h1⟩ => by
    have e3 : k = k' := Nat.add_left_cancel (show gB g + k = gB g + k' from e1)
    have e4 : q = q' := Nat.add_left_cancel (show gB g + q = gB g + q' from e2)
    subst e3; subst e4
    exact h1, fun h1 => ⟨k, q, rfl, rfl, h1⟩⟩
variable {mi : MI} {d n0 z0 mc ms : Nat} {Q : Option Value → AH → Prop}
theorem wp_newa {t : ArrayType} {v : Int32} : wp (g, mi, d, n0, z0, mc, ms, Q) ((.newarray t, l, oN c 0 0, ps) :: is) pe K ls (.int v :: st) (n, z, S, I, J, R) = (¬ v < 0 ∧ v.toNatClampNeg ≤ 100000 ∧ n + 1 ≤ n0 + mc ∧ z + v.toNatClampNeg ≤ z0 + ms ∧ wp (g, mi, d, n0, z0, mc, ms, Q) is pe K ls (.ref (gB g + n) :: st) (n + 1, z + v.toNatClampNeg, va_up S n (c + 1, v.toNatClampNeg), va_up I n (fun _ => 0), J, R)) := rfl
theorem wp_newq {i t : Nat} {v : Int32} : wp (g, mi, d, n0, z0, mc, ms, Q) ((.anewarray i, l, oN t 0 0, ps) :: is) pe K ls (.int v :: st) (n, z, S, I, J, R) = (¬ v < 0 ∧ v.toNatClampNeg ≤ 100000 ∧ n + 1 ≤ n0 + mc ∧ z + v.toNatClampNeg ≤ z0 + ms ∧ wp (g, mi, d, n0, z0, mc, ms, Q) is pe K ls (.ref (gB g + n) :: st) (n + 1, z + v.toNatClampNeg, va_up S n (t + 1, v.toNatClampNeg), I, J, va_up R n (fun _ => none))) := rfl
theorem wp_new {i N : Nat} : wp (g, mi, d, n0, z0, mc, ms, Q) ((.new i, l, oN c N 0, ps) :: is) pe K ls st (n, z, S, I, J, R) = (n + 1 ≤ n0 + mc ∧ z + N ≤ z0 + ms ∧ wp (g, mi, d, n0, z0, mc, ms, Q) is pe K ls (.ref (gB g + n) :: st) (n + 1, z + N, va_up S n (0, c + 1), va_up I n (fun _ => 0), va_up J n (fun _ => 0), va_up R n (fun _ => none))) := rfl
theorem wp_objInit {i a : Nat} : wp (g, mi, d, n0, z0, mc, ms, Q) ((.invokespecial i, l, oN 0 0 1, ps) :: is) pe K ls (.ref a :: st) h = (1 ≤ d ∧ rs st ≤ 8 ∧ wp (g, mi, d, n0, z0, mc, ms, Q) is pe K ls st h) := rfl
theorem wp_max {i : Nat} {a b : Int32} : wp (g, mi, d, n0, z0, mc, ms, Q) ((.invokestatic i, l, oN 0 0 1, ps) :: is) pe K ls (.int b :: .int a :: st) h = (1 ≤ d ∧ rs st ≤ 8 ∧ wp (g, mi, d, n0, z0, mc, ms, Q) is pe K ls (.int (if a < b then b else a) :: st) h) := rfl
theorem wp_min {i : Nat} {a b : Int32} : wp (g, mi, d, n0, z0, mc, ms, Q) ((.invokestatic i, l, oN 0 0 2, ps) :: is) pe K ls (.int b :: .int a :: st) h = (1 ≤ d ∧ rs st ≤ 8 ∧ wp (g, mi, d, n0, z0, mc, ms, Q) is pe K ls (.int (if b < a then b else a) :: st) h) := rfl
theorem wp_copy {i k0 : Nat} {cnt sp dp : Int32} : wp (g, mi, d, n0, z0, mc, ms, Q) ((.invokestatic i, l, oN 0 0 3, ps) :: is) pe K ls (.int cnt :: .int dp :: .ref (gB g + k) :: .int sp :: .ref (gB g + k0) :: st) (n, z, S, I, J, R) = ((S k).1 = 1 ∧ (S k0).1 = 1 ∧ ¬ sp < 0 ∧ ¬ dp < 0 ∧ ¬ cnt < 0 ∧ sp.toNatClampNeg + cnt.toNatClampNeg ≤ (S k0).2 ∧ dp.toNatClampNeg + cnt.toNatClampNeg ≤ (S k).2 ∧ 1 ≤ d ∧ rs st ≤ 8 ∧
    wp (g, mi, d, n0, z0, mc, ms, Q) is pe K ls st (n, z, S, va_up I k (va_cpy (I k0) (I k) sp.toNatClampNeg dp.toNatClampNeg cnt.toNatClampNeg), J, R)) :=
  propext ⟨fun ⟨k', q', e1, e2, h1⟩ => by
    have e3 : k = k' := Nat.add_left_cancel (show gB g + k = gB g + k' from e1)
    have e4 : k0 = q' := Nat.add_left_cancel (show gB g + k0 = gB g + q' from e2)
    subst e3; subst e4
    exact h1, fun h1 => ⟨k, k0, rfl, rfl, h1⟩⟩
/-- a call, its arguments told -/
def call (g : GT) (d n0 z0 mc ms : Nat) (m : MI) (as : List Value) (rest : List Value) (h : AH) (f : List Value → AH → Prop) : Prop :=
  ∃ (d' mc' ms' : Nat) (Q' : Option Value → AH → Prop), Cn g m d' mc' ms' as h Q' ∧ d' < d ∧ h.1 + mc' ≤ n0 + mc ∧ h.2.1 + ms' ≤ z0 + ms ∧ rs rest ≤ 8 ∧ ∀ (r : Option Value) (h' : AH), Q' r h' → h'.1 = h.1 + mc' → h'.2.1 = h.2.1 + ms' → f (r.toList ++ rest) h'
theorem call_of {nA : Nat} {m : MI} {as : List Value} {rest : List Value} {F : FT} (h1 : (st.take nA).reverse = as) (h2 : st.drop nA = rest) (h3 : nA ≤ st.length) : e_call (g, mi, d, n0, z0, mc, ms, Q) m nA F ls st h = call g d n0 z0 mc ms m as rest h (fun st' h' => F ls st' h') := by
  subst h1; subst h2
  exact propext ⟨fun ⟨a, b, c, e, _, f⟩ => ⟨a, b, c, e, f⟩, fun ⟨a, b, c, e, f⟩ => ⟨a, b, c, e, h3, f⟩⟩
theorem wp_callS0 {i : Nat} {m : MI} : wp (g, mi, d, n0, z0, mc, ms, Q) ((.invokestatic i, l, oM m 0 0, ps) :: is) pe K ls (st) h = call g d n0 z0 mc ms m [] st h (fun st' h' => wp (g, mi, d, n0, z0, mc, ms, Q) is pe K ls st' h') := call_of (nA := 0) (st := st) (F := fun ls' st' h' => wp (g, mi, d, n0, z0, mc, ms, Q) is pe K ls' st' h') rfl rfl (by simp)
theorem wp_callV0 {i : Nat} {m : MI} : wp (g, mi, d, n0, z0, mc, ms, Q) ((.invokevirtual i, l, oM m 1 c, ps) :: is) pe K ls (.ref (gB g + k) :: st) (n, z, S, I, J, R) = (S k = (0, c + 1) ∧ call g d n0 z0 mc ms m [.ref (gB g + k)] st (n, z, S, I, J, R) (fun st' h' => wp (g, mi, d, n0, z0, mc, ms, Q) is pe K ls st' h')) :=
  congr (congrArg And (ex_add (B := gB g) (k := k) (p := fun k => S k = (0, c + 1)))) (call_of (nA := 1) (st := .ref (gB g + k) :: st) (F := fun ls' st' h' => wp (g, mi, d, n0, z0, mc, ms, Q) is pe K ls' st' h') rfl rfl (by simp))
theorem wp_callI0 {i a : Nat} {m : MI} : wp (g, mi, d, n0, z0, mc, ms, Q) ((.invokespecial i, l, oM m 1 0, ps) :: is) pe K ls (.ref a :: st) h = call g d n0 z0 mc ms m [.ref a] st h (fun st' h' => wp (g, mi, d, n0, z0, mc, ms, Q) is pe K ls st' h') := call_of (nA := 1) (st := .ref a :: st) (F := fun ls' st' h' => wp (g, mi, d, n0, z0, mc, ms, Q) is pe K ls' st' h') rfl rfl (by simp)
theorem wp_callS1 {i : Nat} {m : MI} {v0 : Value} : wp (g, mi, d, n0, z0, mc, ms, Q) ((.invokestatic i, l, oM m 1 0, ps) :: is) pe K ls (v0 :: st) h = call g d n0 z0 mc ms m [v0] st h (fun st' h' => wp (g, mi, d, n0, z0, mc, ms, Q) is pe K ls st' h') := call_of (nA := 1) (st := v0 :: st) (F := fun ls' st' h' => wp (g, mi, d, n0, z0, mc, ms, Q) is pe K ls' st' h') rfl rfl (by simp)
theorem wp_callV1 {i : Nat} {m : MI} {v0 : Value} : wp (g, mi, d, n0, z0, mc, ms, Q) ((.invokevirtual i, l, oM m 2 c, ps) :: is) pe K ls (v0 :: .ref (gB g + k) :: st) (n, z, S, I, J, R) = (S k = (0, c + 1) ∧ call g d n0 z0 mc ms m [.ref (gB g + k), v0] st (n, z, S, I, J, R) (fun st' h' => wp (g, mi, d, n0, z0, mc, ms, Q) is pe K ls st' h')) :=
  congr (congrArg And (ex_add (B := gB g) (k := k) (p := fun k => S k = (0, c + 1)))) (call_of (nA := 2) (st := v0 :: .ref (gB g + k) :: st) (F := fun ls' st' h' => wp (g, mi, d, n0, z0, mc, ms, Q) is pe K ls' st' h') rfl rfl (by simp))
theorem wp_callI1 {i a : Nat} {m : MI} {v0 : Value} : wp (g, mi, d, n0, z0, mc, ms, Q) ((.invokespecial i, l, oM m 2 0, ps) :: is) pe K ls (v0 :: .ref a :: st) h = call g d n0 z0 mc ms m [.ref a, v0] st h (fun st' h' => wp (g, mi, d, n0, z0, mc, ms, Q) is pe K ls st' h') := call_of (nA := 2) (st := v0 :: .ref a :: st) (F := fun ls' st' h' => wp (g, mi, d, n0, z0, mc, ms, Q) is pe K ls' st' h') rfl rfl (by simp)
theorem wp_callS2 {i : Nat} {m : MI} {v0 v1 : Value} : wp (g, mi, d, n0, z0, mc, ms, Q) ((.invokestatic i, l, oM m 2 0, ps) :: is) pe K ls (v1 :: v0 :: st) h = call g d n0 z0 mc ms m [v0, v1] st h (fun st' h' => wp (g, mi, d, n0, z0, mc, ms, Q) is pe K ls st' h') := call_of (nA := 2) (st := v1 :: v0 :: st) (F := fun ls' st' h' => wp (g, mi, d, n0, z0, mc, ms, Q) is pe K ls' st' h') rfl rfl (by simp)
theorem wp_callV2 {i : Nat} {m : MI} {v0 v1 : Value} : wp (g, mi, d, n0, z0, mc, ms, Q) ((.invokevirtual i, l, oM m 3 c, ps) :: is) pe K ls (v1 :: v0 :: .ref (gB g + k) :: st) (n, z, S, I, J, R) = (S k = (0, c + 1) ∧ call g d n0 z0 mc ms m [.ref (gB g + k), v0, v1] st (n, z, S, I, J, R) (fun st' h' => wp (g, mi, d, n0, z0, mc, ms, Q) is pe K ls st' h')) :=
  congr (congrArg And (ex_add (B := gB g) (k := k) (p := fun k => S k = (0, c + 1)))) (call_of (nA := 3) (st := v1 :: v0 :: .ref (gB g + k) :: st) (F := fun ls' st' h' => wp (g, mi, d, n0, z0, mc, ms, Q) is pe K ls' st' h') rfl rfl (by simp))
theorem wp_callI2 {i a : Nat} {m : MI} {v0 v1 : Value} : wp (g, mi, d, n0, z0, mc, ms, Q) ((.invokespecial i, l, oM m 3 0, ps) :: is) pe K ls (v1 :: v0 :: .ref a :: st) h = call g d n0 z0 mc ms m [.ref a, v0, v1] st h (fun st' h' => wp (g, mi, d, n0, z0, mc, ms, Q) is pe K ls st' h') := call_of (nA := 3) (st := v1 :: v0 :: .ref a :: st) (F := fun ls' st' h' => wp (g, mi, d, n0, z0, mc, ms, Q) is pe K ls' st' h') rfl rfl (by simp)
theorem wp_callS3 {i : Nat} {m : MI} {v0 v1 v2 : Value} : wp (g, mi, d, n0, z0, mc, ms, Q) ((.invokestatic i, l, oM m 3 0, ps) :: is) pe K ls (v2 :: v1 :: v0 :: st) h = call g d n0 z0 mc ms m [v0, v1, v2] st h (fun st' h' => wp (g, mi, d, n0, z0, mc, ms, Q) is pe K ls st' h') := call_of (nA := 3) (st := v2 :: v1 :: v0 :: st) (F := fun ls' st' h' => wp (g, mi, d, n0, z0, mc, ms, Q) is pe K ls' st' h') rfl rfl (by simp)
theorem wp_callV3 {i : Nat} {m : MI} {v0 v1 v2 : Value} : wp (g, mi, d, n0, z0, mc, ms, Q) ((.invokevirtual i, l, oM m 4 c, ps) :: is) pe K ls (v2 :: v1 :: v0 :: .ref (gB g + k) :: st) (n, z, S, I, J, R) = (S k = (0, c + 1) ∧ call g d n0 z0 mc ms m [.ref (gB g + k), v0, v1, v2] st (n, z, S, I, J, R) (fun st' h' => wp (g, mi, d, n0, z0, mc, ms, Q) is pe K ls st' h')) :=
  congr (congrArg And (ex_add (B := gB g) (k := k) (p := fun k => S k = (0, c + 1)))) (call_of (nA := 4) (st := v2 :: v1 :: v0 :: .ref (gB g + k) :: st) (F := fun ls' st' h' => wp (g, mi, d, n0, z0, mc, ms, Q) is pe K ls' st' h') rfl rfl (by simp))
theorem wp_callI3 {i a : Nat} {m : MI} {v0 v1 v2 : Value} : wp (g, mi, d, n0, z0, mc, ms, Q) ((.invokespecial i, l, oM m 4 0, ps) :: is) pe K ls (v2 :: v1 :: v0 :: .ref a :: st) h = call g d n0 z0 mc ms m [.ref a, v0, v1, v2] st h (fun st' h' => wp (g, mi, d, n0, z0, mc, ms, Q) is pe K ls st' h') := call_of (nA := 4) (st := v2 :: v1 :: v0 :: .ref a :: st) (F := fun ls' st' h' => wp (g, mi, d, n0, z0, mc, ms, Q) is pe K ls' st' h') rfl rfl (by simp)
theorem wp_callS4 {i : Nat} {m : MI} {v0 v1 v2 v3 : Value} : wp (g, mi, d, n0, z0, mc, ms, Q) ((.invokestatic i, l, oM m 4 0, ps) :: is) pe K ls (v3 :: v2 :: v1 :: v0 :: st) h = call g d n0 z0 mc ms m [v0, v1, v2, v3] st h (fun st' h' => wp (g, mi, d, n0, z0, mc, ms, Q) is pe K ls st' h') := call_of (nA := 4) (st := v3 :: v2 :: v1 :: v0 :: st) (F := fun ls' st' h' => wp (g, mi, d, n0, z0, mc, ms, Q) is pe K ls' st' h') rfl rfl (by simp)
theorem wp_callV4 {i : Nat} {m : MI} {v0 v1 v2 v3 : Value} : wp (g, mi, d, n0, z0, mc, ms, Q) ((.invokevirtual i, l, oM m 5 c, ps) :: is) pe K ls (v3 :: v2 :: v1 :: v0 :: .ref (gB g + k) :: st) (n, z, S, I, J, R) = (S k = (0, c + 1) ∧ call g d n0 z0 mc ms m [.ref (gB g + k), v0, v1, v2, v3] st (n, z, S, I, J, R) (fun st' h' => wp (g, mi, d, n0, z0, mc, ms, Q) is pe K ls st' h')) :=
  congr (congrArg And (ex_add (B := gB g) (k := k) (p := fun k => S k = (0, c + 1)))) (call_of (nA := 5) (st := v3 :: v2 :: v1 :: v0 :: .ref (gB g + k) :: st) (F := fun ls' st' h' => wp (g, mi, d, n0, z0, mc, ms, Q) is pe K ls' st' h') rfl rfl (by simp))
theorem wp_callI4 {i a : Nat} {m : MI} {v0 v1 v2 v3 : Value} : wp (g, mi, d, n0, z0, mc, ms, Q) ((.invokespecial i, l, oM m 5 0, ps) :: is) pe K ls (v3 :: v2 :: v1 :: v0 :: .ref a :: st) h = call g d n0 z0 mc ms m [.ref a, v0, v1, v2, v3] st h (fun st' h' => wp (g, mi, d, n0, z0, mc, ms, Q) is pe K ls st' h') := call_of (nA := 5) (st := v3 :: v2 :: v1 :: v0 :: .ref a :: st) (F := fun ls' st' h' => wp (g, mi, d, n0, z0, mc, ms, Q) is pe K ls' st' h') rfl rfl (by simp)
theorem wp_callS5 {i : Nat} {m : MI} {v0 v1 v2 v3 v4 : Value} : wp (g, mi, d, n0, z0, mc, ms, Q) ((.invokestatic i, l, oM m 5 0, ps) :: is) pe K ls (v4 :: v3 :: v2 :: v1 :: v0 :: st) h = call g d n0 z0 mc ms m [v0, v1, v2, v3, v4] st h (fun st' h' => wp (g, mi, d, n0, z0, mc, ms, Q) is pe K ls st' h') := call_of (nA := 5) (st := v4 :: v3 :: v2 :: v1 :: v0 :: st) (F := fun ls' st' h' => wp (g, mi, d, n0, z0, mc, ms, Q) is pe K ls' st' h') rfl rfl (by simp)
theorem wp_callV5 {i : Nat} {m : MI} {v0 v1 v2 v3 v4 : Value} : wp (g, mi, d, n0, z0, mc, ms, Q) ((.invokevirtual i, l, oM m 6 c, ps) :: is) pe K ls (v4 :: v3 :: v2 :: v1 :: v0 :: .ref (gB g + k) :: st) (n, z, S, I, J, R) = (S k = (0, c + 1) ∧ call g d n0 z0 mc ms m [.ref (gB g + k), v0, v1, v2, v3, v4] st (n, z, S, I, J, R) (fun st' h' => wp (g, mi, d, n0, z0, mc, ms, Q) is pe K ls st' h')) :=
  congr (congrArg And (ex_add (B := gB g) (k := k) (p := fun k => S k = (0, c + 1)))) (call_of (nA := 6) (st := v4 :: v3 :: v2 :: v1 :: v0 :: .ref (gB g + k) :: st) (F := fun ls' st' h' => wp (g, mi, d, n0, z0, mc, ms, Q) is pe K ls' st' h') rfl rfl (by simp))
theorem wp_callI5 {i a : Nat} {m : MI} {v0 v1 v2 v3 v4 : Value} : wp (g, mi, d, n0, z0, mc, ms, Q) ((.invokespecial i, l, oM m 6 0, ps) :: is) pe K ls (v4 :: v3 :: v2 :: v1 :: v0 :: .ref a :: st) h = call g d n0 z0 mc ms m [.ref a, v0, v1, v2, v3, v4] st h (fun st' h' => wp (g, mi, d, n0, z0, mc, ms, Q) is pe K ls st' h') := call_of (nA := 6) (st := v4 :: v3 :: v2 :: v1 :: v0 :: .ref a :: st) (F := fun ls' st' h' => wp (g, mi, d, n0, z0, mc, ms, Q) is pe K ls' st' h') rfl rfl (by simp)
theorem wp_callS6 {i : Nat} {m : MI} {v0 v1 v2 v3 v4 v5 : Value} : wp (g, mi, d, n0, z0, mc, ms, Q) ((.invokestatic i, l, oM m 6 0, ps) :: is) pe K ls (v5 :: v4 :: v3 :: v2 :: v1 :: v0 :: st) h = call g d n0 z0 mc ms m [v0, v1, v2, v3, v4, v5] st h (fun st' h' => wp (g, mi, d, n0, z0, mc, ms, Q) is pe K ls st' h') := call_of (nA := 6) (st := v5 :: v4 :: v3 :: v2 :: v1 :: v0 :: st) (F := fun ls' st' h' => wp (g, mi, d, n0, z0, mc, ms, Q) is pe K ls' st' h') rfl rfl (by simp)
theorem wp_callV6 {i : Nat} {m : MI} {v0 v1 v2 v3 v4 v5 : Value} : wp (g, mi, d, n0, z0, mc, ms, Q) ((.invokevirtual i, l, oM m 7 c, ps) :: is) pe K ls (v5 :: v4 :: v3 :: v2 :: v1 :: v0 :: .ref (gB g + k) :: st) (n, z, S, I, J, R) = (S k = (0, c + 1) ∧ call g d n0 z0 mc ms m [.ref (gB g + k), v0, v1, v2, v3, v4, v5] st (n, z, S, I, J, R) (fun st' h' => wp (g, mi, d, n0, z0, mc, ms, Q) is pe K ls st' h')) :=
  congr (congrArg And (ex_add (B := gB g) (k := k) (p := fun k => S k = (0, c + 1)))) (call_of (nA := 7) (st := v5 :: v4 :: v3 :: v2 :: v1 :: v0 :: .ref (gB g + k) :: st) (F := fun ls' st' h' => wp (g, mi, d, n0, z0, mc, ms, Q) is pe K ls' st' h') rfl rfl (by simp))
theorem wp_callI6 {i a : Nat} {m : MI} {v0 v1 v2 v3 v4 v5 : Value} : wp (g, mi, d, n0, z0, mc, ms, Q) ((.invokespecial i, l, oM m 7 0, ps) :: is) pe K ls (v5 :: v4 :: v3 :: v2 :: v1 :: v0 :: .ref a :: st) h = call g d n0 z0 mc ms m [.ref a, v0, v1, v2, v3, v4, v5] st h (fun st' h' => wp (g, mi, d, n0, z0, mc, ms, Q) is pe K ls st' h') := call_of (nA := 7) (st := v5 :: v4 :: v3 :: v2 :: v1 :: v0 :: .ref a :: st) (F := fun ls' st' h' => wp (g, mi, d, n0, z0, mc, ms, Q) is pe K ls' st' h') rfl rfl (by simp)
theorem wp_callS7 {i : Nat} {m : MI} {v0 v1 v2 v3 v4 v5 v6 : Value} : wp (g, mi, d, n0, z0, mc, ms, Q) ((.invokestatic i, l, oM m 7 0, ps) :: is) pe K ls (v6 :: v5 :: v4 :: v3 :: v2 :: v1 :: v0 :: st) h = call g d n0 z0 mc ms m [v0, v1, v2, v3, v4, v5, v6] st h (fun st' h' => wp (g, mi, d, n0, z0, mc, ms, Q) is pe K ls st' h') := call_of (nA := 7) (st := v6 :: v5 :: v4 :: v3 :: v2 :: v1 :: v0 :: st) (F := fun ls' st' h' => wp (g, mi, d, n0, z0, mc, ms, Q) is pe K ls' st' h') rfl rfl (by simp)
theorem wp_callV7 {i : Nat} {m : MI} {v0 v1 v2 v3 v4 v5 v6 : Value} : wp (g, mi, d, n0, z0, mc, ms, Q) ((.invokevirtual i, l, oM m 8 c, ps) :: is) pe K ls (v6 :: v5 :: v4 :: v3 :: v2 :: v1 :: v0 :: .ref (gB g + k) :: st) (n, z, S, I, J, R) = (S k = (0, c + 1) ∧ call g d n0 z0 mc ms m [.ref (gB g + k), v0, v1, v2, v3, v4, v5, v6] st (n, z, S, I, J, R) (fun st' h' => wp (g, mi, d, n0, z0, mc, ms, Q) is pe K ls st' h')) :=
  congr (congrArg And (ex_add (B := gB g) (k := k) (p := fun k => S k = (0, c + 1)))) (call_of (nA := 8) (st := v6 :: v5 :: v4 :: v3 :: v2 :: v1 :: v0 :: .ref (gB g + k) :: st) (F := fun ls' st' h' => wp (g, mi, d, n0, z0, mc, ms, Q) is pe K ls' st' h') rfl rfl (by simp))
theorem wp_callI7 {i a : Nat} {m : MI} {v0 v1 v2 v3 v4 v5 v6 : Value} : wp (g, mi, d, n0, z0, mc, ms, Q) ((.invokespecial i, l, oM m 8 0, ps) :: is) pe K ls (v6 :: v5 :: v4 :: v3 :: v2 :: v1 :: v0 :: .ref a :: st) h = call g d n0 z0 mc ms m [.ref a, v0, v1, v2, v3, v4, v5, v6] st h (fun st' h' => wp (g, mi, d, n0, z0, mc, ms, Q) is pe K ls st' h') := call_of (nA := 8) (st := v6 :: v5 :: v4 :: v3 :: v2 :: v1 :: v0 :: .ref a :: st) (F := fun ls' st' h' => wp (g, mi, d, n0, z0, mc, ms, Q) is pe K ls' st' h') rfl rfl (by simp)
theorem wp_callS8 {i : Nat} {m : MI} {v0 v1 v2 v3 v4 v5 v6 v7 : Value} : wp (g, mi, d, n0, z0, mc, ms, Q) ((.invokestatic i, l, oM m 8 0, ps) :: is) pe K ls (v7 :: v6 :: v5 :: v4 :: v3 :: v2 :: v1 :: v0 :: st) h = call g d n0 z0 mc ms m [v0, v1, v2, v3, v4, v5, v6, v7] st h (fun st' h' => wp (g, mi, d, n0, z0, mc, ms, Q) is pe K ls st' h') := call_of (nA := 8) (st := v7 :: v6 :: v5 :: v4 :: v3 :: v2 :: v1 :: v0 :: st) (F := fun ls' st' h' => wp (g, mi, d, n0, z0, mc, ms, Q) is pe K ls' st' h') rfl rfl (by simp)
theorem wp_callV8 {i : Nat} {m : MI} {v0 v1 v2 v3 v4 v5 v6 v7 : Value} : wp (g, mi, d, n0, z0, mc, ms, Q) ((.invokevirtual i, l, oM m 9 c, ps) :: is) pe K ls (v7 :: v6 :: v5 :: v4 :: v3 :: v2 :: v1 :: v0 :: .ref (gB g + k) :: st) (n, z, S, I, J, R) = (S k = (0, c + 1) ∧ call g d n0 z0 mc ms m [.ref (gB g + k), v0, v1, v2, v3, v4, v5, v6, v7] st (n, z, S, I, J, R) (fun st' h' => wp (g, mi, d, n0, z0, mc, ms, Q) is pe K ls st' h')) :=
  congr (congrArg And (ex_add (B := gB g) (k := k) (p := fun k => S k = (0, c + 1)))) (call_of (nA := 9) (st := v7 :: v6 :: v5 :: v4 :: v3 :: v2 :: v1 :: v0 :: .ref (gB g + k) :: st) (F := fun ls' st' h' => wp (g, mi, d, n0, z0, mc, ms, Q) is pe K ls' st' h') rfl rfl (by simp))
theorem wp_callI8 {i a : Nat} {m : MI} {v0 v1 v2 v3 v4 v5 v6 v7 : Value} : wp (g, mi, d, n0, z0, mc, ms, Q) ((.invokespecial i, l, oM m 9 0, ps) :: is) pe K ls (v7 :: v6 :: v5 :: v4 :: v3 :: v2 :: v1 :: v0 :: .ref a :: st) h = call g d n0 z0 mc ms m [.ref a, v0, v1, v2, v3, v4, v5, v6, v7] st h (fun st' h' => wp (g, mi, d, n0, z0, mc, ms, Q) is pe K ls st' h') := call_of (nA := 9) (st := v7 :: v6 :: v5 :: v4 :: v3 :: v2 :: v1 :: v0 :: .ref a :: st) (F := fun ls' st' h' => wp (g, mi, d, n0, z0, mc, ms, Q) is pe K ls' st' h') rfl rfl (by simp)
theorem wp_iret {o : LK} {v : Int32} {a : MethodName} {b : ByteArray} {m : Nat} {rt : FieldType} : wp (g, (a, b, m, some rt), d, n0, z0, mc, ms, Q) ((.ireturn, l, o, ps) :: is) pe K ls [.int v] (n, z, S, I, J, R) = (narrow rt (.int v) = .int v ∧ n = n0 + mc ∧ z = z0 + ms ∧ Q (some (.int v)) (n, z, S, I, J, R)) := rfl
theorem wp_lret {o : LK} {v : Int64} {a : MethodName} {b : ByteArray} {m : Nat} : wp (g, (a, b, m, some .long), d, n0, z0, mc, ms, Q) ((.lreturn, l, o, ps) :: is) pe K ls [.long v] (n, z, S, I, J, R) = (n = n0 + mc ∧ z = z0 + ms ∧ Q (some (.long v)) (n, z, S, I, J, R)) := propext ⟨fun q => q.2, fun q => ⟨rfl, q⟩⟩
theorem wp_vret {o : LK} {a : MethodName} {b : ByteArray} {m : Nat} : wp (g, (a, b, m, none), d, n0, z0, mc, ms, Q) ((.return_, l, o, ps) :: is) pe K ls [] (n, z, S, I, J, R) = (n = n0 + mc ∧ z = z0 + ms ∧ Q none (n, z, S, I, J, R)) := propext ⟨fun q => q.2, fun q => ⟨rfl, q⟩⟩
theorem na_int {v : Int32} : (narrow .int (.int v) = .int v) = True := eq_true rfl
end Rules
end
section
/-! numbers: Int32 as Int, where nothing overflows -/
theorem ti_lt {a b : Int32} : a < b ↔ a.toInt < b.toInt := Int32.lt_iff_toInt_lt
theorem ti_le {a b : Int32} : a ≤ b ↔ a.toInt ≤ b.toInt := Int32.le_iff_toInt_le
theorem ti_eq {a b : Int32} : a = b ↔ a.toInt = b.toInt := Int32.toInt_inj.symm
theorem ti_lo (a : Int32) : -2147483648 ≤ a.toInt := Int32.le_toInt a
theorem ti_hi (a : Int32) : a.toInt < 2147483648 := Int32.toInt_lt a
theorem bm_id {x : Int} (h1 : -2147483648 ≤ x) (h2 : x < 2147483648) : x.bmod (2 ^ 32) = x := by
  rw [Int.bmod_def]
  have e : ((2 ^ 32 : Nat) : Int) = 4294967296 := by decide
  rw [e]
  split <;> omega
theorem ti_add {a b : Int32} (h1 : -2147483648 ≤ a.toInt + b.toInt) (h2 : a.toInt + b.toInt < 2147483648) : (a + b).toInt = a.toInt + b.toInt := by
  rw [Int32.toInt_add]
  exact bm_id h1 h2
theorem ti_sub {a b : Int32} (h1 : -2147483648 ≤ a.toInt - b.toInt) (h2 : a.toInt - b.toInt < 2147483648) : (a - b).toInt = a.toInt - b.toInt := by
  rw [Int32.toInt_sub]
  exact bm_id h1 h2
theorem ti_mul {a b : Int32} (h1 : -2147483648 ≤ a.toInt * b.toInt) (h2 : a.toInt * b.toInt < 2147483648) : (a * b).toInt = a.toInt * b.toInt := by
  rw [Int32.toInt_mul]
  exact bm_id h1 h2
theorem ti_nI {n : Nat} (h : n < 2147483648) : (nI n).toInt = (n : Int) := nI_toInt h
theorem ti_of {a : Int32} (h : 0 ≤ a.toInt) : ∃ n : Nat, n < 2147483648 ∧ a = nI n ∧ a.toInt = (n : Int) := by
  have h2 := ti_hi a
  refine ⟨a.toInt.toNat, by omega, ?_, by omega⟩
  rw [ti_eq, ti_nI (by omega)]
  omega
theorem ti_clamp {a : Int32} : a.toNatClampNeg = a.toInt.toNat := rfl
theorem vp_nI {k N : Nat} (h : k < N) (hN : N < 2147483648) : vp_in (nI k) N := vp_in_nI h hN
theorem cl_nI {k : Nat} (h : k < 2147483648) : (nI k).toNatClampNeg = k := nI_clamp h
end
section
/-! how contracts are used -/
theorem rs_ok {r : List Value} (h : Nat.ble (rs r) 8 = true) : rs r ≤ 8 := Nat.le_of_ble_eq_true h
/-- what a method without news answers: r, and the heap h' -/
abbrev Is (r : Option Value) (h' : AH) : Option Value → AH → Prop := fun a b => a = r ∧ b = h'
theorem call_is {g : GT} {d n0 z0 mc ms d' mc' ms' : Nat} {m : MI} {as rest : List Value} {h h' : AH} {r : Option Value} {f : List Value → AH → Prop} (hc : Cn g m d' mc' ms' as h (Is r h')) (hd : d' < d) (h1 : h.1 + mc' ≤ n0 + mc) (h2 : h.2.1 + ms' ≤ z0 + ms) (hr : Nat.ble (rs rest) 8 = true) (k : f (r.toList ++ rest) h') : call g d n0 z0 mc ms m as rest h f :=
  ⟨d', mc', ms', _, hc, hd, h1, h2, rs_ok hr, fun a b q _ _ => by rw [q.1, q.2]; exact k⟩
/-- the same, nothing made -/
theorem call_ro {g : GT} {d n0 z0 mc ms d' n z : Nat} {S : Nat → Nat × Nat} {I : Nat → Nat → Int32} {J : Nat → Nat → Int64} {R : Nat → Nat → Option Nat} {m : MI} {as rest : List Value} {h' : AH} {r : Option Value} {f : List Value → AH → Prop} (hc : Cn g m d' 0 0 as (n, z, S, I, J, R) (Is r h')) (hd : d' < d) (hr : Nat.ble (rs rest) 8 = true) (h1 : n ≤ n0 + mc) (h2 : z ≤ z0 + ms) (k : f (r.toList ++ rest) h') : call g d n0 z0 mc ms m as rest (n, z, S, I, J, R) f :=
  call_is hc hd h1 h2 hr k
theorem call_ex {g : GT} {d n0 z0 mc ms d' mc' ms' : Nat} {m : MI} {as rest : List Value} {h : AH} {Q : Option Value → AH → Prop} {f : List Value → AH → Prop} (hc : Cn g m d' mc' ms' as h Q) (hd : d' < d) (h1 : h.1 + mc' ≤ n0 + mc) (h2 : h.2.1 + ms' ≤ z0 + ms) (hr : Nat.ble (rs rest) 8 = true) (k : ∀ (r : Option Value) (h' : AH), Q r h' → h'.1 = h.1 + mc' → h'.2.1 = h.2.1 + ms' → f (r.toList ++ rest) h') : call g d n0 z0 mc ms m as rest h f :=
  ⟨d', mc', ms', _, hc, hd, h1, h2, rs_ok hr, k⟩
theorem up_s {α : Type} (f : Nat → α) (k : Nat) (v : α) : va_up f k v k = v := va_up_self f k v
theorem up_n {α : Type} (f : Nat → α) (k j : Nat) (v : α) (h : Nat.beq j k = false) : va_up f k v j = f j := va_up_ne f v (fun e => by rw [e] at h; simp at h)
theorem up_if {α : Type} (f : Nat → α) (k j : Nat) (v : α) : va_up f k v j = if j = k then v else f j := rfl
theorem toL_some (v : Value) (r : List Value) : (some v).toList ++ r = v :: r := rfl
theorem toL_none (r : List Value) : (none : Option Value).toList ++ r = r := rfl
end
section
/-! code of C, stretch by stretch (written by program) -/
def B_C_init_0 : List IT := [(.aload_n 0, 1, oN 0 0 0, []),
  (.invokespecial 1, 3, oN 0 0 1, [54, 55]),
  (.aload_n 0, 1, oN 0 0 0, []),
  (.lload_n 1, 1, oN 1 0 0, []),
  (.putfield 7, 3, oN 0 0 1, [284]),
  (.aload_n 0, 1, oN 0 0 0, []),
  (.iconst 1, 1, oI 1, []),
  (.iconst 3, 1, oI 3, []),
  (.iload_n 3, 1, oN 3 0 0, []),
  (.invokestatic 13, 3, oN 0 0 2, [57, 58, 41]),
  (.invokestatic 19, 3, oN 0 0 1, [60, 61, 41]),
  (.putfield 22, 3, oN 0 1 0, [285]),
  (.aload_n 0, 1, oN 0 0 0, []),
  (.sipush 1000, 3, oI 1000, []),
  (.ldc 26, 2, oI 100000, [63]),
  (.iload 4, 2, oN 4 0 0, []),
  (.invokestatic 13, 3, oN 0 0 2, [57, 58, 41]),
  (.invokestatic 19, 3, oN 0 0 1, [60, 61, 41]),
  (.putfield 27, 3, oN 0 2 0, [286]),
  (.aload_n 0, 1, oN 0 0 0, []),
  (.new 30, 3, oN 1 6 0, [64, 65, 42]),
  (.dup, 1, oN 0 0 0, []),
  (.aload_n 0, 1, oN 0 0 0, []),
  (.getfield 22, 3, oN 0 1 0, [285]),
  (.aload_n 0, 1, oN 0 0 0, []),
  (.getfield 27, 3, oN 0 2 0, [286]),
  (.invokespecial 32, 3, oM M_Road_init 3 0, [42, 66, 67]),
  (.putfield 35, 3, oN 0 3 2, [287]),
  (.aload_n 0, 1, oN 0 0 0, []),
  (.aload_n 0, 1, oN 0 0 0, []),
  (.getfield 35, 3, oN 0 3 2, [287]),
  (.getfield 39, 3, oN 1 0 2, [262]),
  (.putfield 43, 3, oN 0 4 2, [288]),
  (.aload_n 0, 1, oN 0 0 0, []),
  (.aload_n 0, 1, oN 0 0 0, []),
  (.getfield 35, 3, oN 0 3 2, [287]),
  (.getfield 44, 3, oN 1 1 2, [264]),
  (.putfield 48, 3, oN 0 5 2, [289]),
  (.aload_n 0, 1, oN 0 0 0, []),
  (.iconst 2, 1, oI 2, []),
  (.anewarray 49, 3, oN 1 0 0, [282]),
  (.putfield 51, 3, oN 0 6 2, [290]),
  (.return_, 1, oN 0 0 0, [])]
theorem B_C_init_0_ok : okB M_C_init 0 B_C_init_0 89 = true := by decide +kernel
def B_C_back_0 : List IT := [(.iload_n 1, 1, oN 1 0 0, []),
  (.ifCond .lt 17, 3, oN 18 0 0, []),
  (.iload_n 1, 1, oN 1 0 0, []),
  (.iconst 2, 1, oI 2, []),
  (.if_icmp .ge 12, 3, oN 18 0 0, []),
  (.aload_n 0, 1, oN 0 0 0, []),
  (.getfield 51, 3, oN 0 6 2, [290]),
  (.iload_n 1, 1, oN 1 0 0, []),
  (.aaload, 1, oN 1 0 0, []),
  (.ifnonnull 5, 3, oN 20 0 0, [])]
theorem B_C_back_0_ok : okB M_C_back 0 B_C_back_0 18 = true := by decide +kernel
def B_C_back_18 : List IT := [(.iconst (-1), 1, oI (-1), []),
  (.ireturn, 1, oN 0 0 0, [])]
theorem B_C_back_18_ok : okB M_C_back 18 B_C_back_18 20 = true := by decide +kernel
def B_C_back_20 : List IT := [(.aload_n 0, 1, oN 0 0 0, []),
  (.getfield 48, 3, oN 0 5 2, [289]),
  (.aload_n 0, 1, oN 0 0 0, []),
  (.getfield 51, 3, oN 0 6 2, [290]),
  (.iload_n 1, 1, oN 1 0 0, []),
  (.aaload, 1, oN 1 0 0, []),
  (.invokevirtual 163, 3, oM M_State_copyFrom 2 3, [44, 556, 557, 558]),
  (.aload_n 0, 1, oN 0 0 0, []),
  (.getfield 48, 3, oN 0 5 2, [289]),
  (.getfield 97, 3, oN 3 4 0, [234]),
  (.ireturn, 1, oN 0 0 0, [])]
theorem B_C_back_20_ok : okB M_C_back 20 B_C_back_20 41 = true := by decide +kernel
def B_C_close_0 : List IT := [(.aload_n 0, 1, oN 0 0 0, []),
  (.iload_n 1, 1, oN 1 0 0, []),
  (.invokevirtual 55, 3, oM M_C_isLane 2 0, [40, 310, 312, 0]),
  (.ifCond .eq 11, 3, oN 16 0 0, []),
  (.aload_n 0, 1, oN 0 0 0, []),
  (.iload_n 2, 1, oN 2 0 0, []),
  (.invokevirtual 69, 3, oM M_C_isPlace 2 0, [40, 337, 339, 2]),
  (.ifCond .ne 5, 3, oN 18 0 0, [])]
theorem B_C_close_0_ok : okB M_C_close 0 B_C_close_0 16 = true := by decide +kernel
def B_C_close_16 : List IT := [(.iconst 0, 1, oI 0, []),
  (.ireturn, 1, oN 0 0 0, [])]
theorem B_C_close_16_ok : okB M_C_close 16 B_C_close_16 18 = true := by decide +kernel
def B_C_close_18 : List IT := [(.iload_n 3, 1, oN 3 0 0, []),
  (.ifCond .lt 28, 3, oN 47 0 0, []),
  (.iload_n 3, 1, oN 3 0 0, []),
  (.iload 4, 2, oN 4 0 0, []),
  (.if_icmp .gt 22, 3, oN 47 0 0, []),
  (.aload_n 0, 1, oN 0 0 0, []),
  (.getfield 43, 3, oN 0 4 2, [288]),
  (.iload_n 1, 1, oN 1 0 0, []),
  (.iload_n 2, 1, oN 2 0 0, []),
  (.iload_n 3, 1, oN 3 0 0, []),
  (.iload 4, 2, oN 4 0 0, []),
  (.invokevirtual 78, 3, oM M_Things_addClosed 5 2, [43, 349, 350, 351]),
  (.ifCond .eq 7, 3, oN 47 0 0, []),
  (.iconst 1, 1, oI 1, []),
  (.goto 4, 3, oN 48 0 0, [])]
theorem B_C_close_18_ok : okB M_C_close 18 B_C_close_18 47 = true := by decide +kernel
def B_C_close_47 : List IT := [(.iconst 0, 1, oI 0, [])]
theorem B_C_close_47_ok : okB M_C_close 47 B_C_close_47 48 = true := by decide +kernel
def B_C_close_48 : List IT := [(.ireturn, 1, oN 0 0 0, [])]
theorem B_C_close_48_ok : okB M_C_close 48 B_C_close_48 49 = true := by decide +kernel
def B_C_come_0 : List IT := [(.aload_n 0, 1, oN 0 0 0, []),
  (.iload_n 1, 1, oN 1 0 0, []),
  (.invokevirtual 55, 3, oM M_C_isLane 2 0, [40, 310, 312, 0]),
  (.ifCond .eq 12, 3, oN 17 0 0, []),
  (.iload_n 2, 1, oN 2 0 0, []),
  (.ifCond .eq 10, 3, oN 19 0 0, []),
  (.iload_n 2, 1, oN 2 0 0, []),
  (.iconst 1, 1, oI 1, []),
  (.if_icmp .eq 5, 3, oN 19 0 0, [])]
theorem B_C_come_0_ok : okB M_C_come 0 B_C_come_0 17 = true := by decide +kernel
def B_C_come_17 : List IT := [(.iconst (-1), 1, oI (-1), []),
  (.ireturn, 1, oN 0 0 0, [])]
theorem B_C_come_17_ok : okB M_C_come 17 B_C_come_17 19 = true := by decide +kernel
def B_C_come_19 : List IT := [(.aload_n 0, 1, oN 0 0 0, []),
  (.getfield 48, 3, oN 0 5 2, [289]),
  (.getfield 59, 3, oN 3 0 2, [225]),
  (.aload_n 0, 1, oN 0 0 0, []),
  (.getfield 7, 3, oN 0 0 1, [284]),
  (.iload_n 1, 1, oN 1 0 0, []),
  (.iload_n 2, 1, oN 2 0 0, []),
  (.invokevirtual 63, 3, oM M_Cars_add 4 4, [45, 314, 315, 316]),
  (.ireturn, 1, oN 0 0 0, [])]
theorem B_C_come_19_ok : okB M_C_come 19 B_C_come_19 36 = true := by decide +kernel
def B_C_count_0 : List IT := [(.iload_n 1, 1, oN 1 0 0, []),
  (.tableswitch 140 0 9 #[55, 66, 78, 90, 98, 106, 114, 122, 130, 135], 55, oS 141 [(0, 56), (1, 67), (2, 79), (3, 91), (4, 99), (5, 107), (6, 115), (7, 123), (8, 131), (9, 136)], [])]
theorem B_C_count_0_ok : okB M_C_count 0 B_C_count_0 56 = true := by decide +kernel
def B_C_count_56 : List IT := [(.aload_n 0, 1, oN 0 0 0, []),
  (.getfield 48, 3, oN 0 5 2, [289]),
  (.getfield 59, 3, oN 3 0 2, [225]),
  (.getfield 167, 3, oN 4 12 0, [178]),
  (.ireturn, 1, oN 0 0 0, [])]
theorem B_C_count_56_ok : okB M_C_count 56 B_C_count_56 67 = true := by decide +kernel
def B_C_count_67 : List IT := [(.aload_n 0, 1, oN 0 0 0, []),
  (.getfield 48, 3, oN 0 5 2, [289]),
  (.getfield 59, 3, oN 3 0 2, [225]),
  (.iconst 1, 1, oI 1, []),
  (.invokevirtual 170, 3, oM M_Cars_sizeOf 2 4, [45, 581, 582, 583]),
  (.ireturn, 1, oN 0 0 0, [])]
theorem B_C_count_67_ok : okB M_C_count 67 B_C_count_67 79 = true := by decide +kernel
def B_C_count_79 : List IT := [(.aload_n 0, 1, oN 0 0 0, []),
  (.getfield 48, 3, oN 0 5 2, [289]),
  (.getfield 59, 3, oN 3 0 2, [225]),
  (.iconst 2, 1, oI 2, []),
  (.invokevirtual 170, 3, oM M_Cars_sizeOf 2 4, [45, 581, 582, 583]),
  (.ireturn, 1, oN 0 0 0, [])]
theorem B_C_count_79_ok : okB M_C_count 79 B_C_count_79 91 = true := by decide +kernel
def B_C_count_91 : List IT := [(.aload_n 0, 1, oN 0 0 0, []),
  (.getfield 48, 3, oN 0 5 2, [289]),
  (.getfield 97, 3, oN 3 4 0, [234]),
  (.ireturn, 1, oN 0 0 0, [])]
theorem B_C_count_91_ok : okB M_C_count 91 B_C_count_91 99 = true := by decide +kernel
def B_C_count_99 : List IT := [(.aload_n 0, 1, oN 0 0 0, []),
  (.getfield 43, 3, oN 0 4 2, [288]),
  (.getfield 173, 3, oN 2 10 0, [90]),
  (.ireturn, 1, oN 0 0 0, [])]
theorem B_C_count_99_ok : okB M_C_count 99 B_C_count_99 107 = true := by decide +kernel
def B_C_count_107 : List IT := [(.aload_n 0, 1, oN 0 0 0, []),
  (.getfield 43, 3, oN 0 4 2, [288]),
  (.getfield 176, 3, oN 2 11 0, [92]),
  (.ireturn, 1, oN 0 0 0, [])]
theorem B_C_count_107_ok : okB M_C_count 107 B_C_count_107 115 = true := by decide +kernel
def B_C_count_115 : List IT := [(.aload_n 0, 1, oN 0 0 0, []),
  (.getfield 43, 3, oN 0 4 2, [288]),
  (.getfield 179, 3, oN 2 12 0, [95]),
  (.ireturn, 1, oN 0 0 0, [])]
theorem B_C_count_115_ok : okB M_C_count 115 B_C_count_115 123 = true := by decide +kernel
def B_C_count_123 : List IT := [(.aload_n 0, 1, oN 0 0 0, []),
  (.getfield 43, 3, oN 0 4 2, [288]),
  (.getfield 137, 3, oN 2 13 0, [97]),
  (.ireturn, 1, oN 0 0 0, [])]
theorem B_C_count_123_ok : okB M_C_count 123 B_C_count_123 131 = true := by decide +kernel
def B_C_count_131 : List IT := [(.aload_n 0, 1, oN 0 0 0, []),
  (.getfield 22, 3, oN 0 1 0, [285]),
  (.ireturn, 1, oN 0 0 0, [])]
theorem B_C_count_131_ok : okB M_C_count 131 B_C_count_131 136 = true := by decide +kernel
def B_C_count_136 : List IT := [(.aload_n 0, 1, oN 0 0 0, []),
  (.getfield 27, 3, oN 0 2 0, [286]),
  (.ireturn, 1, oN 0 0 0, [])]
theorem B_C_count_136_ok : okB M_C_count 136 B_C_count_136 141 = true := by decide +kernel
def B_C_count_141 : List IT := [(.iconst (-1), 1, oI (-1), []),
  (.ireturn, 1, oN 0 0 0, [])]
theorem B_C_count_141_ok : okB M_C_count 141 B_C_count_141 143 = true := by decide +kernel
def B_C_counted_0 : List IT := [(.iload_n 1, 1, oN 1 0 0, []),
  (.ifCond .lt 22, 3, oN 23 0 0, []),
  (.iload_n 1, 1, oN 1 0 0, []),
  (.aload_n 0, 1, oN 0 0 0, []),
  (.getfield 43, 3, oN 0 4 2, [288]),
  (.getfield 137, 3, oN 2 13 0, [97]),
  (.if_icmp .ge 11, 3, oN 23 0 0, []),
  (.aload_n 0, 1, oN 0 0 0, []),
  (.iload_n 2, 1, oN 2 0 0, []),
  (.invokevirtual 55, 3, oM M_C_isLane 2 0, [40, 310, 312, 0]),
  (.ifCond .ne 5, 3, oN 25 0 0, [])]
theorem B_C_counted_0_ok : okB M_C_counted 0 B_C_counted_0 23 = true := by decide +kernel
def B_C_counted_23 : List IT := [(.iconst (-1), 1, oI (-1), []),
  (.ireturn, 1, oN 0 0 0, [])]
theorem B_C_counted_23_ok : okB M_C_counted 23 B_C_counted_23 25 = true := by decide +kernel
def B_C_counted_25 : List IT := [(.aload_n 0, 1, oN 0 0 0, []),
  (.getfield 48, 3, oN 0 5 2, [289]),
  (.getfield 140, 3, oN 3 3 2, [230]),
  (.iload_n 1, 1, oN 1 0 0, []),
  (.iconst 3, 1, oI 3, []),
  (.imul, 1, oN 0 0 0, []),
  (.iload_n 2, 1, oN 2 0 0, []),
  (.iadd, 1, oN 0 0 0, []),
  (.iaload, 1, oN 0 0 0, []),
  (.ireturn, 1, oN 0 0 0, [])]
theorem B_C_counted_25_ok : okB M_C_counted 25 B_C_counted_25 39 = true := by decide +kernel
def B_C_drawn_0 : List IT := [(.aload_n 0, 1, oN 0 0 0, []),
  (.iload_n 1, 1, oN 1 0 0, []),
  (.invokevirtual 100, 3, oM M_C_isCar 2 0, [40, 499, 501, 21]),
  (.ifCond .ne 5, 3, oN 10 0 0, []),
  (.iconst (-1), 1, oI (-1), []),
  (.ireturn, 1, oN 0 0 0, [])]
theorem B_C_drawn_0_ok : okB M_C_drawn 0 B_C_drawn_0 10 = true := by decide +kernel
def B_C_drawn_10 : List IT := [(.iload_n 2, 1, oN 2 0 0, []),
  (.tableswitch 64 0 2 #[25, 38, 51], 25, oS 75 [(0, 36), (1, 49), (2, 62)], [])]
theorem B_C_drawn_10_ok : okB M_C_drawn 10 B_C_drawn_10 36 = true := by decide +kernel
def B_C_drawn_36 : List IT := [(.aload_n 0, 1, oN 0 0 0, []),
  (.getfield 48, 3, oN 0 5 2, [289]),
  (.getfield 59, 3, oN 3 0 2, [225]),
  (.getfield 122, 3, oN 4 1 2, [145]),
  (.iload_n 1, 1, oN 1 0 0, []),
  (.iaload, 1, oN 0 0 0, []),
  (.ireturn, 1, oN 0 0 0, [])]
theorem B_C_drawn_36_ok : okB M_C_drawn 36 B_C_drawn_36 49 = true := by decide +kernel
def B_C_drawn_49 : List IT := [(.aload_n 0, 1, oN 0 0 0, []),
  (.getfield 48, 3, oN 0 5 2, [289]),
  (.getfield 59, 3, oN 3 0 2, [225]),
  (.getfield 124, 3, oN 4 2 2, [148]),
  (.iload_n 1, 1, oN 1 0 0, []),
  (.iaload, 1, oN 0 0 0, []),
  (.ireturn, 1, oN 0 0 0, [])]
theorem B_C_drawn_49_ok : okB M_C_drawn 49 B_C_drawn_49 62 = true := by decide +kernel
def B_C_drawn_62 : List IT := [(.aload_n 0, 1, oN 0 0 0, []),
  (.getfield 48, 3, oN 0 5 2, [289]),
  (.getfield 59, 3, oN 3 0 2, [225]),
  (.getfield 127, 3, oN 4 3 2, [150]),
  (.iload_n 1, 1, oN 1 0 0, []),
  (.iaload, 1, oN 0 0 0, []),
  (.ireturn, 1, oN 0 0 0, [])]
theorem B_C_drawn_62_ok : okB M_C_drawn 62 B_C_drawn_62 75 = true := by decide +kernel
def B_C_drawn_75 : List IT := [(.iconst (-1), 1, oI (-1), []),
  (.ireturn, 1, oN 0 0 0, [])]
theorem B_C_drawn_75_ok : okB M_C_drawn 75 B_C_drawn_75 77 = true := by decide +kernel
def B_C_gap_0 : List IT := [(.aload_n 0, 1, oN 0 0 0, []),
  (.iload_n 1, 1, oN 1 0 0, []),
  (.invokevirtual 100, 3, oM M_C_isCar 2 0, [40, 499, 501, 21]),
  (.ifCond .eq 19, 3, oN 24 0 0, []),
  (.aload_n 0, 1, oN 0 0 0, []),
  (.getfield 48, 3, oN 0 5 2, [289]),
  (.getfield 59, 3, oN 3 0 2, [225]),
  (.getfield 103, 3, oN 4 5 2, [157]),
  (.iload_n 1, 1, oN 1 0 0, []),
  (.iaload, 1, oN 0 0 0, []),
  (.iconst 1, 1, oI 1, []),
  (.if_icmp .eq 5, 3, oN 26 0 0, [])]
theorem B_C_gap_0_ok : okB M_C_gap 0 B_C_gap_0 24 = true := by decide +kernel
def B_C_gap_24 : List IT := [(.iconst (-1), 1, oI (-1), []),
  (.ireturn, 1, oN 0 0 0, [])]
theorem B_C_gap_24_ok : okB M_C_gap 24 B_C_gap_24 26 = true := by decide +kernel
def B_C_gap_26 : List IT := [(.aload_n 0, 1, oN 0 0 0, []),
  (.getfield 48, 3, oN 0 5 2, [289]),
  (.getfield 59, 3, oN 3 0 2, [225]),
  (.getfield 107, 3, oN 4 4 2, [153]),
  (.iload_n 1, 1, oN 1 0 0, []),
  (.iaload, 1, oN 0 0 0, []),
  (.istore_n 2, 1, oN 2 0 0, []),
  (.aload_n 0, 1, oN 0 0 0, []),
  (.getfield 35, 3, oN 0 3 2, [287]),
  (.iload_n 2, 1, oN 2 0 0, []),
  (.aload_n 0, 1, oN 0 0 0, []),
  (.getfield 48, 3, oN 0 5 2, [289]),
  (.iload_n 2, 1, oN 2 0 0, []),
  (.aload_n 0, 1, oN 0 0 0, []),
  (.getfield 48, 3, oN 0 5 2, [289]),
  (.getfield 59, 3, oN 3 0 2, [225]),
  (.getfield 110, 3, oN 4 6 2, [161]),
  (.iload_n 1, 1, oN 1 0 0, []),
  (.iaload, 1, oN 0 0 0, []),
  (.invokevirtual 130, 3, oM M_State_rankFor 3 3, [44, 511, 444, 445]),
  (.iload_n 1, 1, oN 1 0 0, []),
  (.invokevirtual 133, 3, oM M_Road_gapIn 4 1, [42, 512, 410, 411]),
  (.ireturn, 1, oN 0 0 0, [])]
theorem B_C_gap_26_ok : okB M_C_gap 26 B_C_gap_26 69 = true := by decide +kernel
def B_C_isCar_0 : List IT := [(.iload_n 1, 1, oN 1 0 0, []),
  (.ifCond .lt 21, 3, oN 22 0 0, []),
  (.iload_n 1, 1, oN 1 0 0, []),
  (.aload_n 0, 1, oN 0 0 0, []),
  (.getfield 48, 3, oN 0 5 2, [289]),
  (.getfield 59, 3, oN 3 0 2, [225]),
  (.getfield 167, 3, oN 4 12 0, [178]),
  (.if_icmp .ge 7, 3, oN 22 0 0, []),
  (.iconst 1, 1, oI 1, []),
  (.goto 4, 3, oN 23 0 0, [])]
theorem B_C_isCar_0_ok : okB M_C_isCar 0 B_C_isCar_0 22 = true := by decide +kernel
def B_C_isCar_22 : List IT := [(.iconst 0, 1, oI 0, [])]
theorem B_C_isCar_22_ok : okB M_C_isCar 22 B_C_isCar_22 23 = true := by decide +kernel
def B_C_isCar_23 : List IT := [(.ireturn, 1, oN 0 0 0, [])]
theorem B_C_isCar_23_ok : okB M_C_isCar 23 B_C_isCar_23 24 = true := by decide +kernel
def B_C_isLane_0 : List IT := [(.iload_n 1, 1, oN 1 0 0, []),
  (.ifCond .lt 15, 3, oN 16 0 0, []),
  (.iload_n 1, 1, oN 1 0 0, []),
  (.aload_n 0, 1, oN 0 0 0, []),
  (.getfield 22, 3, oN 0 1 0, [285]),
  (.if_icmp .ge 7, 3, oN 16 0 0, []),
  (.iconst 1, 1, oI 1, []),
  (.goto 4, 3, oN 17 0 0, [])]
theorem B_C_isLane_0_ok : okB M_C_isLane 0 B_C_isLane_0 16 = true := by decide +kernel
def B_C_isLane_16 : List IT := [(.iconst 0, 1, oI 0, [])]
theorem B_C_isLane_16_ok : okB M_C_isLane 16 B_C_isLane_16 17 = true := by decide +kernel
def B_C_isLane_17 : List IT := [(.ireturn, 1, oN 0 0 0, [])]
theorem B_C_isLane_17_ok : okB M_C_isLane 17 B_C_isLane_17 18 = true := by decide +kernel
def B_C_isPlace_0 : List IT := [(.iload_n 1, 1, oN 1 0 0, []),
  (.ifCond .lt 15, 3, oN 16 0 0, []),
  (.iload_n 1, 1, oN 1 0 0, []),
  (.aload_n 0, 1, oN 0 0 0, []),
  (.getfield 27, 3, oN 0 2 0, [286]),
  (.if_icmp .gt 7, 3, oN 16 0 0, []),
  (.iconst 1, 1, oI 1, []),
  (.goto 4, 3, oN 17 0 0, [])]
theorem B_C_isPlace_0_ok : okB M_C_isPlace 0 B_C_isPlace_0 16 = true := by decide +kernel
def B_C_isPlace_16 : List IT := [(.iconst 0, 1, oI 0, [])]
theorem B_C_isPlace_16_ok : okB M_C_isPlace 16 B_C_isPlace_16 17 = true := by decide +kernel
def B_C_isPlace_17 : List IT := [(.ireturn, 1, oN 0 0 0, [])]
theorem B_C_isPlace_17_ok : okB M_C_isPlace 17 B_C_isPlace_17 18 = true := by decide +kernel
def B_C_light_0 : List IT := [(.aload_n 0, 1, oN 0 0 0, []),
  (.iload_n 1, 1, oN 1 0 0, []),
  (.invokevirtual 69, 3, oM M_C_isPlace 2 0, [40, 337, 339, 2]),
  (.ifCond .eq 15, 3, oN 20 0 0, []),
  (.iload_n 3, 1, oN 3 0 0, []),
  (.iconst 1, 1, oI 1, []),
  (.if_icmp .lt 10, 3, oN 20 0 0, []),
  (.iload_n 3, 1, oN 3 0 0, []),
  (.sipush 2000, 3, oI 2000, []),
  (.if_icmp .le 5, 3, oN 22 0 0, [])]
theorem B_C_light_0_ok : okB M_C_light 0 B_C_light_0 20 = true := by decide +kernel
def B_C_light_20 : List IT := [(.iconst 0, 1, oI 0, []),
  (.ireturn, 1, oN 0 0 0, [])]
theorem B_C_light_20_ok : okB M_C_light 20 B_C_light_20 22 = true := by decide +kernel
def B_C_light_22 : List IT := [(.iload_n 2, 1, oN 2 0 0, []),
  (.ifCond .lt 25, 3, oN 48 0 0, []),
  (.iload_n 2, 1, oN 2 0 0, []),
  (.iload_n 3, 1, oN 3 0 0, []),
  (.if_icmp .gt 20, 3, oN 48 0 0, []),
  (.aload_n 0, 1, oN 0 0 0, []),
  (.getfield 43, 3, oN 0 4 2, [288]),
  (.iload_n 1, 1, oN 1 0 0, []),
  (.iload_n 2, 1, oN 2 0 0, []),
  (.iload_n 3, 1, oN 3 0 0, []),
  (.invokevirtual 72, 3, oM M_Things_addLight 4 2, [43, 341, 342, 343]),
  (.ifCond .eq 7, 3, oN 48 0 0, []),
  (.iconst 1, 1, oI 1, []),
  (.goto 4, 3, oN 49 0 0, [])]
theorem B_C_light_22_ok : okB M_C_light 22 B_C_light_22 48 = true := by decide +kernel
def B_C_light_48 : List IT := [(.iconst 0, 1, oI 0, [])]
theorem B_C_light_48_ok : okB M_C_light 48 B_C_light_48 49 = true := by decide +kernel
def B_C_light_49 : List IT := [(.ireturn, 1, oN 0 0 0, [])]
theorem B_C_light_49_ok : okB M_C_light 49 B_C_light_49 50 = true := by decide +kernel
def B_C_line_0 : List IT := [(.aload_n 0, 1, oN 0 0 0, []),
  (.iload_n 1, 1, oN 1 0 0, []),
  (.invokevirtual 69, 3, oM M_C_isPlace 2 0, [40, 337, 339, 2]),
  (.ifCond .eq 14, 3, oN 19 0 0, []),
  (.aload_n 0, 1, oN 0 0 0, []),
  (.getfield 43, 3, oN 0 4 2, [288]),
  (.iload_n 1, 1, oN 1 0 0, []),
  (.invokevirtual 86, 3, oM M_Things_addLine 2 2, [43, 365, 366, 367]),
  (.goto 4, 3, oN 20 0 0, [])]
theorem B_C_line_0_ok : okB M_C_line 0 B_C_line_0 19 = true := by decide +kernel
def B_C_line_19 : List IT := [(.iconst (-1), 1, oI (-1), [])]
theorem B_C_line_19_ok : okB M_C_line 19 B_C_line_19 20 = true := by decide +kernel
def B_C_line_20 : List IT := [(.ireturn, 1, oN 0 0 0, [])]
theorem B_C_line_20_ok : okB M_C_line 20 B_C_line_20 21 = true := by decide +kernel
def B_C_many_0 : List IT := [(.iload_n 1, 1, oN 1 0 0, []),
  (.tableswitch 51 0 2 #[27, 35, 43], 27, oS 52 [(0, 28), (1, 36), (2, 44)], [])]
theorem B_C_many_0_ok : okB M_C_many 0 B_C_many_0 28 = true := by decide +kernel
def B_C_many_28 : List IT := [(.aload_n 0, 1, oN 0 0 0, []),
  (.getfield 48, 3, oN 0 5 2, [289]),
  (.getfield 147, 3, oN 3 5 0, [236]),
  (.ireturn, 1, oN 0 0 0, [])]
theorem B_C_many_28_ok : okB M_C_many 28 B_C_many_28 36 = true := by decide +kernel
def B_C_many_36 : List IT := [(.aload_n 0, 1, oN 0 0 0, []),
  (.getfield 48, 3, oN 0 5 2, [289]),
  (.getfield 150, 3, oN 3 6 0, [239]),
  (.ireturn, 1, oN 0 0 0, [])]
theorem B_C_many_36_ok : okB M_C_many 36 B_C_many_36 44 = true := by decide +kernel
def B_C_many_44 : List IT := [(.aload_n 0, 1, oN 0 0 0, []),
  (.getfield 48, 3, oN 0 5 2, [289]),
  (.getfield 153, 3, oN 3 7 0, [242]),
  (.ireturn, 1, oN 0 0 0, [])]
theorem B_C_many_44_ok : okB M_C_many 44 B_C_many_44 52 = true := by decide +kernel
def B_C_many_52 : List IT := [(.iconst (-1), 1, oI (-1), []),
  (.ireturn, 1, oN 0 0 0, [])]
theorem B_C_many_52_ok : okB M_C_many 52 B_C_many_52 54 = true := by decide +kernel
def B_C_ordered_0 : List IT := [(.aload_n 0, 1, oN 0 0 0, []),
  (.getfield 48, 3, oN 0 5 2, [289]),
  (.getfield 59, 3, oN 3 0 2, [225]),
  (.invokevirtual 159, 3, oM M_Cars_haveNoPlaceInCommon 1 4, [45, 542, 543, 544]),
  (.ireturn, 1, oN 0 0 0, [])]
theorem B_C_ordered_0_ok : okB M_C_ordered 0 B_C_ordered_0 11 = true := by decide +kernel
def B_C_run_0 : List IT := [(.iload_n 1, 1, oN 1 0 0, []),
  (.iconst 1, 1, oI 1, []),
  (.if_icmp .lt 10, 3, oN 12 0 0, []),
  (.iload_n 1, 1, oN 1 0 0, []),
  (.sipush 1000, 3, oI 1000, []),
  (.if_icmp .le 5, 3, oN 14 0 0, [])]
theorem B_C_run_0_ok : okB M_C_run 0 B_C_run_0 12 = true := by decide +kernel
def B_C_run_12 : List IT := [(.iconst (-1), 1, oI (-1), []),
  (.ireturn, 1, oN 0 0 0, [])]
theorem B_C_run_12_ok : okB M_C_run 12 B_C_run_12 14 = true := by decide +kernel
def B_C_run_14 : List IT := [(.iconst 0, 1, oI 0, []),
  (.istore_n 2, 1, oN 2 0 0, [])]
theorem B_C_run_14_ok : okB M_C_run 14 B_C_run_14 16 = true := by decide +kernel
def B_C_run_16 : List IT := [(.iload_n 2, 1, oN 2 0 0, []),
  (.iload_n 1, 1, oN 1 0 0, []),
  (.if_icmp .ge 26, 3, oN 44 0 0, []),
  (.aload_n 0, 1, oN 0 0 0, []),
  (.getfield 35, 3, oN 0 3 2, [287]),
  (.invokevirtual 90, 3, oM M_Road_isIdle 1 1, [42, 373, 374, 375]),
  (.ifCond .ne 16, 3, oN 44 0 0, []),
  (.aload_n 0, 1, oN 0 0 0, []),
  (.getfield 35, 3, oN 0 3 2, [287]),
  (.invokevirtual 94, 3, oM M_Road_doStep 1 1, [42, 385, 386, 387]),
  (.iinc 2 1, 3, oJ 2 1, []),
  (.goto (-25), 3, oN 16 0 0, [])]
theorem B_C_run_16_ok : okB M_C_run 16 B_C_run_16 44 = true := by decide +kernel
def B_C_run_44 : List IT := [(.aload_n 0, 1, oN 0 0 0, []),
  (.getfield 48, 3, oN 0 5 2, [289]),
  (.dup, 1, oN 0 0 0, []),
  (.getfield 97, 3, oN 3 4 0, [234]),
  (.iload_n 1, 1, oN 1 0 0, []),
  (.iload_n 2, 1, oN 2 0 0, []),
  (.isub, 1, oN 0 0 0, []),
  (.iadd, 1, oN 0 0 0, []),
  (.putfield 97, 3, oN 3 4 0, [234]),
  (.aload_n 0, 1, oN 0 0 0, []),
  (.getfield 48, 3, oN 0 5 2, [289]),
  (.getfield 97, 3, oN 3 4 0, [234]),
  (.ireturn, 1, oN 0 0 0, [])]
theorem B_C_run_44_ok : okB M_C_run 44 B_C_run_44 67 = true := by decide +kernel
def B_C_save_0 : List IT := [(.iload_n 1, 1, oN 1 0 0, []),
  (.ifCond .lt 8, 3, oN 9 0 0, []),
  (.iload_n 1, 1, oN 1 0 0, []),
  (.iconst 2, 1, oI 2, []),
  (.if_icmp .lt 5, 3, oN 11 0 0, [])]
theorem B_C_save_0_ok : okB M_C_save 0 B_C_save_0 9 = true := by decide +kernel
def B_C_save_9 : List IT := [(.iconst (-1), 1, oI (-1), []),
  (.ireturn, 1, oN 0 0 0, [])]
theorem B_C_save_9_ok : okB M_C_save 9 B_C_save_9 11 = true := by decide +kernel
def B_C_save_11 : List IT := [(.aload_n 0, 1, oN 0 0 0, []),
  (.getfield 51, 3, oN 0 6 2, [290]),
  (.iload_n 1, 1, oN 1 0 0, []),
  (.aaload, 1, oN 1 0 0, []),
  (.ifnonnull 16, 3, oN 33 0 0, []),
  (.aload_n 0, 1, oN 0 0 0, []),
  (.getfield 51, 3, oN 0 6 2, [290]),
  (.iload_n 1, 1, oN 1 0 0, []),
  (.new 49, 3, oN 3 8 0, [282, 130, 44]),
  (.dup, 1, oN 0 0 0, []),
  (.invokespecial 162, 3, oM M_State_init 1 0, [44, 9999, 132]),
  (.aastore, 1, oN 1 3 0, [])]
theorem B_C_save_11_ok : okB M_C_save 11 B_C_save_11 33 = true := by decide +kernel
def B_C_save_33 : List IT := [(.aload_n 0, 1, oN 0 0 0, []),
  (.getfield 51, 3, oN 0 6 2, [290]),
  (.iload_n 1, 1, oN 1 0 0, []),
  (.aaload, 1, oN 1 0 0, []),
  (.aload_n 0, 1, oN 0 0 0, []),
  (.getfield 48, 3, oN 0 5 2, [289]),
  (.invokevirtual 163, 3, oM M_State_copyFrom 2 3, [44, 556, 557, 558]),
  (.aload_n 0, 1, oN 0 0 0, []),
  (.getfield 48, 3, oN 0 5 2, [289]),
  (.getfield 97, 3, oN 3 4 0, [234]),
  (.ireturn, 1, oN 0 0 0, [])]
theorem B_C_save_33_ok : okB M_C_save 33 B_C_save_33 54 = true := by decide +kernel
def B_C_stop_0 : List IT := [(.aload_n 0, 1, oN 0 0 0, []),
  (.iload_n 1, 1, oN 1 0 0, []),
  (.invokevirtual 69, 3, oM M_C_isPlace 2 0, [40, 337, 339, 2]),
  (.ifCond .eq 15, 3, oN 20 0 0, []),
  (.iload_n 2, 1, oN 2 0 0, []),
  (.iconst 1, 1, oI 1, []),
  (.if_icmp .lt 10, 3, oN 20 0 0, []),
  (.iload_n 2, 1, oN 2 0 0, []),
  (.sipush 500, 3, oI 500, []),
  (.if_icmp .le 5, 3, oN 22 0 0, [])]
theorem B_C_stop_0_ok : okB M_C_stop 0 B_C_stop_0 20 = true := by decide +kernel
def B_C_stop_20 : List IT := [(.iconst 0, 1, oI 0, []),
  (.ireturn, 1, oN 0 0 0, [])]
theorem B_C_stop_20_ok : okB M_C_stop 20 B_C_stop_20 22 = true := by decide +kernel
def B_C_stop_22 : List IT := [(.aload_n 0, 1, oN 0 0 0, []),
  (.getfield 43, 3, oN 0 4 2, [288]),
  (.iload_n 1, 1, oN 1 0 0, []),
  (.iload_n 2, 1, oN 2 0 0, []),
  (.invokevirtual 82, 3, oM M_Things_addStop 3 2, [43, 357, 358, 359]),
  (.ireturn, 1, oN 0 0 0, [])]
theorem B_C_stop_22_ok : okB M_C_stop 22 B_C_stop_22 32 = true := by decide +kernel
def B_C_times_0 : List IT := [(.aload_n 0, 1, oN 0 0 0, []),
  (.getfield 48, 3, oN 0 5 2, [289]),
  (.getfield 59, 3, oN 3 0 2, [225]),
  (.invokevirtual 143, 3, oM M_Cars_stepsOfGone 1 4, [45, 521, 522, 523]),
  (.ireturn, 1, oN 0 0 0, [])]
theorem B_C_times_0_ok : okB M_C_times 0 B_C_times_0 11 = true := by decide +kernel
def B_C_told_0 : List IT := [(.aload_n 0, 1, oN 0 0 0, []),
  (.iload_n 1, 1, oN 1 0 0, []),
  (.invokevirtual 100, 3, oM M_C_isCar 2 0, [40, 499, 501, 21]),
  (.ifCond .ne 5, 3, oN 10 0 0, []),
  (.iconst (-1), 1, oI (-1), []),
  (.ireturn, 1, oN 0 0 0, [])]
theorem B_C_told_0_ok : okB M_C_told 0 B_C_told_0 10 = true := by decide +kernel
def B_C_told_10 : List IT := [(.iload_n 2, 1, oN 2 0 0, []),
  (.tableswitch 115 0 5 #[37, 50, 63, 76, 89, 102], 37, oS 126 [(0, 48), (1, 61), (2, 74), (3, 87), (4, 100), (5, 113)], [])]
theorem B_C_told_10_ok : okB M_C_told 10 B_C_told_10 48 = true := by decide +kernel
def B_C_told_48 : List IT := [(.aload_n 0, 1, oN 0 0 0, []),
  (.getfield 48, 3, oN 0 5 2, [289]),
  (.getfield 59, 3, oN 3 0 2, [225]),
  (.getfield 103, 3, oN 4 5 2, [157]),
  (.iload_n 1, 1, oN 1 0 0, []),
  (.iaload, 1, oN 0 0 0, []),
  (.ireturn, 1, oN 0 0 0, [])]
theorem B_C_told_48_ok : okB M_C_told 48 B_C_told_48 61 = true := by decide +kernel
def B_C_told_61 : List IT := [(.aload_n 0, 1, oN 0 0 0, []),
  (.getfield 48, 3, oN 0 5 2, [289]),
  (.getfield 59, 3, oN 3 0 2, [225]),
  (.getfield 107, 3, oN 4 4 2, [153]),
  (.iload_n 1, 1, oN 1 0 0, []),
  (.iaload, 1, oN 0 0 0, []),
  (.ireturn, 1, oN 0 0 0, [])]
theorem B_C_told_61_ok : okB M_C_told 61 B_C_told_61 74 = true := by decide +kernel
def B_C_told_74 : List IT := [(.aload_n 0, 1, oN 0 0 0, []),
  (.getfield 48, 3, oN 0 5 2, [289]),
  (.getfield 59, 3, oN 3 0 2, [225]),
  (.getfield 110, 3, oN 4 6 2, [161]),
  (.iload_n 1, 1, oN 1 0 0, []),
  (.iaload, 1, oN 0 0 0, []),
  (.ireturn, 1, oN 0 0 0, [])]
theorem B_C_told_74_ok : okB M_C_told 74 B_C_told_74 87 = true := by decide +kernel
def B_C_told_87 : List IT := [(.aload_n 0, 1, oN 0 0 0, []),
  (.getfield 48, 3, oN 0 5 2, [289]),
  (.getfield 59, 3, oN 3 0 2, [225]),
  (.getfield 113, 3, oN 4 7 2, [163]),
  (.iload_n 1, 1, oN 1 0 0, []),
  (.iaload, 1, oN 0 0 0, []),
  (.ireturn, 1, oN 0 0 0, [])]
theorem B_C_told_87_ok : okB M_C_told 87 B_C_told_87 100 = true := by decide +kernel
def B_C_told_100 : List IT := [(.aload_n 0, 1, oN 0 0 0, []),
  (.getfield 48, 3, oN 0 5 2, [289]),
  (.getfield 59, 3, oN 3 0 2, [225]),
  (.getfield 116, 3, oN 4 8 2, [167]),
  (.iload_n 1, 1, oN 1 0 0, []),
  (.iaload, 1, oN 0 0 0, []),
  (.ireturn, 1, oN 0 0 0, [])]
theorem B_C_told_100_ok : okB M_C_told 100 B_C_told_100 113 = true := by decide +kernel
def B_C_told_113 : List IT := [(.aload_n 0, 1, oN 0 0 0, []),
  (.getfield 48, 3, oN 0 5 2, [289]),
  (.getfield 59, 3, oN 3 0 2, [225]),
  (.getfield 119, 3, oN 4 9 2, [169]),
  (.iload_n 1, 1, oN 1 0 0, []),
  (.iaload, 1, oN 0 0 0, []),
  (.ireturn, 1, oN 0 0 0, [])]
theorem B_C_told_113_ok : okB M_C_told 113 B_C_told_113 126 = true := by decide +kernel
def B_C_told_126 : List IT := [(.iconst (-1), 1, oI (-1), []),
  (.ireturn, 1, oN 0 0 0, [])]
theorem B_C_told_126_ok : okB M_C_told 126 B_C_told_126 128 = true := by decide +kernel
def B_C_waiting_0 : List IT := [(.aload_n 0, 1, oN 0 0 0, []),
  (.iload_n 1, 1, oN 1 0 0, []),
  (.invokevirtual 55, 3, oM M_C_isLane 2 0, [40, 310, 312, 0]),
  (.ifCond .eq 17, 3, oN 22 0 0, []),
  (.aload_n 0, 1, oN 0 0 0, []),
  (.getfield 48, 3, oN 0 5 2, [289]),
  (.getfield 59, 3, oN 3 0 2, [225]),
  (.iload_n 1, 1, oN 1 0 0, []),
  (.invokevirtual 156, 3, oM M_Cars_waitersFor 2 4, [45, 533, 534, 535]),
  (.goto 4, 3, oN 23 0 0, [])]
theorem B_C_waiting_0_ok : okB M_C_waiting 0 B_C_waiting_0 22 = true := by decide +kernel
def B_C_waiting_22 : List IT := [(.iconst (-1), 1, oI (-1), [])]
theorem B_C_waiting_22_ok : okB M_C_waiting 22 B_C_waiting_22 23 = true := by decide +kernel
def B_C_waiting_23 : List IT := [(.ireturn, 1, oN 0 0 0, [])]
theorem B_C_waiting_23_ok : okB M_C_waiting 23 B_C_waiting_23 24 = true := by decide +kernel
end
section
/-! code of Cars, stretch by stretch (written by program) -/
def B_Cars_init_0 : List IT := [(.aload_n 0, 1, oN 0 0 0, []),
  (.invokespecial 3, 3, oN 0 0 1, [140, 55]),
  (.aload_n 0, 1, oN 0 0 0, []),
  (.bipush 60, 2, oI 60, []),
  (.newarray .int, 2, oN 0 0 0, [128]),
  (.putfield 9, 3, oN 4 0 2, [141]),
  (.aload_n 0, 1, oN 0 0 0, []),
  (.bipush 60, 2, oI 60, []),
  (.newarray .int, 2, oN 0 0 0, [128]),
  (.putfield 15, 3, oN 4 1 2, [143]),
  (.aload_n 0, 1, oN 0 0 0, []),
  (.bipush 60, 2, oI 60, []),
  (.newarray .int, 2, oN 0 0 0, [128]),
  (.putfield 18, 3, oN 4 2 2, [146]),
  (.aload_n 0, 1, oN 0 0 0, []),
  (.bipush 60, 2, oI 60, []),
  (.newarray .int, 2, oN 0 0 0, [128]),
  (.putfield 21, 3, oN 4 3 2, [149]),
  (.aload_n 0, 1, oN 0 0 0, []),
  (.bipush 60, 2, oI 60, []),
  (.newarray .int, 2, oN 0 0 0, [128]),
  (.putfield 24, 3, oN 4 4 2, [152]),
  (.aload_n 0, 1, oN 0 0 0, []),
  (.bipush 60, 2, oI 60, []),
  (.newarray .int, 2, oN 0 0 0, [128]),
  (.putfield 27, 3, oN 4 5 2, [155]),
  (.aload_n 0, 1, oN 0 0 0, []),
  (.bipush 60, 2, oI 60, []),
  (.newarray .int, 2, oN 0 0 0, [128]),
  (.putfield 30, 3, oN 4 6 2, [158]),
  (.aload_n 0, 1, oN 0 0 0, []),
  (.bipush 60, 2, oI 60, []),
  (.newarray .int, 2, oN 0 0 0, [128]),
  (.putfield 33, 3, oN 4 7 2, [162]),
  (.aload_n 0, 1, oN 0 0 0, []),
  (.bipush 60, 2, oI 60, []),
  (.newarray .int, 2, oN 0 0 0, [128]),
  (.putfield 36, 3, oN 4 8 2, [165]),
  (.aload_n 0, 1, oN 0 0 0, []),
  (.bipush 60, 2, oI 60, []),
  (.newarray .int, 2, oN 0 0 0, [128]),
  (.putfield 39, 3, oN 4 9 2, [168]),
  (.aload_n 0, 1, oN 0 0 0, []),
  (.bipush 60, 2, oI 60, []),
  (.newarray .int, 2, oN 0 0 0, [128]),
  (.putfield 42, 3, oN 4 10 2, [171]),
  (.aload_n 0, 1, oN 0 0 0, []),
  (.sipush 240, 3, oI 240, []),
  (.newarray .int, 2, oN 0 0 0, [128]),
  (.putfield 45, 3, oN 4 11 2, [173]),
  (.return_, 1, oN 0 0 0, [])]
theorem B_Cars_init_0_ok : okB M_Cars_init 0 B_Cars_init_0 102 = true := by decide +kernel
def B_Cars_add_0 : List IT := [(.aload_n 0, 1, oN 0 0 0, []),
  (.getfield 48, 3, oN 4 12 0, [175]),
  (.bipush 60, 2, oI 60, []),
  (.if_icmp .lt 5, 3, oN 11 0 0, []),
  (.iconst (-1), 1, oI (-1), []),
  (.ireturn, 1, oN 0 0 0, [])]
theorem B_Cars_add_0_ok : okB M_Cars_add 0 B_Cars_add_0 11 = true := by decide +kernel
def B_Cars_add_11 : List IT := [(.aload_n 0, 1, oN 0 0 0, []),
  (.getfield 48, 3, oN 4 12 0, [175]),
  (.istore 5, 2, oN 5 0 0, []),
  (.aload_n 0, 1, oN 0 0 0, []),
  (.dup, 1, oN 0 0 0, []),
  (.getfield 48, 3, oN 4 12 0, [175]),
  (.iconst 1, 1, oI 1, []),
  (.iadd, 1, oN 0 0 0, []),
  (.putfield 48, 3, oN 4 12 0, [175]),
  (.aload_n 0, 1, oN 0 0 0, []),
  (.getfield 9, 3, oN 4 0 2, [141]),
  (.iload 5, 2, oN 5 0 0, []),
  (.iload 4, 2, oN 4 0 0, []),
  (.iastore, 1, oN 0 0 0, []),
  (.aload_n 0, 1, oN 0 0 0, []),
  (.getfield 24, 3, oN 4 4 2, [152]),
  (.iload 5, 2, oN 5 0 0, []),
  (.iload_n 3, 1, oN 3 0 0, []),
  (.iastore, 1, oN 0 0 0, []),
  (.aload_n 0, 1, oN 0 0 0, []),
  (.getfield 27, 3, oN 4 5 2, [155]),
  (.iload 5, 2, oN 5 0 0, []),
  (.iconst 0, 1, oI 0, []),
  (.iastore, 1, oN 0 0 0, []),
  (.aload_n 0, 1, oN 0 0 0, []),
  (.getfield 30, 3, oN 4 6 2, [158]),
  (.iload 5, 2, oN 5 0 0, []),
  (.iconst 0, 1, oI 0, []),
  (.iastore, 1, oN 0 0 0, []),
  (.aload_n 0, 1, oN 0 0 0, []),
  (.getfield 33, 3, oN 4 7 2, [162]),
  (.iload 5, 2, oN 5 0 0, []),
  (.iconst 0, 1, oI 0, []),
  (.iastore, 1, oN 0 0 0, []),
  (.aload_n 0, 1, oN 0 0 0, []),
  (.getfield 36, 3, oN 4 8 2, [165]),
  (.iload 5, 2, oN 5 0 0, []),
  (.iconst (-1), 1, oI (-1), []),
  (.iastore, 1, oN 0 0 0, []),
  (.aload_n 0, 1, oN 0 0 0, []),
  (.getfield 39, 3, oN 4 9 2, [168]),
  (.iload 5, 2, oN 5 0 0, []),
  (.iconst (-1), 1, oI (-1), []),
  (.iastore, 1, oN 0 0 0, []),
  (.aload_n 0, 1, oN 0 0 0, []),
  (.getfield 42, 3, oN 4 10 2, [171]),
  (.iload 5, 2, oN 5 0 0, []),
  (.iconst (-1), 1, oI (-1), []),
  (.iastore, 1, oN 0 0 0, []),
  (.aload_n 0, 1, oN 0 0 0, []),
  (.lload_n 1, 1, oN 1 0 0, []),
  (.iload 5, 2, oN 5 0 0, []),
  (.invokevirtual 52, 3, oM M_Cars_draw 3 4, [45, 318, 320, 1]),
  (.iload 5, 2, oN 5 0 0, []),
  (.ireturn, 1, oN 0 0 0, [])]
theorem B_Cars_add_11_ok : okB M_Cars_add 11 B_Cars_add_11 102 = true := by decide +kernel
def B_Cars_copyFrom_0 : List IT := [(.aload_n 1, 1, oN 1 0 0, []),
  (.getfield 9, 3, oN 4 0 2, [141]),
  (.iconst 0, 1, oI 0, []),
  (.aload_n 0, 1, oN 0 0 0, []),
  (.getfield 9, 3, oN 4 0 2, [141]),
  (.iconst 0, 1, oI 0, []),
  (.bipush 60, 2, oI 60, []),
  (.invokestatic 85, 3, oN 0 0 3, [564, 566, 565, 48]),
  (.aload_n 1, 1, oN 1 0 0, []),
  (.getfield 15, 3, oN 4 1 2, [143]),
  (.iconst 0, 1, oI 0, []),
  (.aload_n 0, 1, oN 0 0 0, []),
  (.getfield 15, 3, oN 4 1 2, [143]),
  (.iconst 0, 1, oI 0, []),
  (.bipush 60, 2, oI 60, []),
  (.invokestatic 85, 3, oN 0 0 3, [564, 566, 565, 48]),
  (.aload_n 1, 1, oN 1 0 0, []),
  (.getfield 18, 3, oN 4 2 2, [146]),
  (.iconst 0, 1, oI 0, []),
  (.aload_n 0, 1, oN 0 0 0, []),
  (.getfield 18, 3, oN 4 2 2, [146]),
  (.iconst 0, 1, oI 0, []),
  (.bipush 60, 2, oI 60, []),
  (.invokestatic 85, 3, oN 0 0 3, [564, 566, 565, 48]),
  (.aload_n 1, 1, oN 1 0 0, []),
  (.getfield 21, 3, oN 4 3 2, [149]),
  (.iconst 0, 1, oI 0, []),
  (.aload_n 0, 1, oN 0 0 0, []),
  (.getfield 21, 3, oN 4 3 2, [149]),
  (.iconst 0, 1, oI 0, []),
  (.bipush 60, 2, oI 60, []),
  (.invokestatic 85, 3, oN 0 0 3, [564, 566, 565, 48]),
  (.aload_n 1, 1, oN 1 0 0, []),
  (.getfield 24, 3, oN 4 4 2, [152]),
  (.iconst 0, 1, oI 0, []),
  (.aload_n 0, 1, oN 0 0 0, []),
  (.getfield 24, 3, oN 4 4 2, [152]),
  (.iconst 0, 1, oI 0, []),
  (.bipush 60, 2, oI 60, []),
  (.invokestatic 85, 3, oN 0 0 3, [564, 566, 565, 48]),
  (.aload_n 1, 1, oN 1 0 0, []),
  (.getfield 27, 3, oN 4 5 2, [155]),
  (.iconst 0, 1, oI 0, []),
  (.aload_n 0, 1, oN 0 0 0, []),
  (.getfield 27, 3, oN 4 5 2, [155]),
  (.iconst 0, 1, oI 0, []),
  (.bipush 60, 2, oI 60, []),
  (.invokestatic 85, 3, oN 0 0 3, [564, 566, 565, 48]),
  (.aload_n 1, 1, oN 1 0 0, []),
  (.getfield 30, 3, oN 4 6 2, [158]),
  (.iconst 0, 1, oI 0, []),
  (.aload_n 0, 1, oN 0 0 0, []),
  (.getfield 30, 3, oN 4 6 2, [158]),
  (.iconst 0, 1, oI 0, []),
  (.bipush 60, 2, oI 60, []),
  (.invokestatic 85, 3, oN 0 0 3, [564, 566, 565, 48]),
  (.aload_n 1, 1, oN 1 0 0, []),
  (.getfield 33, 3, oN 4 7 2, [162]),
  (.iconst 0, 1, oI 0, []),
  (.aload_n 0, 1, oN 0 0 0, []),
  (.getfield 33, 3, oN 4 7 2, [162]),
  (.iconst 0, 1, oI 0, []),
  (.bipush 60, 2, oI 60, []),
  (.invokestatic 85, 3, oN 0 0 3, [564, 566, 565, 48]),
  (.aload_n 1, 1, oN 1 0 0, []),
  (.getfield 36, 3, oN 4 8 2, [165]),
  (.iconst 0, 1, oI 0, []),
  (.aload_n 0, 1, oN 0 0 0, []),
  (.getfield 36, 3, oN 4 8 2, [165]),
  (.iconst 0, 1, oI 0, []),
  (.bipush 60, 2, oI 60, []),
  (.invokestatic 85, 3, oN 0 0 3, [564, 566, 565, 48]),
  (.aload_n 1, 1, oN 1 0 0, []),
  (.getfield 39, 3, oN 4 9 2, [168]),
  (.iconst 0, 1, oI 0, []),
  (.aload_n 0, 1, oN 0 0 0, []),
  (.getfield 39, 3, oN 4 9 2, [168]),
  (.iconst 0, 1, oI 0, []),
  (.bipush 60, 2, oI 60, []),
  (.invokestatic 85, 3, oN 0 0 3, [564, 566, 565, 48]),
  (.aload_n 1, 1, oN 1 0 0, []),
  (.getfield 42, 3, oN 4 10 2, [171]),
  (.iconst 0, 1, oI 0, []),
  (.aload_n 0, 1, oN 0 0 0, []),
  (.getfield 42, 3, oN 4 10 2, [171]),
  (.iconst 0, 1, oI 0, []),
  (.bipush 60, 2, oI 60, []),
  (.invokestatic 85, 3, oN 0 0 3, [564, 566, 565, 48]),
  (.aload_n 1, 1, oN 1 0 0, []),
  (.getfield 45, 3, oN 4 11 2, [173]),
  (.iconst 0, 1, oI 0, []),
  (.aload_n 0, 1, oN 0 0 0, []),
  (.getfield 45, 3, oN 4 11 2, [173]),
  (.iconst 0, 1, oI 0, []),
  (.sipush 240, 3, oI 240, []),
  (.invokestatic 85, 3, oN 0 0 3, [564, 566, 565, 48]),
  (.aload_n 0, 1, oN 0 0 0, []),
  (.aload_n 1, 1, oN 1 0 0, []),
  (.getfield 48, 3, oN 4 12 0, [175]),
  (.putfield 48, 3, oN 4 12 0, [175]),
  (.return_, 1, oN 0 0 0, [])]
theorem B_Cars_copyFrom_0_ok : okB M_Cars_copyFrom 0 B_Cars_copyFrom_0 190 = true := by decide +kernel
def B_Cars_draw_0 : List IT := [(.aload_n 0, 1, oN 0 0 0, []),
  (.getfield 9, 3, oN 4 0 2, [141]),
  (.iload_n 3, 1, oN 3 0 0, []),
  (.iaload, 1, oN 0 0 0, []),
  (.iconst 1, 1, oI 1, []),
  (.if_icmp .ne 7, 3, oN 14 0 0, []),
  (.iconst 1, 1, oI 1, []),
  (.goto 4, 3, oN 15 0 0, [])]
theorem B_Cars_draw_0_ok : okB M_Cars_draw 0 B_Cars_draw_0 14 = true := by decide +kernel
def B_Cars_draw_14 : List IT := [(.iconst 0, 1, oI 0, [])]
theorem B_Cars_draw_14_ok : okB M_Cars_draw 14 B_Cars_draw_14 15 = true := by decide +kernel
def B_Cars_draw_15 : List IT := [(.istore 4, 2, oN 4 0 0, []),
  (.lload_n 1, 1, oN 1 0 0, []),
  (.ldc2_w 56, 3, oL 7919, [322]),
  (.iload_n 3, 1, oN 3 0 0, []),
  (.i2l, 1, oN 0 0 0, []),
  (.lmul, 1, oN 0 0 0, []),
  (.ladd, 1, oN 0 0 0, []),
  (.invokestatic 58, 3, oM M_Cars_nextDraw 1 0, [45, 323, 324]),
  (.lstore 5, 2, oN 5 0 0, []),
  (.aload_n 0, 1, oN 0 0 0, []),
  (.getfield 15, 3, oN 4 1 2, [143]),
  (.iload_n 3, 1, oN 3 0 0, []),
  (.iload 4, 2, oN 4 0 0, []),
  (.ifCond .eq 9, 3, oN 46 0 0, []),
  (.sipush 1200, 3, oI 1200, []),
  (.goto 15, 3, oN 58 0 0, [])]
theorem B_Cars_draw_15_ok : okB M_Cars_draw 15 B_Cars_draw_15 46 = true := by decide +kernel
def B_Cars_draw_46 : List IT := [(.sipush 400, 3, oI 400, []),
  (.lload 5, 2, oN 5 0 0, []),
  (.invokestatic 62, 3, oM M_Cars_highPart 1 0, [45, 329, 330]),
  (.bipush 121, 2, oI 121, []),
  (.irem, 1, oN 0 0 0, []),
  (.iadd, 1, oN 0 0 0, [])]
theorem B_Cars_draw_46_ok : okB M_Cars_draw 46 B_Cars_draw_46 58 = true := by decide +kernel
def B_Cars_draw_58 : List IT := [(.iastore, 1, oN 0 0 0, []),
  (.lload 5, 2, oN 5 0 0, []),
  (.invokestatic 58, 3, oM M_Cars_nextDraw 1 0, [45, 323, 324]),
  (.lstore 5, 2, oN 5 0 0, []),
  (.aload_n 0, 1, oN 0 0 0, []),
  (.getfield 18, 3, oN 4 2 2, [146]),
  (.iload_n 3, 1, oN 3 0 0, []),
  (.bipush 80, 2, oI 80, []),
  (.lload 5, 2, oN 5 0 0, []),
  (.invokestatic 62, 3, oM M_Cars_highPart 1 0, [45, 329, 330]),
  (.bipush 120, 2, oI 120, []),
  (.irem, 1, oN 0 0 0, []),
  (.iadd, 1, oN 0 0 0, []),
  (.iload 4, 2, oN 4 0 0, []),
  (.ifCond .eq 8, 3, oN 92 0 0, []),
  (.bipush 40, 2, oI 40, []),
  (.goto 4, 3, oN 93 0 0, [])]
theorem B_Cars_draw_58_ok : okB M_Cars_draw 58 B_Cars_draw_58 92 = true := by decide +kernel
def B_Cars_draw_92 : List IT := [(.iconst 0, 1, oI 0, [])]
theorem B_Cars_draw_92_ok : okB M_Cars_draw 92 B_Cars_draw_92 93 = true := by decide +kernel
def B_Cars_draw_93 : List IT := [(.isub, 1, oN 0 0 0, []),
  (.iastore, 1, oN 0 0 0, []),
  (.lload 5, 2, oN 5 0 0, []),
  (.invokestatic 58, 3, oM M_Cars_nextDraw 1 0, [45, 323, 324]),
  (.lstore 5, 2, oN 5 0 0, []),
  (.aload_n 0, 1, oN 0 0 0, []),
  (.getfield 21, 3, oN 4 3 2, [149]),
  (.iload_n 3, 1, oN 3 0 0, []),
  (.iconst 1, 1, oI 1, []),
  (.lload 5, 2, oN 5 0 0, []),
  (.invokestatic 62, 3, oM M_Cars_highPart 1 0, [45, 329, 330]),
  (.bipush 9, 2, oI 9, []),
  (.irem, 1, oN 0 0 0, []),
  (.iadd, 1, oN 0 0 0, []),
  (.iastore, 1, oN 0 0 0, []),
  (.return_, 1, oN 0 0 0, [])]
theorem B_Cars_draw_93_ok : okB M_Cars_draw 93 B_Cars_draw_93 119 = true := by decide +kernel
def B_Cars_haveNoPlaceInCommon_0 : List IT := [(.iconst 0, 1, oI 0, []),
  (.istore_n 1, 1, oN 1 0 0, [])]
theorem B_Cars_haveNoPlaceInCommon_0_ok : okB M_Cars_haveNoPlaceInCommon 0 B_Cars_haveNoPlaceInCommon_0 2 = true := by decide +kernel
def B_Cars_haveNoPlaceInCommon_2 : List IT := [(.iload_n 1, 1, oN 1 0 0, []),
  (.aload_n 0, 1, oN 0 0 0, []),
  (.getfield 48, 3, oN 4 12 0, [175]),
  (.if_icmp .ge 33, 3, oN 40 0 0, []),
  (.iconst 0, 1, oI 0, []),
  (.istore_n 2, 1, oN 2 0 0, [])]
theorem B_Cars_haveNoPlaceInCommon_2_ok : okB M_Cars_haveNoPlaceInCommon 2 B_Cars_haveNoPlaceInCommon_2 12 = true := by decide +kernel
def B_Cars_haveNoPlaceInCommon_12 : List IT := [(.iload_n 2, 1, oN 2 0 0, []),
  (.iload_n 1, 1, oN 1 0 0, []),
  (.if_icmp .ge 20, 3, oN 34 0 0, []),
  (.aload_n 0, 1, oN 0 0 0, []),
  (.iload_n 1, 1, oN 1 0 0, []),
  (.iload_n 2, 1, oN 2 0 0, []),
  (.invokevirtual 78, 3, oM M_Cars_meet 3 4, [45, 546, 548, 22]),
  (.ifCond .eq 5, 3, oN 28 0 0, []),
  (.iconst 0, 1, oI 0, []),
  (.ireturn, 1, oN 0 0 0, [])]
theorem B_Cars_haveNoPlaceInCommon_12_ok : okB M_Cars_haveNoPlaceInCommon 12 B_Cars_haveNoPlaceInCommon_12 28 = true := by decide +kernel
def B_Cars_haveNoPlaceInCommon_28 : List IT := [(.iinc 2 1, 3, oJ 2 1, []),
  (.goto (-19), 3, oN 12 0 0, [])]
theorem B_Cars_haveNoPlaceInCommon_28_ok : okB M_Cars_haveNoPlaceInCommon 28 B_Cars_haveNoPlaceInCommon_28 34 = true := by decide +kernel
def B_Cars_haveNoPlaceInCommon_34 : List IT := [(.iinc 1 1, 3, oJ 1 1, []),
  (.goto (-35), 3, oN 2 0 0, [])]
theorem B_Cars_haveNoPlaceInCommon_34_ok : okB M_Cars_haveNoPlaceInCommon 34 B_Cars_haveNoPlaceInCommon_34 40 = true := by decide +kernel
def B_Cars_haveNoPlaceInCommon_40 : List IT := [(.iconst 1, 1, oI 1, []),
  (.ireturn, 1, oN 0 0 0, [])]
theorem B_Cars_haveNoPlaceInCommon_40_ok : okB M_Cars_haveNoPlaceInCommon 40 B_Cars_haveNoPlaceInCommon_40 42 = true := by decide +kernel
def B_Cars_highPart_0 : List IT := [(.lload_n 0, 1, oN 0 0 0, []),
  (.ldc2_w 72, 3, oL 65536, [332]),
  (.ldiv, 1, oN 0 0 0, []),
  (.l2i, 1, oN 0 0 0, []),
  (.ireturn, 1, oN 0 0 0, [])]
theorem B_Cars_highPart_0_ok : okB M_Cars_highPart 0 B_Cars_highPart_0 7 = true := by decide +kernel
def B_Cars_meet_0 : List IT := [(.aload_n 0, 1, oN 0 0 0, []),
  (.getfield 27, 3, oN 4 5 2, [155]),
  (.iload_n 1, 1, oN 1 0 0, []),
  (.iaload, 1, oN 0 0 0, []),
  (.iconst 1, 1, oI 1, []),
  (.if_icmp .ne 60, 3, oN 67 0 0, []),
  (.aload_n 0, 1, oN 0 0 0, []),
  (.getfield 27, 3, oN 4 5 2, [155]),
  (.iload_n 2, 1, oN 2 0 0, []),
  (.iaload, 1, oN 0 0 0, []),
  (.iconst 1, 1, oI 1, []),
  (.if_icmp .ne 50, 3, oN 67 0 0, []),
  (.aload_n 0, 1, oN 0 0 0, []),
  (.getfield 24, 3, oN 4 4 2, [152]),
  (.iload_n 1, 1, oN 1 0 0, []),
  (.iaload, 1, oN 0 0 0, []),
  (.aload_n 0, 1, oN 0 0 0, []),
  (.getfield 24, 3, oN 4 4 2, [152]),
  (.iload_n 2, 1, oN 2 0 0, []),
  (.iaload, 1, oN 0 0 0, []),
  (.if_icmp .ne 35, 3, oN 67 0 0, []),
  (.aload_n 0, 1, oN 0 0 0, []),
  (.iload_n 1, 1, oN 1 0 0, []),
  (.invokevirtual 81, 3, oM M_Cars_rear 2 4, [45, 550, 402, 403]),
  (.aload_n 0, 1, oN 0 0 0, []),
  (.getfield 30, 3, oN 4 6 2, [158]),
  (.iload_n 2, 1, oN 2 0 0, []),
  (.iaload, 1, oN 0 0 0, []),
  (.if_icmp .ge 21, 3, oN 67 0 0, []),
  (.aload_n 0, 1, oN 0 0 0, []),
  (.iload_n 2, 1, oN 2 0 0, []),
  (.invokevirtual 81, 3, oM M_Cars_rear 2 4, [45, 550, 402, 403]),
  (.aload_n 0, 1, oN 0 0 0, []),
  (.getfield 30, 3, oN 4 6 2, [158]),
  (.iload_n 1, 1, oN 1 0 0, []),
  (.iaload, 1, oN 0 0 0, []),
  (.if_icmp .ge 7, 3, oN 67 0 0, []),
  (.iconst 1, 1, oI 1, []),
  (.goto 4, 3, oN 68 0 0, [])]
theorem B_Cars_meet_0_ok : okB M_Cars_meet 0 B_Cars_meet_0 67 = true := by decide +kernel
def B_Cars_meet_67 : List IT := [(.iconst 0, 1, oI 0, [])]
theorem B_Cars_meet_67_ok : okB M_Cars_meet 67 B_Cars_meet_67 68 = true := by decide +kernel
def B_Cars_meet_68 : List IT := [(.ireturn, 1, oN 0 0 0, [])]
theorem B_Cars_meet_68_ok : okB M_Cars_meet 68 B_Cars_meet_68 69 = true := by decide +kernel
def B_Cars_nextDraw_0 : List IT := [(.lload_n 0, 1, oN 0 0 0, []),
  (.ldc2_w 66, 3, oL 2147483647, [326]),
  (.land, 1, oN 0 0 0, []),
  (.ldc2_w 68, 3, oL 1103515245, [327]),
  (.lmul, 1, oN 0 0 0, []),
  (.ldc2_w 70, 3, oL 12345, [328]),
  (.ladd, 1, oN 0 0 0, []),
  (.ldc2_w 66, 3, oL 2147483647, [326]),
  (.land, 1, oN 0 0 0, []),
  (.lreturn, 1, oN 0 0 0, [])]
theorem B_Cars_nextDraw_0_ok : okB M_Cars_nextDraw 0 B_Cars_nextDraw_0 18 = true := by decide +kernel
def B_Cars_rear_0 : List IT := [(.aload_n 0, 1, oN 0 0 0, []),
  (.getfield 30, 3, oN 4 6 2, [158]),
  (.iload_n 1, 1, oN 1 0 0, []),
  (.iaload, 1, oN 0 0 0, []),
  (.aload_n 0, 1, oN 0 0 0, []),
  (.getfield 15, 3, oN 4 1 2, [143]),
  (.iload_n 1, 1, oN 1 0 0, []),
  (.iaload, 1, oN 0 0 0, []),
  (.isub, 1, oN 0 0 0, []),
  (.ireturn, 1, oN 0 0 0, [])]
theorem B_Cars_rear_0_ok : okB M_Cars_rear 0 B_Cars_rear_0 14 = true := by decide +kernel
def B_Cars_sizeOf_0 : List IT := [(.iconst 0, 1, oI 0, []),
  (.istore_n 2, 1, oN 2 0 0, []),
  (.iconst 0, 1, oI 0, []),
  (.istore_n 3, 1, oN 3 0 0, [])]
theorem B_Cars_sizeOf_0_ok : okB M_Cars_sizeOf 0 B_Cars_sizeOf_0 4 = true := by decide +kernel
def B_Cars_sizeOf_4 : List IT := [(.iload_n 3, 1, oN 3 0 0, []),
  (.aload_n 0, 1, oN 0 0 0, []),
  (.getfield 48, 3, oN 4 12 0, [175]),
  (.if_icmp .ge 22, 3, oN 31 0 0, []),
  (.aload_n 0, 1, oN 0 0 0, []),
  (.getfield 27, 3, oN 4 5 2, [155]),
  (.iload_n 3, 1, oN 3 0 0, []),
  (.iaload, 1, oN 0 0 0, []),
  (.iload_n 1, 1, oN 1 0 0, []),
  (.if_icmp .ne 6, 3, oN 25 0 0, []),
  (.iinc 2 1, 3, oJ 2 1, [])]
theorem B_Cars_sizeOf_4_ok : okB M_Cars_sizeOf 4 B_Cars_sizeOf_4 25 = true := by decide +kernel
def B_Cars_sizeOf_25 : List IT := [(.iinc 3 1, 3, oJ 3 1, []),
  (.goto (-24), 3, oN 4 0 0, [])]
theorem B_Cars_sizeOf_25_ok : okB M_Cars_sizeOf 25 B_Cars_sizeOf_25 31 = true := by decide +kernel
def B_Cars_sizeOf_31 : List IT := [(.iload_n 2, 1, oN 2 0 0, []),
  (.ireturn, 1, oN 0 0 0, [])]
theorem B_Cars_sizeOf_31_ok : okB M_Cars_sizeOf 31 B_Cars_sizeOf_31 33 = true := by decide +kernel
def B_Cars_stepsOfGone_0 : List IT := [(.iconst 0, 1, oI 0, []),
  (.istore_n 1, 1, oN 1 0 0, []),
  (.iconst 0, 1, oI 0, []),
  (.istore_n 2, 1, oN 2 0 0, [])]
theorem B_Cars_stepsOfGone_0_ok : okB M_Cars_stepsOfGone 0 B_Cars_stepsOfGone_0 4 = true := by decide +kernel
def B_Cars_stepsOfGone_4 : List IT := [(.iload_n 2, 1, oN 2 0 0, []),
  (.aload_n 0, 1, oN 0 0 0, []),
  (.getfield 48, 3, oN 4 12 0, [175]),
  (.if_icmp .ge 35, 3, oN 44 0 0, []),
  (.aload_n 0, 1, oN 0 0 0, []),
  (.getfield 27, 3, oN 4 5 2, [155]),
  (.iload_n 2, 1, oN 2 0 0, []),
  (.iaload, 1, oN 0 0 0, []),
  (.iconst 2, 1, oI 2, []),
  (.if_icmp .ne 19, 3, oN 38 0 0, []),
  (.iload_n 1, 1, oN 1 0 0, []),
  (.aload_n 0, 1, oN 0 0 0, []),
  (.getfield 39, 3, oN 4 9 2, [168]),
  (.iload_n 2, 1, oN 2 0 0, []),
  (.iaload, 1, oN 0 0 0, []),
  (.aload_n 0, 1, oN 0 0 0, []),
  (.getfield 36, 3, oN 4 8 2, [165]),
  (.iload_n 2, 1, oN 2 0 0, []),
  (.iaload, 1, oN 0 0 0, []),
  (.isub, 1, oN 0 0 0, []),
  (.iadd, 1, oN 0 0 0, []),
  (.istore_n 1, 1, oN 1 0 0, [])]
theorem B_Cars_stepsOfGone_4_ok : okB M_Cars_stepsOfGone 4 B_Cars_stepsOfGone_4 38 = true := by decide +kernel
def B_Cars_stepsOfGone_38 : List IT := [(.iinc 2 1, 3, oJ 2 1, []),
  (.goto (-37), 3, oN 4 0 0, [])]
theorem B_Cars_stepsOfGone_38_ok : okB M_Cars_stepsOfGone 38 B_Cars_stepsOfGone_38 44 = true := by decide +kernel
def B_Cars_stepsOfGone_44 : List IT := [(.iload_n 1, 1, oN 1 0 0, []),
  (.ireturn, 1, oN 0 0 0, [])]
theorem B_Cars_stepsOfGone_44_ok : okB M_Cars_stepsOfGone 44 B_Cars_stepsOfGone_44 46 = true := by decide +kernel
def B_Cars_waitersFor_0 : List IT := [(.iconst 0, 1, oI 0, []),
  (.istore_n 2, 1, oN 2 0 0, []),
  (.iconst 0, 1, oI 0, []),
  (.istore_n 3, 1, oN 3 0 0, [])]
theorem B_Cars_waitersFor_0_ok : okB M_Cars_waitersFor 0 B_Cars_waitersFor_0 4 = true := by decide +kernel
def B_Cars_waitersFor_4 : List IT := [(.iload_n 3, 1, oN 3 0 0, []),
  (.aload_n 0, 1, oN 0 0 0, []),
  (.getfield 48, 3, oN 4 12 0, [175]),
  (.if_icmp .ge 21, 3, oN 30 0 0, []),
  (.aload_n 0, 1, oN 0 0 0, []),
  (.iload_n 3, 1, oN 3 0 0, []),
  (.iload_n 1, 1, oN 1 0 0, []),
  (.invokevirtual 74, 3, oM M_Cars_waitsFor 3 4, [45, 537, 382, 383]),
  (.ifCond .eq 6, 3, oN 24 0 0, []),
  (.iinc 2 1, 3, oJ 2 1, [])]
theorem B_Cars_waitersFor_4_ok : okB M_Cars_waitersFor 4 B_Cars_waitersFor_4 24 = true := by decide +kernel
def B_Cars_waitersFor_24 : List IT := [(.iinc 3 1, 3, oJ 3 1, []),
  (.goto (-23), 3, oN 4 0 0, [])]
theorem B_Cars_waitersFor_24_ok : okB M_Cars_waitersFor 24 B_Cars_waitersFor_24 30 = true := by decide +kernel
def B_Cars_waitersFor_30 : List IT := [(.iload_n 2, 1, oN 2 0 0, []),
  (.ireturn, 1, oN 0 0 0, [])]
theorem B_Cars_waitersFor_30_ok : okB M_Cars_waitersFor 30 B_Cars_waitersFor_30 32 = true := by decide +kernel
def B_Cars_waitsFor_0 : List IT := [(.aload_n 0, 1, oN 0 0 0, []),
  (.getfield 27, 3, oN 4 5 2, [155]),
  (.iload_n 1, 1, oN 1 0 0, []),
  (.iaload, 1, oN 0 0 0, []),
  (.ifCond .ne 17, 3, oN 23 0 0, []),
  (.aload_n 0, 1, oN 0 0 0, []),
  (.getfield 24, 3, oN 4 4 2, [152]),
  (.iload_n 1, 1, oN 1 0 0, []),
  (.iaload, 1, oN 0 0 0, []),
  (.iload_n 2, 1, oN 2 0 0, []),
  (.if_icmp .ne 7, 3, oN 23 0 0, []),
  (.iconst 1, 1, oI 1, []),
  (.goto 4, 3, oN 24 0 0, [])]
theorem B_Cars_waitsFor_0_ok : okB M_Cars_waitsFor 0 B_Cars_waitsFor_0 23 = true := by decide +kernel
def B_Cars_waitsFor_23 : List IT := [(.iconst 0, 1, oI 0, [])]
theorem B_Cars_waitsFor_23_ok : okB M_Cars_waitsFor 23 B_Cars_waitsFor_23 24 = true := by decide +kernel
def B_Cars_waitsFor_24 : List IT := [(.ireturn, 1, oN 0 0 0, [])]
theorem B_Cars_waitsFor_24_ok : okB M_Cars_waitsFor 24 B_Cars_waitsFor_24 25 = true := by decide +kernel
end
section
/-! code of L, stretch by stretch (written by program) -/
def B_L_cell_0 : List IT := [(.iload_n 1, 1, oN 1 0 0, []),
  (.aload_n 0, 1, oN 0 0 0, []),
  (.arraylength, 1, oN 1 0 0, []),
  (.if_icmp .ge 9, 3, oN 12 0 0, []),
  (.aload_n 0, 1, oN 0 0 0, []),
  (.iload_n 1, 1, oN 1 0 0, []),
  (.iaload, 1, oN 1 0 0, []),
  (.goto 4, 3, oN 13 0 0, [])]
theorem B_L_cell_0_ok : okB M_L_cell 0 B_L_cell_0 12 = true := by decide +kernel
def B_L_cell_12 : List IT := [(.iconst 0, 1, oI 0, [])]
theorem B_L_cell_12_ok : okB M_L_cell 12 B_L_cell_12 13 = true := by decide +kernel
def B_L_cell_13 : List IT := [(.ireturn, 1, oN 0 0 0, [])]
theorem B_L_cell_13_ok : okB M_L_cell 13 B_L_cell_13 14 = true := by decide +kernel
def B_L_law_0 : List IT := [(.new 7, 3, oN 0 7 0, [49, 50, 40]),
  (.dup, 1, oN 0 0 0, []),
  (.aload_n 0, 1, oN 0 0 0, []),
  (.iconst 0, 1, oI 0, []),
  (.invokestatic 9, 3, oM M_L_cell 2 0, [39, 585, 586]),
  (.i2l, 1, oN 0 0 0, []),
  (.aload_n 0, 1, oN 0 0 0, []),
  (.iconst 1, 1, oI 1, []),
  (.invokestatic 9, 3, oM M_L_cell 2 0, [39, 585, 586]),
  (.aload_n 0, 1, oN 0 0 0, []),
  (.iconst 2, 1, oI 2, []),
  (.invokestatic 9, 3, oM M_L_cell 2 0, [39, 585, 586]),
  (.invokespecial 15, 3, oM M_C_init 4 0, [40, 51, 52]),
  (.astore_n 1, 1, oN 1 0 0, []),
  (.new 18, 3, oN 6 20 0, [588, 589, 47]),
  (.dup, 1, oN 0 0 0, []),
  (.aload_n 0, 1, oN 0 0 0, []),
  (.iconst 0, 1, oI 0, []),
  (.invokestatic 9, 3, oM M_L_cell 2 0, [39, 585, 586]),
  (.i2l, 1, oN 0 0 0, []),
  (.aload_n 0, 1, oN 0 0 0, []),
  (.iconst 1, 1, oI 1, []),
  (.invokestatic 9, 3, oM M_L_cell 2 0, [39, 585, 586]),
  (.aload_n 0, 1, oN 0 0 0, []),
  (.iconst 2, 1, oI 2, []),
  (.invokestatic 9, 3, oM M_L_cell 2 0, [39, 585, 586]),
  (.invokespecial 20, 3, oM M_M_init 4 0, [47, 590, 591]),
  (.astore_n 2, 1, oN 2 0 0, []),
  (.iconst 3, 1, oI 3, []),
  (.istore_n 3, 1, oN 3 0 0, [])]
theorem B_L_law_0_ok : okB M_L_law 0 B_L_law_0 50 = true := by decide +kernel
def B_L_law_50 : List IT := [(.iload_n 3, 1, oN 3 0 0, []),
  (.aload_n 0, 1, oN 0 0 0, []),
  (.arraylength, 1, oN 1 0 0, []),
  (.iconst 5, 1, oI 5, []),
  (.isub, 1, oN 0 0 0, []),
  (.if_icmp .gt 570, 3, oN 625 0 0, []),
  (.aload_n 0, 1, oN 0 0 0, []),
  (.iload_n 3, 1, oN 3 0 0, []),
  (.iaload, 1, oN 1 0 0, []),
  (.bipush 31, 2, oI 31, []),
  (.iand, 1, oN 0 0 0, []),
  (.tableswitch 555 0 16 #[84, 117, 160, 213, 246, 269, 292, 325, 358, 381, 414, 427, 450, 473, 486, 509, 532], 84, oS 619 [(0, 148), (1, 181), (2, 224), (3, 277), (4, 310), (5, 333), (6, 356), (7, 389), (8, 422), (9, 445), (10, 478), (11, 491), (12, 514), (13, 537), (14, 550), (15, 573), (16, 596)], [])]
theorem B_L_law_50_ok : okB M_L_law 50 B_L_law_50 148 = true := by decide +kernel
def B_L_law_148 : List IT := [(.aload_n 1, 1, oN 1 0 0, []),
  (.aload_n 0, 1, oN 0 0 0, []),
  (.iload_n 3, 1, oN 3 0 0, []),
  (.iconst 1, 1, oI 1, []),
  (.iadd, 1, oN 0 0 0, []),
  (.iaload, 1, oN 1 0 0, []),
  (.aload_n 0, 1, oN 0 0 0, []),
  (.iload_n 3, 1, oN 3 0 0, []),
  (.iconst 2, 1, oI 2, []),
  (.iadd, 1, oN 0 0 0, []),
  (.iaload, 1, oN 1 0 0, []),
  (.invokevirtual 21, 3, oM M_C_come 3 0, [40, 306, 307, 308]),
  (.aload_n 2, 1, oN 2 0 0, []),
  (.aload_n 0, 1, oN 0 0 0, []),
  (.iload_n 3, 1, oN 3 0 0, []),
  (.iconst 1, 1, oI 1, []),
  (.iadd, 1, oN 0 0 0, []),
  (.iaload, 1, oN 1 0 0, []),
  (.aload_n 0, 1, oN 0 0 0, []),
  (.iload_n 3, 1, oN 3 0 0, []),
  (.iconst 2, 1, oI 2, []),
  (.iadd, 1, oN 0 0 0, []),
  (.iaload, 1, oN 1 0 0, []),
  (.invokevirtual 25, 3, oM M_M_come 3 6, [47, 657, 658, 659]),
  (.if_icmp .eq 443, 3, oN 619 0 0, []),
  (.iconst 0, 1, oI 0, []),
  (.ireturn, 1, oN 0 0 0, [])]
theorem B_L_law_148_ok : okB M_L_law 148 B_L_law_148 181 = true := by decide +kernel
def B_L_law_181 : List IT := [(.aload_n 1, 1, oN 1 0 0, []),
  (.aload_n 0, 1, oN 0 0 0, []),
  (.iload_n 3, 1, oN 3 0 0, []),
  (.iconst 1, 1, oI 1, []),
  (.iadd, 1, oN 0 0 0, []),
  (.iaload, 1, oN 1 0 0, []),
  (.aload_n 0, 1, oN 0 0 0, []),
  (.iload_n 3, 1, oN 3 0 0, []),
  (.iconst 2, 1, oI 2, []),
  (.iadd, 1, oN 0 0 0, []),
  (.iaload, 1, oN 1 0 0, []),
  (.aload_n 0, 1, oN 0 0 0, []),
  (.iload_n 3, 1, oN 3 0 0, []),
  (.iconst 3, 1, oI 3, []),
  (.iadd, 1, oN 0 0 0, []),
  (.iaload, 1, oN 1 0 0, []),
  (.invokevirtual 26, 3, oM M_C_light 4 0, [40, 333, 334, 335]),
  (.aload_n 2, 1, oN 2 0 0, []),
  (.aload_n 0, 1, oN 0 0 0, []),
  (.iload_n 3, 1, oN 3 0 0, []),
  (.iconst 1, 1, oI 1, []),
  (.iadd, 1, oN 0 0 0, []),
  (.iaload, 1, oN 1 0 0, []),
  (.aload_n 0, 1, oN 0 0 0, []),
  (.iload_n 3, 1, oN 3 0 0, []),
  (.iconst 2, 1, oI 2, []),
  (.iadd, 1, oN 0 0 0, []),
  (.iaload, 1, oN 1 0 0, []),
  (.aload_n 0, 1, oN 0 0 0, []),
  (.iload_n 3, 1, oN 3 0 0, []),
  (.iconst 3, 1, oI 3, []),
  (.iadd, 1, oN 0 0 0, []),
  (.iaload, 1, oN 1 0 0, []),
  (.invokevirtual 30, 3, oM M_M_light 4 6, [47, 677, 678, 679]),
  (.if_icmp .eq 400, 3, oN 619 0 0, []),
  (.iconst 0, 1, oI 0, []),
  (.ireturn, 1, oN 0 0 0, [])]
theorem B_L_law_181_ok : okB M_L_law 181 B_L_law_181 224 = true := by decide +kernel
def B_L_law_224 : List IT := [(.aload_n 1, 1, oN 1 0 0, []),
  (.aload_n 0, 1, oN 0 0 0, []),
  (.iload_n 3, 1, oN 3 0 0, []),
  (.iconst 1, 1, oI 1, []),
  (.iadd, 1, oN 0 0 0, []),
  (.iaload, 1, oN 1 0 0, []),
  (.aload_n 0, 1, oN 0 0 0, []),
  (.iload_n 3, 1, oN 3 0 0, []),
  (.iconst 2, 1, oI 2, []),
  (.iadd, 1, oN 0 0 0, []),
  (.iaload, 1, oN 1 0 0, []),
  (.aload_n 0, 1, oN 0 0 0, []),
  (.iload_n 3, 1, oN 3 0 0, []),
  (.iconst 3, 1, oI 3, []),
  (.iadd, 1, oN 0 0 0, []),
  (.iaload, 1, oN 1 0 0, []),
  (.aload_n 0, 1, oN 0 0 0, []),
  (.iload_n 3, 1, oN 3 0 0, []),
  (.iconst 4, 1, oI 4, []),
  (.iadd, 1, oN 0 0 0, []),
  (.iaload, 1, oN 1 0 0, []),
  (.invokevirtual 31, 3, oM M_C_close 5 0, [40, 345, 346, 347]),
  (.aload_n 2, 1, oN 2 0 0, []),
  (.aload_n 0, 1, oN 0 0 0, []),
  (.iload_n 3, 1, oN 3 0 0, []),
  (.iconst 1, 1, oI 1, []),
  (.iadd, 1, oN 0 0 0, []),
  (.iaload, 1, oN 1 0 0, []),
  (.aload_n 0, 1, oN 0 0 0, []),
  (.iload_n 3, 1, oN 3 0 0, []),
  (.iconst 2, 1, oI 2, []),
  (.iadd, 1, oN 0 0 0, []),
  (.iaload, 1, oN 1 0 0, []),
  (.aload_n 0, 1, oN 0 0 0, []),
  (.iload_n 3, 1, oN 3 0 0, []),
  (.iconst 3, 1, oI 3, []),
  (.iadd, 1, oN 0 0 0, []),
  (.iaload, 1, oN 1 0 0, []),
  (.aload_n 0, 1, oN 0 0 0, []),
  (.iload_n 3, 1, oN 3 0 0, []),
  (.iconst 4, 1, oI 4, []),
  (.iadd, 1, oN 0 0 0, []),
  (.iaload, 1, oN 1 0 0, []),
  (.invokevirtual 35, 3, oM M_M_close 5 6, [47, 685, 686, 687]),
  (.if_icmp .eq 347, 3, oN 619 0 0, []),
  (.iconst 0, 1, oI 0, []),
  (.ireturn, 1, oN 0 0 0, [])]
theorem B_L_law_224_ok : okB M_L_law 224 B_L_law_224 277 = true := by decide +kernel
def B_L_law_277 : List IT := [(.aload_n 1, 1, oN 1 0 0, []),
  (.aload_n 0, 1, oN 0 0 0, []),
  (.iload_n 3, 1, oN 3 0 0, []),
  (.iconst 1, 1, oI 1, []),
  (.iadd, 1, oN 0 0 0, []),
  (.iaload, 1, oN 1 0 0, []),
  (.aload_n 0, 1, oN 0 0 0, []),
  (.iload_n 3, 1, oN 3 0 0, []),
  (.iconst 2, 1, oI 2, []),
  (.iadd, 1, oN 0 0 0, []),
  (.iaload, 1, oN 1 0 0, []),
  (.invokevirtual 36, 3, oM M_C_stop 3 0, [40, 353, 354, 355]),
  (.aload_n 2, 1, oN 2 0 0, []),
  (.aload_n 0, 1, oN 0 0 0, []),
  (.iload_n 3, 1, oN 3 0 0, []),
  (.iconst 1, 1, oI 1, []),
  (.iadd, 1, oN 0 0 0, []),
  (.iaload, 1, oN 1 0 0, []),
  (.aload_n 0, 1, oN 0 0 0, []),
  (.iload_n 3, 1, oN 3 0 0, []),
  (.iconst 2, 1, oI 2, []),
  (.iadd, 1, oN 0 0 0, []),
  (.iaload, 1, oN 1 0 0, []),
  (.invokevirtual 40, 3, oM M_M_stop 3 6, [47, 689, 690, 691]),
  (.if_icmp .eq 314, 3, oN 619 0 0, []),
  (.iconst 0, 1, oI 0, []),
  (.ireturn, 1, oN 0 0 0, [])]
theorem B_L_law_277_ok : okB M_L_law 277 B_L_law_277 310 = true := by decide +kernel
def B_L_law_310 : List IT := [(.aload_n 1, 1, oN 1 0 0, []),
  (.aload_n 0, 1, oN 0 0 0, []),
  (.iload_n 3, 1, oN 3 0 0, []),
  (.iconst 1, 1, oI 1, []),
  (.iadd, 1, oN 0 0 0, []),
  (.iaload, 1, oN 1 0 0, []),
  (.invokevirtual 41, 3, oM M_C_line 2 0, [40, 361, 362, 363]),
  (.aload_n 2, 1, oN 2 0 0, []),
  (.aload_n 0, 1, oN 0 0 0, []),
  (.iload_n 3, 1, oN 3 0 0, []),
  (.iconst 1, 1, oI 1, []),
  (.iadd, 1, oN 0 0 0, []),
  (.iaload, 1, oN 1 0 0, []),
  (.invokevirtual 45, 3, oM M_M_line 2 6, [47, 693, 694, 695]),
  (.if_icmp .eq 291, 3, oN 619 0 0, []),
  (.iconst 0, 1, oI 0, []),
  (.ireturn, 1, oN 0 0 0, [])]
theorem B_L_law_310_ok : okB M_L_law 310 B_L_law_310 333 = true := by decide +kernel
def B_L_law_333 : List IT := [(.aload_n 1, 1, oN 1 0 0, []),
  (.aload_n 0, 1, oN 0 0 0, []),
  (.iload_n 3, 1, oN 3 0 0, []),
  (.iconst 1, 1, oI 1, []),
  (.iadd, 1, oN 0 0 0, []),
  (.iaload, 1, oN 1 0 0, []),
  (.invokevirtual 46, 3, oM M_C_run 2 0, [40, 369, 370, 371]),
  (.aload_n 2, 1, oN 2 0 0, []),
  (.aload_n 0, 1, oN 0 0 0, []),
  (.iload_n 3, 1, oN 3 0 0, []),
  (.iconst 1, 1, oI 1, []),
  (.iadd, 1, oN 0 0 0, []),
  (.iaload, 1, oN 1 0 0, []),
  (.invokevirtual 49, 3, oM M_M_run 2 6, [47, 697, 698, 699]),
  (.if_icmp .eq 268, 3, oN 619 0 0, []),
  (.iconst 0, 1, oI 0, []),
  (.ireturn, 1, oN 0 0 0, [])]
theorem B_L_law_333_ok : okB M_L_law 333 B_L_law_333 356 = true := by decide +kernel
def B_L_law_356 : List IT := [(.aload_n 1, 1, oN 1 0 0, []),
  (.aload_n 0, 1, oN 0 0 0, []),
  (.iload_n 3, 1, oN 3 0 0, []),
  (.iconst 1, 1, oI 1, []),
  (.iadd, 1, oN 0 0 0, []),
  (.iaload, 1, oN 1 0 0, []),
  (.aload_n 0, 1, oN 0 0 0, []),
  (.iload_n 3, 1, oN 3 0 0, []),
  (.iconst 2, 1, oI 2, []),
  (.iadd, 1, oN 0 0 0, []),
  (.iaload, 1, oN 1 0 0, []),
  (.invokevirtual 50, 3, oM M_C_told 3 0, [40, 495, 496, 497]),
  (.aload_n 2, 1, oN 2 0 0, []),
  (.aload_n 0, 1, oN 0 0 0, []),
  (.iload_n 3, 1, oN 3 0 0, []),
  (.iconst 1, 1, oI 1, []),
  (.iadd, 1, oN 0 0 0, []),
  (.iaload, 1, oN 1 0 0, []),
  (.aload_n 0, 1, oN 0 0 0, []),
  (.iload_n 3, 1, oN 3 0 0, []),
  (.iconst 2, 1, oI 2, []),
  (.iadd, 1, oN 0 0 0, []),
  (.iaload, 1, oN 1 0 0, []),
  (.invokevirtual 53, 3, oM M_M_told 3 6, [47, 759, 760, 761]),
  (.if_icmp .eq 235, 3, oN 619 0 0, []),
  (.iconst 0, 1, oI 0, []),
  (.ireturn, 1, oN 0 0 0, [])]
theorem B_L_law_356_ok : okB M_L_law 356 B_L_law_356 389 = true := by decide +kernel
def B_L_law_389 : List IT := [(.aload_n 1, 1, oN 1 0 0, []),
  (.aload_n 0, 1, oN 0 0 0, []),
  (.iload_n 3, 1, oN 3 0 0, []),
  (.iconst 1, 1, oI 1, []),
  (.iadd, 1, oN 0 0 0, []),
  (.iaload, 1, oN 1 0 0, []),
  (.aload_n 0, 1, oN 0 0 0, []),
  (.iload_n 3, 1, oN 3 0 0, []),
  (.iconst 2, 1, oI 2, []),
  (.iadd, 1, oN 0 0 0, []),
  (.iaload, 1, oN 1 0 0, []),
  (.invokevirtual 54, 3, oM M_C_drawn 3 0, [40, 503, 504, 505]),
  (.aload_n 2, 1, oN 2 0 0, []),
  (.aload_n 0, 1, oN 0 0 0, []),
  (.iload_n 3, 1, oN 3 0 0, []),
  (.iconst 1, 1, oI 1, []),
  (.iadd, 1, oN 0 0 0, []),
  (.iaload, 1, oN 1 0 0, []),
  (.aload_n 0, 1, oN 0 0 0, []),
  (.iload_n 3, 1, oN 3 0 0, []),
  (.iconst 2, 1, oI 2, []),
  (.iadd, 1, oN 0 0 0, []),
  (.iaload, 1, oN 1 0 0, []),
  (.invokevirtual 57, 3, oM M_M_drawn 3 6, [47, 767, 768, 769]),
  (.if_icmp .eq 202, 3, oN 619 0 0, []),
  (.iconst 0, 1, oI 0, []),
  (.ireturn, 1, oN 0 0 0, [])]
theorem B_L_law_389_ok : okB M_L_law 389 B_L_law_389 422 = true := by decide +kernel
def B_L_law_422 : List IT := [(.aload_n 1, 1, oN 1 0 0, []),
  (.aload_n 0, 1, oN 0 0 0, []),
  (.iload_n 3, 1, oN 3 0 0, []),
  (.iconst 1, 1, oI 1, []),
  (.iadd, 1, oN 0 0 0, []),
  (.iaload, 1, oN 1 0 0, []),
  (.invokevirtual 58, 3, oM M_C_gap 2 0, [40, 507, 508, 509]),
  (.aload_n 2, 1, oN 2 0 0, []),
  (.aload_n 0, 1, oN 0 0 0, []),
  (.iload_n 3, 1, oN 3 0 0, []),
  (.iconst 1, 1, oI 1, []),
  (.iadd, 1, oN 0 0 0, []),
  (.iaload, 1, oN 1 0 0, []),
  (.invokevirtual 61, 3, oM M_M_gap 2 6, [47, 771, 772, 773]),
  (.if_icmp .eq 179, 3, oN 619 0 0, []),
  (.iconst 0, 1, oI 0, []),
  (.ireturn, 1, oN 0 0 0, [])]
theorem B_L_law_422_ok : okB M_L_law 422 B_L_law_422 445 = true := by decide +kernel
def B_L_law_445 : List IT := [(.aload_n 1, 1, oN 1 0 0, []),
  (.aload_n 0, 1, oN 0 0 0, []),
  (.iload_n 3, 1, oN 3 0 0, []),
  (.iconst 1, 1, oI 1, []),
  (.iadd, 1, oN 0 0 0, []),
  (.iaload, 1, oN 1 0 0, []),
  (.aload_n 0, 1, oN 0 0 0, []),
  (.iload_n 3, 1, oN 3 0 0, []),
  (.iconst 2, 1, oI 2, []),
  (.iadd, 1, oN 0 0 0, []),
  (.iaload, 1, oN 1 0 0, []),
  (.invokevirtual 62, 3, oM M_C_counted 3 0, [40, 513, 514, 515]),
  (.aload_n 2, 1, oN 2 0 0, []),
  (.aload_n 0, 1, oN 0 0 0, []),
  (.iload_n 3, 1, oN 3 0 0, []),
  (.iconst 1, 1, oI 1, []),
  (.iadd, 1, oN 0 0 0, []),
  (.iaload, 1, oN 1 0 0, []),
  (.aload_n 0, 1, oN 0 0 0, []),
  (.iload_n 3, 1, oN 3 0 0, []),
  (.iconst 2, 1, oI 2, []),
  (.iadd, 1, oN 0 0 0, []),
  (.iaload, 1, oN 1 0 0, []),
  (.invokevirtual 65, 3, oM M_M_counted 3 6, [47, 775, 776, 777]),
  (.if_icmp .eq 146, 3, oN 619 0 0, []),
  (.iconst 0, 1, oI 0, []),
  (.ireturn, 1, oN 0 0 0, [])]
theorem B_L_law_445_ok : okB M_L_law 445 B_L_law_445 478 = true := by decide +kernel
def B_L_law_478 : List IT := [(.aload_n 1, 1, oN 1 0 0, []),
  (.invokevirtual 66, 3, oM M_C_times 1 0, [40, 517, 518, 519]),
  (.aload_n 2, 1, oN 2 0 0, []),
  (.invokevirtual 70, 3, oM M_M_times 1 6, [47, 779, 780, 781]),
  (.if_icmp .eq 133, 3, oN 619 0 0, []),
  (.iconst 0, 1, oI 0, []),
  (.ireturn, 1, oN 0 0 0, [])]
theorem B_L_law_478_ok : okB M_L_law 478 B_L_law_478 491 = true := by decide +kernel
def B_L_law_491 : List IT := [(.aload_n 1, 1, oN 1 0 0, []),
  (.aload_n 0, 1, oN 0 0 0, []),
  (.iload_n 3, 1, oN 3 0 0, []),
  (.iconst 1, 1, oI 1, []),
  (.iadd, 1, oN 0 0 0, []),
  (.iaload, 1, oN 1 0 0, []),
  (.invokevirtual 71, 3, oM M_C_many 2 0, [40, 525, 526, 527]),
  (.aload_n 2, 1, oN 2 0 0, []),
  (.aload_n 0, 1, oN 0 0 0, []),
  (.iload_n 3, 1, oN 3 0 0, []),
  (.iconst 1, 1, oI 1, []),
  (.iadd, 1, oN 0 0 0, []),
  (.iaload, 1, oN 1 0 0, []),
  (.invokevirtual 74, 3, oM M_M_many 2 6, [47, 783, 784, 785]),
  (.if_icmp .eq 110, 3, oN 619 0 0, []),
  (.iconst 0, 1, oI 0, []),
  (.ireturn, 1, oN 0 0 0, [])]
theorem B_L_law_491_ok : okB M_L_law 491 B_L_law_491 514 = true := by decide +kernel
def B_L_law_514 : List IT := [(.aload_n 1, 1, oN 1 0 0, []),
  (.aload_n 0, 1, oN 0 0 0, []),
  (.iload_n 3, 1, oN 3 0 0, []),
  (.iconst 1, 1, oI 1, []),
  (.iadd, 1, oN 0 0 0, []),
  (.iaload, 1, oN 1 0 0, []),
  (.invokevirtual 75, 3, oM M_C_waiting 2 0, [40, 529, 530, 531]),
  (.aload_n 2, 1, oN 2 0 0, []),
  (.aload_n 0, 1, oN 0 0 0, []),
  (.iload_n 3, 1, oN 3 0 0, []),
  (.iconst 1, 1, oI 1, []),
  (.iadd, 1, oN 0 0 0, []),
  (.iaload, 1, oN 1 0 0, []),
  (.invokevirtual 78, 3, oM M_M_waiting 2 6, [47, 787, 788, 789]),
  (.if_icmp .eq 87, 3, oN 619 0 0, []),
  (.iconst 0, 1, oI 0, []),
  (.ireturn, 1, oN 0 0 0, [])]
theorem B_L_law_514_ok : okB M_L_law 514 B_L_law_514 537 = true := by decide +kernel
def B_L_law_537 : List IT := [(.aload_n 1, 1, oN 1 0 0, []),
  (.invokevirtual 79, 3, oM M_C_ordered 1 0, [40, 538, 539, 540]),
  (.aload_n 2, 1, oN 2 0 0, []),
  (.invokevirtual 83, 3, oM M_M_ordered 1 6, [47, 791, 792, 793]),
  (.if_icmp .eq 74, 3, oN 619 0 0, []),
  (.iconst 0, 1, oI 0, []),
  (.ireturn, 1, oN 0 0 0, [])]
theorem B_L_law_537_ok : okB M_L_law 537 B_L_law_537 550 = true := by decide +kernel
def B_L_law_550 : List IT := [(.aload_n 1, 1, oN 1 0 0, []),
  (.aload_n 0, 1, oN 0 0 0, []),
  (.iload_n 3, 1, oN 3 0 0, []),
  (.iconst 1, 1, oI 1, []),
  (.iadd, 1, oN 0 0 0, []),
  (.iaload, 1, oN 1 0 0, []),
  (.invokevirtual 84, 3, oM M_C_save 2 0, [40, 551, 552, 553]),
  (.aload_n 2, 1, oN 2 0 0, []),
  (.aload_n 0, 1, oN 0 0 0, []),
  (.iload_n 3, 1, oN 3 0 0, []),
  (.iconst 1, 1, oI 1, []),
  (.iadd, 1, oN 0 0 0, []),
  (.iaload, 1, oN 1 0 0, []),
  (.invokevirtual 87, 3, oM M_M_save 2 6, [47, 795, 796, 797]),
  (.if_icmp .eq 51, 3, oN 619 0 0, []),
  (.iconst 0, 1, oI 0, []),
  (.ireturn, 1, oN 0 0 0, [])]
theorem B_L_law_550_ok : okB M_L_law 550 B_L_law_550 573 = true := by decide +kernel
def B_L_law_573 : List IT := [(.aload_n 1, 1, oN 1 0 0, []),
  (.aload_n 0, 1, oN 0 0 0, []),
  (.iload_n 3, 1, oN 3 0 0, []),
  (.iconst 1, 1, oI 1, []),
  (.iadd, 1, oN 0 0 0, []),
  (.iaload, 1, oN 1 0 0, []),
  (.invokevirtual 88, 3, oM M_C_back 2 0, [40, 573, 574, 575]),
  (.aload_n 2, 1, oN 2 0 0, []),
  (.aload_n 0, 1, oN 0 0 0, []),
  (.iload_n 3, 1, oN 3 0 0, []),
  (.iconst 1, 1, oI 1, []),
  (.iadd, 1, oN 0 0 0, []),
  (.iaload, 1, oN 1 0 0, []),
  (.invokevirtual 91, 3, oM M_M_back 2 6, [47, 799, 800, 801]),
  (.if_icmp .eq 28, 3, oN 619 0 0, []),
  (.iconst 0, 1, oI 0, []),
  (.ireturn, 1, oN 0 0 0, [])]
theorem B_L_law_573_ok : okB M_L_law 573 B_L_law_573 596 = true := by decide +kernel
def B_L_law_596 : List IT := [(.aload_n 1, 1, oN 1 0 0, []),
  (.aload_n 0, 1, oN 0 0 0, []),
  (.iload_n 3, 1, oN 3 0 0, []),
  (.iconst 1, 1, oI 1, []),
  (.iadd, 1, oN 0 0 0, []),
  (.iaload, 1, oN 1 0 0, []),
  (.invokevirtual 92, 3, oM M_C_count 2 0, [40, 577, 578, 579]),
  (.aload_n 2, 1, oN 2 0 0, []),
  (.aload_n 0, 1, oN 0 0 0, []),
  (.iload_n 3, 1, oN 3 0 0, []),
  (.iconst 1, 1, oI 1, []),
  (.iadd, 1, oN 0 0 0, []),
  (.iaload, 1, oN 1 0 0, []),
  (.invokevirtual 95, 3, oM M_M_count 2 6, [47, 803, 804, 805]),
  (.if_icmp .eq 5, 3, oN 619 0 0, []),
  (.iconst 0, 1, oI 0, []),
  (.ireturn, 1, oN 0 0 0, [])]
theorem B_L_law_596_ok : okB M_L_law 596 B_L_law_596 619 = true := by decide +kernel
def B_L_law_619 : List IT := [(.iinc 3 5, 3, oJ 3 5, []),
  (.goto (-572), 3, oN 50 0 0, [])]
theorem B_L_law_619_ok : okB M_L_law 619 B_L_law_619 625 = true := by decide +kernel
def B_L_law_625 : List IT := [(.iconst 1, 1, oI 1, []),
  (.ireturn, 1, oN 0 0 0, [])]
theorem B_L_law_625_ok : okB M_L_law 625 B_L_law_625 627 = true := by decide +kernel
end
section
/-! code of M, stretch by stretch (written by program) -/
def B_M_init_0 : List IT := [(.aload_n 0, 1, oN 0 0 0, []),
  (.invokespecial 1, 3, oN 0 0 1, [593, 55]),
  (.aload_n 0, 1, oN 0 0 0, []),
  (.sipush 3900, 3, oI 3900, []),
  (.newarray .int, 2, oN 0 0 0, [128]),
  (.putfield 7, 3, oN 6 3 2, [598]),
  (.aload_n 0, 1, oN 0 0 0, []),
  (.iconst 2, 1, oI 2, []),
  (.newarray .boolean, 2, oN 2 0 0, [656]),
  (.putfield 13, 3, oN 6 4 2, [599]),
  (.aload_n 0, 1, oN 0 0 0, []),
  (.iconst 4, 1, oI 4, []),
  (.newarray .int, 2, oN 0 0 0, [128]),
  (.putfield 17, 3, oN 6 6 2, [601]),
  (.aload_n 0, 1, oN 0 0 0, []),
  (.iconst 4, 1, oI 4, []),
  (.newarray .int, 2, oN 0 0 0, [128]),
  (.putfield 20, 3, oN 6 7 2, [602]),
  (.aload_n 0, 1, oN 0 0 0, []),
  (.iconst 4, 1, oI 4, []),
  (.newarray .int, 2, oN 0 0 0, [128]),
  (.putfield 23, 3, oN 6 8 2, [603]),
  (.aload_n 0, 1, oN 0 0 0, []),
  (.bipush 6, 2, oI 6, []),
  (.newarray .int, 2, oN 0 0 0, [128]),
  (.putfield 26, 3, oN 6 10 2, [605]),
  (.aload_n 0, 1, oN 0 0 0, []),
  (.bipush 6, 2, oI 6, []),
  (.newarray .int, 2, oN 0 0 0, [128]),
  (.putfield 29, 3, oN 6 11 2, [606]),
  (.aload_n 0, 1, oN 0 0 0, []),
  (.bipush 6, 2, oI 6, []),
  (.newarray .int, 2, oN 0 0 0, [128]),
  (.putfield 32, 3, oN 6 12 2, [607]),
  (.aload_n 0, 1, oN 0 0 0, []),
  (.bipush 6, 2, oI 6, []),
  (.newarray .int, 2, oN 0 0 0, [128]),
  (.putfield 35, 3, oN 6 13 2, [608]),
  (.aload_n 0, 1, oN 0 0 0, []),
  (.iconst 4, 1, oI 4, []),
  (.newarray .int, 2, oN 0 0 0, [128]),
  (.putfield 38, 3, oN 6 15 2, [610]),
  (.aload_n 0, 1, oN 0 0 0, []),
  (.iconst 4, 1, oI 4, []),
  (.newarray .int, 2, oN 0 0 0, [128]),
  (.putfield 41, 3, oN 6 16 2, [611]),
  (.aload_n 0, 1, oN 0 0 0, []),
  (.iconst 4, 1, oI 4, []),
  (.newarray .int, 2, oN 0 0 0, [128]),
  (.putfield 44, 3, oN 6 18 2, [613]),
  (.aload_n 0, 1, oN 0 0 0, []),
  (.bipush 60, 2, oI 60, []),
  (.newarray .int, 2, oN 0 0 0, [128]),
  (.putfield 47, 3, oN 6 19 2, [614]),
  (.aload_n 0, 1, oN 0 0 0, []),
  (.lload_n 1, 1, oN 1 0 0, []),
  (.putfield 50, 3, oN 6 0 1, [595]),
  (.aload_n 0, 1, oN 0 0 0, []),
  (.iload_n 3, 1, oN 3 0 0, []),
  (.iconst 1, 1, oI 1, []),
  (.if_icmp .ge 7, 3, oN 117 0 0, []),
  (.iconst 1, 1, oI 1, []),
  (.goto 13, 3, oN 127 0 0, [])]
theorem B_M_init_0_ok : okB M_M_init 0 B_M_init_0 117 = true := by decide +kernel
def B_M_init_117 : List IT := [(.iload_n 3, 1, oN 3 0 0, []),
  (.iconst 3, 1, oI 3, []),
  (.if_icmp .le 7, 3, oN 126 0 0, []),
  (.iconst 3, 1, oI 3, []),
  (.goto 4, 3, oN 127 0 0, [])]
theorem B_M_init_117_ok : okB M_M_init 117 B_M_init_117 126 = true := by decide +kernel
def B_M_init_126 : List IT := [(.iload_n 3, 1, oN 3 0 0, [])]
theorem B_M_init_126_ok : okB M_M_init 126 B_M_init_126 127 = true := by decide +kernel
def B_M_init_127 : List IT := [(.putfield 54, 3, oN 6 1 0, [596]),
  (.aload_n 0, 1, oN 0 0 0, []),
  (.iload 4, 2, oN 4 0 0, []),
  (.sipush 1000, 3, oI 1000, []),
  (.if_icmp .ge 9, 3, oN 145 0 0, []),
  (.sipush 1000, 3, oI 1000, []),
  (.goto 17, 3, oN 159 0 0, [])]
theorem B_M_init_127_ok : okB M_M_init 127 B_M_init_127 145 = true := by decide +kernel
def B_M_init_145 : List IT := [(.iload 4, 2, oN 4 0 0, []),
  (.ldc 58, 2, oI 100000, [594]),
  (.if_icmp .le 8, 3, oN 157 0 0, []),
  (.ldc 58, 2, oI 100000, [594]),
  (.goto 5, 3, oN 159 0 0, [])]
theorem B_M_init_145_ok : okB M_M_init 145 B_M_init_145 157 = true := by decide +kernel
def B_M_init_157 : List IT := [(.iload 4, 2, oN 4 0 0, [])]
theorem B_M_init_157_ok : okB M_M_init 157 B_M_init_157 159 = true := by decide +kernel
def B_M_init_159 : List IT := [(.putfield 59, 3, oN 6 2 0, [597]),
  (.return_, 1, oN 0 0 0, [])]
theorem B_M_init_159_ok : okB M_M_init 159 B_M_init_159 163 = true := by decide +kernel
def B_M_allowed_0 : List IT := [(.iload_n 0, 1, oN 0 0 0, []),
  (.sipush 200, 3, oI 200, []),
  (.if_icmp .ge 7, 3, oN 11 0 0, []),
  (.iconst 0, 1, oI 0, []),
  (.goto 11, 3, oN 19 0 0, [])]
theorem B_M_allowed_0_ok : okB M_M_allowed 0 B_M_allowed_0 11 = true := by decide +kernel
def B_M_allowed_11 : List IT := [(.iload_n 0, 1, oN 0 0 0, []),
  (.sipush 200, 3, oI 200, []),
  (.isub, 1, oN 0 0 0, []),
  (.bipush 10, 2, oI 10, []),
  (.idiv, 1, oN 0 0 0, [])]
theorem B_M_allowed_11_ok : okB M_M_allowed 11 B_M_allowed_11 19 = true := by decide +kernel
def B_M_allowed_19 : List IT := [(.ireturn, 1, oN 0 0 0, [])]
theorem B_M_allowed_19_ok : okB M_M_allowed 19 B_M_allowed_19 20 = true := by decide +kernel
def B_M_back_0 : List IT := [(.iload_n 1, 1, oN 1 0 0, []),
  (.iconst 0, 1, oI 0, []),
  (.iconst 1, 1, oI 1, []),
  (.invokestatic 66, 3, oM M_M_within 3 0, [47, 661, 662]),
  (.ifCond .eq 12, 3, oN 18 0 0, []),
  (.aload_n 0, 1, oN 0 0 0, []),
  (.getfield 13, 3, oN 6 4 2, [599]),
  (.iload_n 1, 1, oN 1 0 0, []),
  (.baload, 1, oN 0 0 0, []),
  (.ifCond .ne 5, 3, oN 20 0 0, [])]
theorem B_M_back_0_ok : okB M_M_back 0 B_M_back_0 18 = true := by decide +kernel
def B_M_back_18 : List IT := [(.iconst (-1), 1, oI (-1), []),
  (.ireturn, 1, oN 0 0 0, [])]
theorem B_M_back_18_ok : okB M_M_back 18 B_M_back_18 20 = true := by decide +kernel
def B_M_back_20 : List IT := [(.iconst 0, 1, oI 0, []),
  (.istore_n 2, 1, oN 2 0 0, [])]
theorem B_M_back_20_ok : okB M_M_back 20 B_M_back_20 22 = true := by decide +kernel
def B_M_back_22 : List IT := [(.iload_n 2, 1, oN 2 0 0, []),
  (.sipush 1300, 3, oI 1300, []),
  (.if_icmp .ge 29, 3, oN 55 0 0, []),
  (.aload_n 0, 1, oN 0 0 0, []),
  (.getfield 7, 3, oN 6 3 2, [598]),
  (.iload_n 2, 1, oN 2 0 0, []),
  (.aload_n 0, 1, oN 0 0 0, []),
  (.getfield 7, 3, oN 6 3 2, [598]),
  (.sipush 1300, 3, oI 1300, []),
  (.iload_n 1, 1, oN 1 0 0, []),
  (.iconst 1, 1, oI 1, []),
  (.iadd, 1, oN 0 0 0, []),
  (.imul, 1, oN 0 0 0, []),
  (.iload_n 2, 1, oN 2 0 0, []),
  (.iadd, 1, oN 0 0 0, []),
  (.iaload, 1, oN 0 0 0, []),
  (.iastore, 1, oN 0 0 0, []),
  (.iinc 2 1, 3, oJ 2 1, []),
  (.goto (-30), 3, oN 22 0 0, [])]
theorem B_M_back_22_ok : okB M_M_back 22 B_M_back_22 55 = true := by decide +kernel
def B_M_back_55 : List IT := [(.aload_n 0, 1, oN 0 0 0, []),
  (.invokevirtual 119, 3, oM M_M_now 1 6, [47, 721, 723, 31]),
  (.ireturn, 1, oN 0 0 0, [])]
theorem B_M_back_55_ok : okB M_M_back 55 B_M_back_55 60 = true := by decide +kernel
def B_M_before_0 : List IT := [(.iconst (-1), 1, oI (-1), []),
  (.istore_n 3, 1, oN 3 0 0, []),
  (.iconst 0, 1, oI 0, []),
  (.istore 4, 2, oN 4 0 0, [])]
theorem B_M_before_0_ok : okB M_M_before 0 B_M_before_0 5 = true := by decide +kernel
def B_M_before_5 : List IT := [(.iload 4, 2, oN 4 0 0, []),
  (.aload_n 0, 1, oN 0 0 0, []),
  (.invokevirtual 70, 3, oM M_M_cars 1 6, [47, 664, 666, 23]),
  (.if_icmp .ge 78, 3, oN 89 0 0, []),
  (.iload 4, 2, oN 4 0 0, []),
  (.iload_n 1, 1, oN 1 0 0, []),
  (.if_icmp .eq 33, 3, oN 50 0 0, []),
  (.aload_n 0, 1, oN 0 0 0, []),
  (.iload 4, 2, oN 4 0 0, []),
  (.iload_n 2, 1, oN 2 0 0, []),
  (.invokevirtual 104, 3, oM M_M_isOn 3 6, [47, 713, 715, 29]),
  (.ifCond .eq 23, 3, oN 50 0 0, []),
  (.aload_n 0, 1, oN 0 0 0, []),
  (.iload 4, 2, oN 4 0 0, []),
  (.iconst 3, 1, oI 3, []),
  (.invokevirtual 62, 3, oM M_M_of 3 6, [47, 709, 711, 28]),
  (.aload_n 0, 1, oN 0 0 0, []),
  (.iload_n 1, 1, oN 1 0 0, []),
  (.iconst 3, 1, oI 3, []),
  (.invokevirtual 62, 3, oM M_M_of 3 6, [47, 709, 711, 28]),
  (.if_icmp .le 7, 3, oN 50 0 0, []),
  (.iconst 1, 1, oI 1, []),
  (.goto 4, 3, oN 51 0 0, [])]
theorem B_M_before_5_ok : okB M_M_before 5 B_M_before_5 50 = true := by decide +kernel
def B_M_before_50 : List IT := [(.iconst 0, 1, oI 0, [])]
theorem B_M_before_50_ok : okB M_M_before 50 B_M_before_50 51 = true := by decide +kernel
def B_M_before_51 : List IT := [(.istore 5, 2, oN 5 0 0, []),
  (.iload 5, 2, oN 5 0 0, []),
  (.ifCond .eq 26, 3, oN 81 0 0, []),
  (.iload_n 3, 1, oN 3 0 0, []),
  (.ifCond .lt 17, 3, oN 76 0 0, []),
  (.aload_n 0, 1, oN 0 0 0, []),
  (.iload 4, 2, oN 4 0 0, []),
  (.invokevirtual 108, 3, oM M_M_rear 2 6, [47, 717, 719, 30]),
  (.aload_n 0, 1, oN 0 0 0, []),
  (.iload_n 3, 1, oN 3 0 0, []),
  (.invokevirtual 108, 3, oM M_M_rear 2 6, [47, 717, 719, 30]),
  (.if_icmp .ge 8, 3, oN 81 0 0, [])]
theorem B_M_before_51_ok : okB M_M_before 51 B_M_before_51 76 = true := by decide +kernel
def B_M_before_76 : List IT := [(.iload 4, 2, oN 4 0 0, []),
  (.goto 4, 3, oN 82 0 0, [])]
theorem B_M_before_76_ok : okB M_M_before 76 B_M_before_76 81 = true := by decide +kernel
def B_M_before_81 : List IT := [(.iload_n 3, 1, oN 3 0 0, [])]
theorem B_M_before_81_ok : okB M_M_before 81 B_M_before_81 82 = true := by decide +kernel
def B_M_before_82 : List IT := [(.istore_n 3, 1, oN 3 0 0, []),
  (.iinc 4 1, 3, oJ 4 1, []),
  (.goto (-81), 3, oN 5 0 0, [])]
theorem B_M_before_82_ok : okB M_M_before 82 B_M_before_82 89 = true := by decide +kernel
def B_M_before_89 : List IT := [(.iload_n 3, 1, oN 3 0 0, []),
  (.ireturn, 1, oN 0 0 0, [])]
theorem B_M_before_89_ok : okB M_M_before 89 B_M_before_89 91 = true := by decide +kernel
def B_M_cars_0 : List IT := [(.aload_n 0, 1, oN 0 0 0, []),
  (.getfield 7, 3, oN 6 3 2, [598]),
  (.iconst 0, 1, oI 0, []),
  (.iaload, 1, oN 0 0 0, []),
  (.ireturn, 1, oN 0 0 0, [])]
theorem B_M_cars_0_ok : okB M_M_cars 0 B_M_cars_0 7 = true := by decide +kernel
def B_M_change_0 : List IT := [(.aload_n 0, 1, oN 0 0 0, []),
  (.iload_n 1, 1, oN 1 0 0, []),
  (.iconst 2, 1, oI 2, []),
  (.invokevirtual 62, 3, oM M_M_of 3 6, [47, 709, 711, 28]),
  (.iconst 1, 1, oI 1, []),
  (.if_icmp .ne 20, 3, oN 27 0 0, []),
  (.aload_n 0, 1, oN 0 0 0, []),
  (.invokevirtual 119, 3, oM M_M_now 1 6, [47, 721, 723, 31]),
  (.aload_n 0, 1, oN 0 0 0, []),
  (.iload_n 1, 1, oN 1 0 0, []),
  (.bipush 7, 2, oI 7, []),
  (.invokevirtual 62, 3, oM M_M_of 3 6, [47, 709, 711, 28]),
  (.isub, 1, oN 0 0 0, []),
  (.bipush 30, 2, oI 30, []),
  (.if_icmp .gt 4, 3, oN 28 0 0, [])]
theorem B_M_change_0_ok : okB M_M_change 0 B_M_change_0 27 = true := by decide +kernel
def B_M_change_27 : List IT := [(.return_, 1, oN 0 0 0, [])]
theorem B_M_change_27_ok : okB M_M_change 27 B_M_change_27 28 = true := by decide +kernel
def B_M_change_28 : List IT := [(.aload_n 0, 1, oN 0 0 0, []),
  (.iload_n 1, 1, oN 1 0 0, []),
  (.iconst 1, 1, oI 1, []),
  (.invokevirtual 62, 3, oM M_M_of 3 6, [47, 709, 711, 28]),
  (.istore_n 2, 1, oN 2 0 0, []),
  (.aload_n 0, 1, oN 0 0 0, []),
  (.iload_n 1, 1, oN 1 0 0, []),
  (.iload_n 2, 1, oN 2 0 0, []),
  (.invokevirtual 126, 3, oM M_M_gapIn 3 6, [47, 725, 727, 32]),
  (.istore_n 3, 1, oN 3 0 0, []),
  (.iload_n 3, 1, oN 3 0 0, []),
  (.invokestatic 129, 3, oM M_M_allowed 1 0, [47, 740, 741]),
  (.aload_n 0, 1, oN 0 0 0, []),
  (.iload_n 1, 1, oN 1 0 0, []),
  (.bipush 9, 2, oI 9, []),
  (.invokevirtual 62, 3, oM M_M_of 3 6, [47, 709, 711, 28]),
  (.if_icmp .lt 4, 3, oN 57 0 0, []),
  (.return_, 1, oN 0 0 0, [])]
theorem B_M_change_28_ok : okB M_M_change 28 B_M_change_28 57 = true := by decide +kernel
def B_M_change_57 : List IT := [(.aload_n 0, 1, oN 0 0 0, []),
  (.iload_n 1, 1, oN 1 0 0, []),
  (.iload_n 2, 1, oN 2 0 0, []),
  (.iconst 1, 1, oI 1, []),
  (.isub, 1, oN 0 0 0, []),
  (.iload_n 3, 1, oN 3 0 0, []),
  (.invokevirtual 132, 3, oM M_M_mayGo 4 6, [47, 747, 749, 35]),
  (.ifCond .eq 9, 3, oN 75 0 0, []),
  (.iload_n 2, 1, oN 2 0 0, []),
  (.iconst 1, 1, oI 1, []),
  (.isub, 1, oN 0 0 0, []),
  (.goto 22, 3, oN 94 0 0, [])]
theorem B_M_change_57_ok : okB M_M_change 57 B_M_change_57 75 = true := by decide +kernel
def B_M_change_75 : List IT := [(.aload_n 0, 1, oN 0 0 0, []),
  (.iload_n 1, 1, oN 1 0 0, []),
  (.iload_n 2, 1, oN 2 0 0, []),
  (.iconst 1, 1, oI 1, []),
  (.iadd, 1, oN 0 0 0, []),
  (.iload_n 3, 1, oN 3 0 0, []),
  (.invokevirtual 132, 3, oM M_M_mayGo 4 6, [47, 747, 749, 35]),
  (.ifCond .eq 9, 3, oN 93 0 0, []),
  (.iload_n 2, 1, oN 2 0 0, []),
  (.iconst 1, 1, oI 1, []),
  (.iadd, 1, oN 0 0 0, []),
  (.goto 4, 3, oN 94 0 0, [])]
theorem B_M_change_75_ok : okB M_M_change 75 B_M_change_75 93 = true := by decide +kernel
def B_M_change_93 : List IT := [(.iload_n 2, 1, oN 2 0 0, [])]
theorem B_M_change_93_ok : okB M_M_change 93 B_M_change_93 94 = true := by decide +kernel
def B_M_change_94 : List IT := [(.istore 4, 2, oN 4 0 0, []),
  (.iload 4, 2, oN 4 0 0, []),
  (.iload_n 2, 1, oN 2 0 0, []),
  (.if_icmp .eq 32, 3, oN 131 0 0, []),
  (.aload_n 0, 1, oN 0 0 0, []),
  (.iload_n 1, 1, oN 1 0 0, []),
  (.iconst 1, 1, oI 1, []),
  (.iload 4, 2, oN 4 0 0, []),
  (.invokevirtual 74, 3, oM M_M_put 4 6, [47, 668, 670, 24]),
  (.aload_n 0, 1, oN 0 0 0, []),
  (.iload_n 1, 1, oN 1 0 0, []),
  (.bipush 7, 2, oI 7, []),
  (.aload_n 0, 1, oN 0 0 0, []),
  (.invokevirtual 119, 3, oM M_M_now 1 6, [47, 721, 723, 31]),
  (.invokevirtual 74, 3, oM M_M_put 4 6, [47, 668, 670, 24]),
  (.aload_n 0, 1, oN 0 0 0, []),
  (.getfield 7, 3, oN 6 3 2, [598]),
  (.iconst 5, 1, oI 5, []),
  (.dup2, 1, oN 0 0 0, []),
  (.iaload, 1, oN 0 0 0, []),
  (.iconst 1, 1, oI 1, []),
  (.iadd, 1, oN 0 0 0, []),
  (.iastore, 1, oN 0 0 0, [])]
theorem B_M_change_94_ok : okB M_M_change 94 B_M_change_94 131 = true := by decide +kernel
def B_M_change_131 : List IT := [(.return_, 1, oN 0 0 0, [])]
theorem B_M_change_131_ok : okB M_M_change 131 B_M_change_131 132 = true := by decide +kernel
def B_M_close_0 : List IT := [(.iload_n 1, 1, oN 1 0 0, []),
  (.iconst 0, 1, oI 0, []),
  (.aload_n 0, 1, oN 0 0 0, []),
  (.getfield 54, 3, oN 6 1 0, [596]),
  (.iconst 1, 1, oI 1, []),
  (.isub, 1, oN 0 0 0, []),
  (.invokestatic 66, 3, oM M_M_within 3 0, [47, 661, 662]),
  (.ifCond .eq 30, 3, oN 41 0 0, []),
  (.aload_n 0, 1, oN 0 0 0, []),
  (.iload_n 2, 1, oN 2 0 0, []),
  (.invokevirtual 88, 3, oM M_M_isPlace 2 6, [47, 681, 683, 25]),
  (.ifCond .eq 22, 3, oN 41 0 0, []),
  (.iload_n 3, 1, oN 3 0 0, []),
  (.ifCond .lt 18, 3, oN 41 0 0, []),
  (.iload 4, 2, oN 4 0 0, []),
  (.iload_n 3, 1, oN 3 0 0, []),
  (.if_icmp .lt 12, 3, oN 41 0 0, []),
  (.aload_n 0, 1, oN 0 0 0, []),
  (.getfield 95, 3, oN 6 9 0, [604]),
  (.bipush 6, 2, oI 6, []),
  (.if_icmp .ne 5, 3, oN 43 0 0, [])]
theorem B_M_close_0_ok : okB M_M_close 0 B_M_close_0 41 = true := by decide +kernel
def B_M_close_41 : List IT := [(.iconst 0, 1, oI 0, []),
  (.ireturn, 1, oN 0 0 0, [])]
theorem B_M_close_41_ok : okB M_M_close 41 B_M_close_41 43 = true := by decide +kernel
def B_M_close_43 : List IT := [(.aload_n 0, 1, oN 0 0 0, []),
  (.getfield 26, 3, oN 6 10 2, [605]),
  (.aload_n 0, 1, oN 0 0 0, []),
  (.getfield 95, 3, oN 6 9 0, [604]),
  (.iload_n 1, 1, oN 1 0 0, []),
  (.iastore, 1, oN 0 0 0, []),
  (.aload_n 0, 1, oN 0 0 0, []),
  (.getfield 29, 3, oN 6 11 2, [606]),
  (.aload_n 0, 1, oN 0 0 0, []),
  (.getfield 95, 3, oN 6 9 0, [604]),
  (.iload_n 2, 1, oN 2 0 0, []),
  (.iastore, 1, oN 0 0 0, []),
  (.aload_n 0, 1, oN 0 0 0, []),
  (.getfield 32, 3, oN 6 12 2, [607]),
  (.aload_n 0, 1, oN 0 0 0, []),
  (.getfield 95, 3, oN 6 9 0, [604]),
  (.iload_n 3, 1, oN 3 0 0, []),
  (.iastore, 1, oN 0 0 0, []),
  (.aload_n 0, 1, oN 0 0 0, []),
  (.getfield 35, 3, oN 6 13 2, [608]),
  (.aload_n 0, 1, oN 0 0 0, []),
  (.getfield 95, 3, oN 6 9 0, [604]),
  (.iload 4, 2, oN 4 0 0, []),
  (.iastore, 1, oN 0 0 0, []),
  (.aload_n 0, 1, oN 0 0 0, []),
  (.dup, 1, oN 0 0 0, []),
  (.getfield 95, 3, oN 6 9 0, [604]),
  (.iconst 1, 1, oI 1, []),
  (.iadd, 1, oN 0 0 0, []),
  (.putfield 95, 3, oN 6 9 0, [604]),
  (.iconst 1, 1, oI 1, []),
  (.ireturn, 1, oN 0 0 0, [])]
theorem B_M_close_43_ok : okB M_M_close 43 B_M_close_43 96 = true := by decide +kernel
def B_M_come_0 : List IT := [(.iload_n 1, 1, oN 1 0 0, []),
  (.iconst 0, 1, oI 0, []),
  (.aload_n 0, 1, oN 0 0 0, []),
  (.getfield 54, 3, oN 6 1 0, [596]),
  (.iconst 1, 1, oI 1, []),
  (.isub, 1, oN 0 0 0, []),
  (.invokestatic 66, 3, oM M_M_within 3 0, [47, 661, 662]),
  (.ifCond .eq 21, 3, oN 32 0 0, []),
  (.iload_n 2, 1, oN 2 0 0, []),
  (.iconst 0, 1, oI 0, []),
  (.iconst 1, 1, oI 1, []),
  (.invokestatic 66, 3, oM M_M_within 3 0, [47, 661, 662]),
  (.ifCond .eq 12, 3, oN 32 0 0, []),
  (.aload_n 0, 1, oN 0 0 0, []),
  (.invokevirtual 70, 3, oM M_M_cars 1 6, [47, 664, 666, 23]),
  (.bipush 60, 2, oI 60, []),
  (.if_icmp .ne 5, 3, oN 34 0 0, [])]
theorem B_M_come_0_ok : okB M_M_come 0 B_M_come_0 32 = true := by decide +kernel
def B_M_come_32 : List IT := [(.iconst (-1), 1, oI (-1), []),
  (.ireturn, 1, oN 0 0 0, [])]
theorem B_M_come_32_ok : okB M_M_come 32 B_M_come_32 34 = true := by decide +kernel
def B_M_come_34 : List IT := [(.aload_n 0, 1, oN 0 0 0, []),
  (.invokevirtual 70, 3, oM M_M_cars 1 6, [47, 664, 666, 23]),
  (.istore_n 3, 1, oN 3 0 0, []),
  (.iconst 0, 1, oI 0, []),
  (.istore 4, 2, oN 4 0 0, [])]
theorem B_M_come_34_ok : okB M_M_come 34 B_M_come_34 42 = true := by decide +kernel
def B_M_come_42 : List IT := [(.iload 4, 2, oN 4 0 0, []),
  (.bipush 20, 2, oI 20, []),
  (.if_icmp .ge 17, 3, oN 63 0 0, []),
  (.aload_n 0, 1, oN 0 0 0, []),
  (.iload_n 3, 1, oN 3 0 0, []),
  (.iload 4, 2, oN 4 0 0, []),
  (.iconst 0, 1, oI 0, []),
  (.invokevirtual 74, 3, oM M_M_put 4 6, [47, 668, 670, 24]),
  (.iinc 4 1, 3, oJ 4 1, []),
  (.goto (-18), 3, oN 42 0 0, [])]
theorem B_M_come_42_ok : okB M_M_come 42 B_M_come_42 63 = true := by decide +kernel
def B_M_come_63 : List IT := [(.aload_n 0, 1, oN 0 0 0, []),
  (.getfield 50, 3, oN 6 0 1, [595]),
  (.ldc2_w 78, 3, oL 7919, [672]),
  (.iload_n 3, 1, oN 3 0 0, []),
  (.i2l, 1, oN 0 0 0, []),
  (.lmul, 1, oN 0 0 0, []),
  (.ladd, 1, oN 0 0 0, []),
  (.ldc2_w 80, 3, oL 2147483647, [673]),
  (.land, 1, oN 0 0 0, []),
  (.lstore 4, 2, oN 4 0 0, []),
  (.iconst 0, 1, oI 0, []),
  (.istore 6, 2, oN 6 0 0, [])]
theorem B_M_come_63_ok : okB M_M_come 63 B_M_come_63 83 = true := by decide +kernel
def B_M_come_83 : List IT := [(.iload 6, 2, oN 6 0 0, []),
  (.iconst 3, 1, oI 3, []),
  (.if_icmp .ge 119, 3, oN 205 0 0, []),
  (.lload 4, 2, oN 4 0 0, []),
  (.ldc2_w 82, 3, oL 1103515245, [674]),
  (.lmul, 1, oN 0 0 0, []),
  (.ldc2_w 84, 3, oL 12345, [675]),
  (.ladd, 1, oN 0 0 0, []),
  (.ldc2_w 80, 3, oL 2147483647, [673]),
  (.land, 1, oN 0 0 0, []),
  (.lstore 4, 2, oN 4 0 0, []),
  (.lload 4, 2, oN 4 0 0, []),
  (.ldc2_w 86, 3, oL 65536, [676]),
  (.ldiv, 1, oN 0 0 0, []),
  (.l2i, 1, oN 0 0 0, []),
  (.istore 7, 2, oN 7 0 0, []),
  (.iload 6, 2, oN 6 0 0, []),
  (.ifCond .ne 33, 3, oN 149 0 0, []),
  (.aload_n 0, 1, oN 0 0 0, []),
  (.iload_n 3, 1, oN 3 0 0, []),
  (.bipush 8, 2, oI 8, []),
  (.iload_n 2, 1, oN 2 0 0, []),
  (.iconst 1, 1, oI 1, []),
  (.if_icmp .ne 9, 3, oN 134 0 0, []),
  (.sipush 1200, 3, oI 1200, []),
  (.goto 12, 3, oN 143 0 0, [])]
theorem B_M_come_83_ok : okB M_M_come 83 B_M_come_83 134 = true := by decide +kernel
def B_M_come_134 : List IT := [(.sipush 400, 3, oI 400, []),
  (.iload 7, 2, oN 7 0 0, []),
  (.bipush 121, 2, oI 121, []),
  (.irem, 1, oN 0 0 0, []),
  (.iadd, 1, oN 0 0 0, [])]
theorem B_M_come_134_ok : okB M_M_come 134 B_M_come_134 143 = true := by decide +kernel
def B_M_come_143 : List IT := [(.invokevirtual 74, 3, oM M_M_put 4 6, [47, 668, 670, 24]),
  (.goto 53, 3, oN 199 0 0, [])]
theorem B_M_come_143_ok : okB M_M_come 143 B_M_come_143 149 = true := by decide +kernel
def B_M_come_149 : List IT := [(.iload 6, 2, oN 6 0 0, []),
  (.iconst 1, 1, oI 1, []),
  (.if_icmp .ne 33, 3, oN 185 0 0, []),
  (.aload_n 0, 1, oN 0 0 0, []),
  (.iload_n 3, 1, oN 3 0 0, []),
  (.bipush 9, 2, oI 9, []),
  (.bipush 80, 2, oI 80, []),
  (.iload 7, 2, oN 7 0 0, []),
  (.bipush 120, 2, oI 120, []),
  (.irem, 1, oN 0 0 0, []),
  (.iadd, 1, oN 0 0 0, []),
  (.iload_n 2, 1, oN 2 0 0, []),
  (.iconst 1, 1, oI 1, []),
  (.if_icmp .ne 8, 3, oN 177 0 0, []),
  (.bipush 40, 2, oI 40, []),
  (.goto 4, 3, oN 178 0 0, [])]
theorem B_M_come_149_ok : okB M_M_come 149 B_M_come_149 177 = true := by decide +kernel
def B_M_come_177 : List IT := [(.iconst 0, 1, oI 0, [])]
theorem B_M_come_177_ok : okB M_M_come 177 B_M_come_177 178 = true := by decide +kernel
def B_M_come_178 : List IT := [(.isub, 1, oN 0 0 0, []),
  (.invokevirtual 74, 3, oM M_M_put 4 6, [47, 668, 670, 24]),
  (.goto 17, 3, oN 199 0 0, [])]
theorem B_M_come_178_ok : okB M_M_come 178 B_M_come_178 185 = true := by decide +kernel
def B_M_come_185 : List IT := [(.aload_n 0, 1, oN 0 0 0, []),
  (.iload_n 3, 1, oN 3 0 0, []),
  (.bipush 10, 2, oI 10, []),
  (.iconst 1, 1, oI 1, []),
  (.iload 7, 2, oN 7 0 0, []),
  (.bipush 9, 2, oI 9, []),
  (.irem, 1, oN 0 0 0, []),
  (.iadd, 1, oN 0 0 0, []),
  (.invokevirtual 74, 3, oM M_M_put 4 6, [47, 668, 670, 24])]
theorem B_M_come_185_ok : okB M_M_come 185 B_M_come_185 199 = true := by decide +kernel
def B_M_come_199 : List IT := [(.iinc 6 1, 3, oJ 6 1, []),
  (.goto (-119), 3, oN 83 0 0, [])]
theorem B_M_come_199_ok : okB M_M_come 199 B_M_come_199 205 = true := by decide +kernel
def B_M_come_205 : List IT := [(.aload_n 0, 1, oN 0 0 0, []),
  (.iload_n 3, 1, oN 3 0 0, []),
  (.iconst 0, 1, oI 0, []),
  (.iload_n 2, 1, oN 2 0 0, []),
  (.invokevirtual 74, 3, oM M_M_put 4 6, [47, 668, 670, 24]),
  (.aload_n 0, 1, oN 0 0 0, []),
  (.iload_n 3, 1, oN 3 0 0, []),
  (.iconst 1, 1, oI 1, []),
  (.iload_n 1, 1, oN 1 0 0, []),
  (.invokevirtual 74, 3, oM M_M_put 4 6, [47, 668, 670, 24]),
  (.aload_n 0, 1, oN 0 0 0, []),
  (.iload_n 3, 1, oN 3 0 0, []),
  (.iconst 5, 1, oI 5, []),
  (.iconst (-1), 1, oI (-1), []),
  (.invokevirtual 74, 3, oM M_M_put 4 6, [47, 668, 670, 24]),
  (.aload_n 0, 1, oN 0 0 0, []),
  (.iload_n 3, 1, oN 3 0 0, []),
  (.bipush 6, 2, oI 6, []),
  (.iconst (-1), 1, oI (-1), []),
  (.invokevirtual 74, 3, oM M_M_put 4 6, [47, 668, 670, 24]),
  (.aload_n 0, 1, oN 0 0 0, []),
  (.getfield 7, 3, oN 6 3 2, [598]),
  (.iconst 0, 1, oI 0, []),
  (.dup2, 1, oN 0 0 0, []),
  (.iaload, 1, oN 0 0 0, []),
  (.iconst 1, 1, oI 1, []),
  (.iadd, 1, oN 0 0 0, []),
  (.iastore, 1, oN 0 0 0, []),
  (.iload_n 3, 1, oN 3 0 0, []),
  (.ireturn, 1, oN 0 0 0, [])]
theorem B_M_come_205_ok : okB M_M_come 205 B_M_come_205 246 = true := by decide +kernel
def B_M_count_0 : List IT := [(.iconst 0, 1, oI 0, []),
  (.istore_n 2, 1, oN 2 0 0, []),
  (.iload_n 1, 1, oN 1 0 0, []),
  (.tableswitch 129 0 9 #[53, 58, 58, 94, 99, 104, 109, 114, 119, 124], 53, oS 132 [(0, 56), (1, 61), (2, 61), (3, 97), (4, 102), (5, 107), (6, 112), (7, 117), (8, 122), (9, 127)], [])]
theorem B_M_count_0_ok : okB M_M_count 0 B_M_count_0 56 = true := by decide +kernel
def B_M_count_56 : List IT := [(.aload_n 0, 1, oN 0 0 0, []),
  (.invokevirtual 70, 3, oM M_M_cars 1 6, [47, 664, 666, 23]),
  (.ireturn, 1, oN 0 0 0, [])]
theorem B_M_count_56_ok : okB M_M_count 56 B_M_count_56 61 = true := by decide +kernel
def B_M_count_61 : List IT := [(.iconst 0, 1, oI 0, []),
  (.istore_n 3, 1, oN 3 0 0, [])]
theorem B_M_count_61_ok : okB M_M_count 61 B_M_count_61 63 = true := by decide +kernel
def B_M_count_63 : List IT := [(.iload_n 3, 1, oN 3 0 0, []),
  (.aload_n 0, 1, oN 0 0 0, []),
  (.invokevirtual 70, 3, oM M_M_cars 1 6, [47, 664, 666, 23]),
  (.if_icmp .ge 27, 3, oN 95 0 0, []),
  (.iload_n 2, 1, oN 2 0 0, []),
  (.aload_n 0, 1, oN 0 0 0, []),
  (.iload_n 3, 1, oN 3 0 0, []),
  (.iconst 2, 1, oI 2, []),
  (.invokevirtual 62, 3, oM M_M_of 3 6, [47, 709, 711, 28]),
  (.iload_n 1, 1, oN 1 0 0, []),
  (.if_icmp .ne 7, 3, oN 86 0 0, []),
  (.iconst 1, 1, oI 1, []),
  (.goto 4, 3, oN 87 0 0, [])]
theorem B_M_count_63_ok : okB M_M_count 63 B_M_count_63 86 = true := by decide +kernel
def B_M_count_86 : List IT := [(.iconst 0, 1, oI 0, [])]
theorem B_M_count_86_ok : okB M_M_count 86 B_M_count_86 87 = true := by decide +kernel
def B_M_count_87 : List IT := [(.iadd, 1, oN 0 0 0, []),
  (.istore_n 2, 1, oN 2 0 0, []),
  (.iinc 3 1, 3, oJ 3 1, []),
  (.goto (-29), 3, oN 63 0 0, [])]
theorem B_M_count_87_ok : okB M_M_count 87 B_M_count_87 95 = true := by decide +kernel
def B_M_count_95 : List IT := [(.iload_n 2, 1, oN 2 0 0, []),
  (.ireturn, 1, oN 0 0 0, [])]
theorem B_M_count_95_ok : okB M_M_count 95 B_M_count_95 97 = true := by decide +kernel
def B_M_count_97 : List IT := [(.aload_n 0, 1, oN 0 0 0, []),
  (.invokevirtual 119, 3, oM M_M_now 1 6, [47, 721, 723, 31]),
  (.ireturn, 1, oN 0 0 0, [])]
theorem B_M_count_97_ok : okB M_M_count 97 B_M_count_97 102 = true := by decide +kernel
def B_M_count_102 : List IT := [(.aload_n 0, 1, oN 0 0 0, []),
  (.getfield 92, 3, oN 6 5 0, [600]),
  (.ireturn, 1, oN 0 0 0, [])]
theorem B_M_count_102_ok : okB M_M_count 102 B_M_count_102 107 = true := by decide +kernel
def B_M_count_107 : List IT := [(.aload_n 0, 1, oN 0 0 0, []),
  (.getfield 95, 3, oN 6 9 0, [604]),
  (.ireturn, 1, oN 0 0 0, [])]
theorem B_M_count_107_ok : okB M_M_count 107 B_M_count_107 112 = true := by decide +kernel
def B_M_count_112 : List IT := [(.aload_n 0, 1, oN 0 0 0, []),
  (.getfield 98, 3, oN 6 14 0, [609]),
  (.ireturn, 1, oN 0 0 0, [])]
theorem B_M_count_112_ok : okB M_M_count 112 B_M_count_112 117 = true := by decide +kernel
def B_M_count_117 : List IT := [(.aload_n 0, 1, oN 0 0 0, []),
  (.getfield 101, 3, oN 6 17 0, [612]),
  (.ireturn, 1, oN 0 0 0, [])]
theorem B_M_count_117_ok : okB M_M_count 117 B_M_count_117 122 = true := by decide +kernel
def B_M_count_122 : List IT := [(.aload_n 0, 1, oN 0 0 0, []),
  (.getfield 54, 3, oN 6 1 0, [596]),
  (.ireturn, 1, oN 0 0 0, [])]
theorem B_M_count_122_ok : okB M_M_count 122 B_M_count_122 127 = true := by decide +kernel
def B_M_count_127 : List IT := [(.aload_n 0, 1, oN 0 0 0, []),
  (.getfield 59, 3, oN 6 2 0, [597]),
  (.ireturn, 1, oN 0 0 0, [])]
theorem B_M_count_127_ok : okB M_M_count 127 B_M_count_127 132 = true := by decide +kernel
def B_M_count_132 : List IT := [(.iconst (-1), 1, oI (-1), []),
  (.ireturn, 1, oN 0 0 0, [])]
theorem B_M_count_132_ok : okB M_M_count 132 B_M_count_132 134 = true := by decide +kernel
def B_M_counted_0 : List IT := [(.iload_n 1, 1, oN 1 0 0, []),
  (.iconst 0, 1, oI 0, []),
  (.aload_n 0, 1, oN 0 0 0, []),
  (.getfield 101, 3, oN 6 17 0, [612]),
  (.iconst 1, 1, oI 1, []),
  (.isub, 1, oN 0 0 0, []),
  (.invokestatic 66, 3, oM M_M_within 3 0, [47, 661, 662]),
  (.ifCond .eq 33, 3, oN 44 0 0, []),
  (.iload_n 2, 1, oN 2 0 0, []),
  (.iconst 0, 1, oI 0, []),
  (.aload_n 0, 1, oN 0 0 0, []),
  (.getfield 54, 3, oN 6 1 0, [596]),
  (.iconst 1, 1, oI 1, []),
  (.isub, 1, oN 0 0 0, []),
  (.invokestatic 66, 3, oM M_M_within 3 0, [47, 661, 662]),
  (.ifCond .eq 19, 3, oN 44 0 0, []),
  (.aload_n 0, 1, oN 0 0 0, []),
  (.getfield 7, 3, oN 6 3 2, [598]),
  (.bipush 6, 2, oI 6, []),
  (.iconst 3, 1, oI 3, []),
  (.iload_n 1, 1, oN 1 0 0, []),
  (.imul, 1, oN 0 0 0, []),
  (.iadd, 1, oN 0 0 0, []),
  (.iload_n 2, 1, oN 2 0 0, []),
  (.iadd, 1, oN 0 0 0, []),
  (.iaload, 1, oN 0 0 0, []),
  (.goto 4, 3, oN 45 0 0, [])]
theorem B_M_counted_0_ok : okB M_M_counted 0 B_M_counted_0 44 = true := by decide +kernel
def B_M_counted_44 : List IT := [(.iconst (-1), 1, oI (-1), [])]
theorem B_M_counted_44_ok : okB M_M_counted 44 B_M_counted_44 45 = true := by decide +kernel
def B_M_counted_45 : List IT := [(.ireturn, 1, oN 0 0 0, [])]
theorem B_M_counted_45_ok : okB M_M_counted 45 B_M_counted_45 46 = true := by decide +kernel
def B_M_drawn_0 : List IT := [(.aload_n 0, 1, oN 0 0 0, []),
  (.iload_n 1, 1, oN 1 0 0, []),
  (.invokevirtual 151, 3, oM M_M_isCar 2 6, [47, 763, 765, 38]),
  (.ifCond .eq 24, 3, oN 29 0 0, []),
  (.iload_n 2, 1, oN 2 0 0, []),
  (.iconst 0, 1, oI 0, []),
  (.iconst 2, 1, oI 2, []),
  (.invokestatic 66, 3, oM M_M_within 3 0, [47, 661, 662]),
  (.ifCond .eq 15, 3, oN 29 0 0, []),
  (.aload_n 0, 1, oN 0 0 0, []),
  (.iload_n 1, 1, oN 1 0 0, []),
  (.bipush 8, 2, oI 8, []),
  (.iload_n 2, 1, oN 2 0 0, []),
  (.iadd, 1, oN 0 0 0, []),
  (.invokevirtual 62, 3, oM M_M_of 3 6, [47, 709, 711, 28]),
  (.goto 4, 3, oN 30 0 0, [])]
theorem B_M_drawn_0_ok : okB M_M_drawn 0 B_M_drawn_0 29 = true := by decide +kernel
def B_M_drawn_29 : List IT := [(.iconst (-1), 1, oI (-1), [])]
theorem B_M_drawn_29_ok : okB M_M_drawn 29 B_M_drawn_29 30 = true := by decide +kernel
def B_M_drawn_30 : List IT := [(.ireturn, 1, oN 0 0 0, [])]
theorem B_M_drawn_30_ok : okB M_M_drawn 30 B_M_drawn_30 31 = true := by decide +kernel
def B_M_enter_0 : List IT := [(.iconst 0, 1, oI 0, []),
  (.istore_n 2, 1, oN 2 0 0, [])]
theorem B_M_enter_0_ok : okB M_M_enter 0 B_M_enter_0 2 = true := by decide +kernel
def B_M_enter_2 : List IT := [(.iload_n 2, 1, oN 2 0 0, []),
  (.aload_n 0, 1, oN 0 0 0, []),
  (.invokevirtual 70, 3, oM M_M_cars 1 6, [47, 664, 666, 23]),
  (.if_icmp .ge 28, 3, oN 35 0 0, []),
  (.aload_n 0, 1, oN 0 0 0, []),
  (.iload_n 2, 1, oN 2 0 0, []),
  (.iconst 2, 1, oI 2, []),
  (.invokevirtual 62, 3, oM M_M_of 3 6, [47, 709, 711, 28]),
  (.ifCond .ne 13, 3, oN 29 0 0, []),
  (.aload_n 0, 1, oN 0 0 0, []),
  (.iload_n 2, 1, oN 2 0 0, []),
  (.iconst 1, 1, oI 1, []),
  (.invokevirtual 62, 3, oM M_M_of 3 6, [47, 709, 711, 28]),
  (.iload_n 1, 1, oN 1 0 0, []),
  (.if_icmp .eq 9, 3, oN 35 0 0, [])]
theorem B_M_enter_2_ok : okB M_M_enter 2 B_M_enter_2 29 = true := by decide +kernel
def B_M_enter_29 : List IT := [(.iinc 2 1, 3, oJ 2 1, []),
  (.goto (-30), 3, oN 2 0 0, [])]
theorem B_M_enter_29_ok : okB M_M_enter 29 B_M_enter_29 35 = true := by decide +kernel
def B_M_enter_35 : List IT := [(.iload_n 2, 1, oN 2 0 0, []),
  (.aload_n 0, 1, oN 0 0 0, []),
  (.invokevirtual 70, 3, oM M_M_cars 1 6, [47, 664, 666, 23]),
  (.if_icmp .ne 4, 3, oN 44 0 0, []),
  (.return_, 1, oN 0 0 0, [])]
theorem B_M_enter_35_ok : okB M_M_enter 35 B_M_enter_35 44 = true := by decide +kernel
def B_M_enter_44 : List IT := [(.iconst 0, 1, oI 0, []),
  (.istore_n 3, 1, oN 3 0 0, [])]
theorem B_M_enter_44_ok : okB M_M_enter 44 B_M_enter_44 46 = true := by decide +kernel
def B_M_enter_46 : List IT := [(.iload_n 3, 1, oN 3 0 0, []),
  (.aload_n 0, 1, oN 0 0 0, []),
  (.invokevirtual 70, 3, oM M_M_cars 1 6, [47, 664, 666, 23]),
  (.if_icmp .ge 38, 3, oN 89 0 0, []),
  (.aload_n 0, 1, oN 0 0 0, []),
  (.iload_n 3, 1, oN 3 0 0, []),
  (.iload_n 1, 1, oN 1 0 0, []),
  (.invokevirtual 104, 3, oM M_M_isOn 3 6, [47, 713, 715, 29]),
  (.ifCond .eq 23, 3, oN 83 0 0, []),
  (.aload_n 0, 1, oN 0 0 0, []),
  (.iload_n 3, 1, oN 3 0 0, []),
  (.invokevirtual 108, 3, oM M_M_rear 2 6, [47, 717, 719, 30]),
  (.aload_n 0, 1, oN 0 0 0, []),
  (.iload_n 2, 1, oN 2 0 0, []),
  (.bipush 8, 2, oI 8, []),
  (.invokevirtual 62, 3, oM M_M_of 3 6, [47, 709, 711, 28]),
  (.sipush 200, 3, oI 200, []),
  (.iadd, 1, oN 0 0 0, []),
  (.if_icmp .ge 4, 3, oN 83 0 0, []),
  (.return_, 1, oN 0 0 0, [])]
theorem B_M_enter_46_ok : okB M_M_enter 46 B_M_enter_46 83 = true := by decide +kernel
def B_M_enter_83 : List IT := [(.iinc 3 1, 3, oJ 3 1, []),
  (.goto (-40), 3, oN 46 0 0, [])]
theorem B_M_enter_83_ok : okB M_M_enter 83 B_M_enter_83 89 = true := by decide +kernel
def B_M_enter_89 : List IT := [(.aload_n 0, 1, oN 0 0 0, []),
  (.iload_n 2, 1, oN 2 0 0, []),
  (.iconst 2, 1, oI 2, []),
  (.iconst 1, 1, oI 1, []),
  (.invokevirtual 74, 3, oM M_M_put 4 6, [47, 668, 670, 24]),
  (.aload_n 0, 1, oN 0 0 0, []),
  (.iload_n 2, 1, oN 2 0 0, []),
  (.iconst 3, 1, oI 3, []),
  (.aload_n 0, 1, oN 0 0 0, []),
  (.iload_n 2, 1, oN 2 0 0, []),
  (.bipush 8, 2, oI 8, []),
  (.invokevirtual 62, 3, oM M_M_of 3 6, [47, 709, 711, 28]),
  (.invokevirtual 74, 3, oM M_M_put 4 6, [47, 668, 670, 24]),
  (.aload_n 0, 1, oN 0 0 0, []),
  (.iload_n 2, 1, oN 2 0 0, []),
  (.iconst 5, 1, oI 5, []),
  (.aload_n 0, 1, oN 0 0 0, []),
  (.invokevirtual 119, 3, oM M_M_now 1 6, [47, 721, 723, 31]),
  (.invokevirtual 74, 3, oM M_M_put 4 6, [47, 668, 670, 24]),
  (.aload_n 0, 1, oN 0 0 0, []),
  (.iload_n 2, 1, oN 2 0 0, []),
  (.bipush 7, 2, oI 7, []),
  (.aload_n 0, 1, oN 0 0 0, []),
  (.invokevirtual 119, 3, oM M_M_now 1 6, [47, 721, 723, 31]),
  (.invokevirtual 74, 3, oM M_M_put 4 6, [47, 668, 670, 24]),
  (.aload_n 0, 1, oN 0 0 0, []),
  (.iload_n 2, 1, oN 2 0 0, []),
  (.iconst 4, 1, oI 4, []),
  (.aload_n 0, 1, oN 0 0 0, []),
  (.iload_n 2, 1, oN 2 0 0, []),
  (.bipush 9, 2, oI 9, []),
  (.invokevirtual 62, 3, oM M_M_of 3 6, [47, 709, 711, 28]),
  (.aload_n 0, 1, oN 0 0 0, []),
  (.iload_n 2, 1, oN 2 0 0, []),
  (.iload_n 1, 1, oN 1 0 0, []),
  (.invokevirtual 126, 3, oM M_M_gapIn 3 6, [47, 725, 727, 32]),
  (.invokestatic 129, 3, oM M_M_allowed 1 0, [47, 740, 741]),
  (.invokestatic 112, 3, oM M_M_lesser 2 0, [47, 737, 738]),
  (.invokevirtual 74, 3, oM M_M_put 4 6, [47, 668, 670, 24]),
  (.return_, 1, oN 0 0 0, [])]
theorem B_M_enter_89_ok : okB M_M_enter 89 B_M_enter_89 156 = true := by decide +kernel
def B_M_gap_0 : List IT := [(.aload_n 0, 1, oN 0 0 0, []),
  (.iload_n 1, 1, oN 1 0 0, []),
  (.invokevirtual 151, 3, oM M_M_isCar 2 6, [47, 763, 765, 38]),
  (.ifCond .eq 27, 3, oN 32 0 0, []),
  (.aload_n 0, 1, oN 0 0 0, []),
  (.iload_n 1, 1, oN 1 0 0, []),
  (.iconst 2, 1, oI 2, []),
  (.invokevirtual 62, 3, oM M_M_of 3 6, [47, 709, 711, 28]),
  (.iconst 1, 1, oI 1, []),
  (.if_icmp .ne 17, 3, oN 32 0 0, []),
  (.aload_n 0, 1, oN 0 0 0, []),
  (.iload_n 1, 1, oN 1 0 0, []),
  (.aload_n 0, 1, oN 0 0 0, []),
  (.iload_n 1, 1, oN 1 0 0, []),
  (.iconst 1, 1, oI 1, []),
  (.invokevirtual 62, 3, oM M_M_of 3 6, [47, 709, 711, 28]),
  (.invokevirtual 126, 3, oM M_M_gapIn 3 6, [47, 725, 727, 32]),
  (.goto 4, 3, oN 33 0 0, [])]
theorem B_M_gap_0_ok : okB M_M_gap 0 B_M_gap_0 32 = true := by decide +kernel
def B_M_gap_32 : List IT := [(.iconst (-1), 1, oI (-1), [])]
theorem B_M_gap_32_ok : okB M_M_gap 32 B_M_gap_32 33 = true := by decide +kernel
def B_M_gap_33 : List IT := [(.ireturn, 1, oN 0 0 0, [])]
theorem B_M_gap_33_ok : okB M_M_gap 33 B_M_gap_33 34 = true := by decide +kernel
def B_M_gapIn_0 : List IT := [(.aload_n 0, 1, oN 0 0 0, []),
  (.iload_n 1, 1, oN 1 0 0, []),
  (.iconst 3, 1, oI 3, []),
  (.invokevirtual 62, 3, oM M_M_of 3 6, [47, 709, 711, 28]),
  (.istore_n 3, 1, oN 3 0 0, []),
  (.aload_n 0, 1, oN 0 0 0, []),
  (.iload_n 1, 1, oN 1 0 0, []),
  (.iload_n 2, 1, oN 2 0 0, []),
  (.invokevirtual 115, 3, oM M_M_before 3 6, [47, 729, 731, 33]),
  (.istore 4, 2, oN 4 0 0, []),
  (.iload 4, 2, oN 4 0 0, []),
  (.ifCond .ge 8, 3, oN 25 0 0, []),
  (.ldc 118, 2, oI 1000000, [733]),
  (.goto 11, 3, oN 33 0 0, [])]
theorem B_M_gapIn_0_ok : okB M_M_gapIn 0 B_M_gapIn_0 25 = true := by decide +kernel
def B_M_gapIn_25 : List IT := [(.aload_n 0, 1, oN 0 0 0, []),
  (.iload 4, 2, oN 4 0 0, []),
  (.invokevirtual 108, 3, oM M_M_rear 2 6, [47, 717, 719, 30]),
  (.iload_n 3, 1, oN 3 0 0, []),
  (.isub, 1, oN 0 0 0, [])]
theorem B_M_gapIn_25_ok : okB M_M_gapIn 25 B_M_gapIn_25 33 = true := by decide +kernel
def B_M_gapIn_33 : List IT := [(.istore 5, 2, oN 5 0 0, []),
  (.iconst 0, 1, oI 0, []),
  (.istore 6, 2, oN 6 0 0, [])]
theorem B_M_gapIn_33_ok : okB M_M_gapIn 33 B_M_gapIn_33 38 = true := by decide +kernel
def B_M_gapIn_38 : List IT := [(.iload 6, 2, oN 6 0 0, []),
  (.aload_n 0, 1, oN 0 0 0, []),
  (.getfield 92, 3, oN 6 5 0, [600]),
  (.if_icmp .ge 51, 3, oN 95 0 0, []),
  (.iload 5, 2, oN 5 0 0, []),
  (.iload_n 3, 1, oN 3 0 0, []),
  (.aload_n 0, 1, oN 0 0 0, []),
  (.getfield 17, 3, oN 6 6 2, [601]),
  (.iload 6, 2, oN 6 0 0, []),
  (.iaload, 1, oN 0 0 0, []),
  (.aload_n 0, 1, oN 0 0 0, []),
  (.invokevirtual 119, 3, oM M_M_now 1 6, [47, 721, 723, 31]),
  (.aload_n 0, 1, oN 0 0 0, []),
  (.getfield 23, 3, oN 6 8 2, [603]),
  (.iload 6, 2, oN 6 0 0, []),
  (.iaload, 1, oN 0 0 0, []),
  (.irem, 1, oN 0 0 0, []),
  (.aload_n 0, 1, oN 0 0 0, []),
  (.getfield 20, 3, oN 6 7 2, [602]),
  (.iload 6, 2, oN 6 0 0, []),
  (.iaload, 1, oN 0 0 0, []),
  (.if_icmp .ge 7, 3, oN 83 0 0, []),
  (.iconst 1, 1, oI 1, []),
  (.goto 4, 3, oN 84 0 0, [])]
theorem B_M_gapIn_38_ok : okB M_M_gapIn 38 B_M_gapIn_38 83 = true := by decide +kernel
def B_M_gapIn_83 : List IT := [(.iconst 0, 1, oI 0, [])]
theorem B_M_gapIn_83_ok : okB M_M_gapIn 83 B_M_gapIn_83 84 = true := by decide +kernel
def B_M_gapIn_84 : List IT := [(.invokestatic 122, 3, oM M_M_nearer 4 0, [47, 734, 735]),
  (.istore 5, 2, oN 5 0 0, []),
  (.iinc 6 1, 3, oJ 6 1, []),
  (.goto (-54), 3, oN 38 0 0, [])]
theorem B_M_gapIn_84_ok : okB M_M_gapIn 84 B_M_gapIn_84 95 = true := by decide +kernel
def B_M_gapIn_95 : List IT := [(.iconst 0, 1, oI 0, []),
  (.istore 6, 2, oN 6 0 0, [])]
theorem B_M_gapIn_95_ok : okB M_M_gapIn 95 B_M_gapIn_95 98 = true := by decide +kernel
def B_M_gapIn_98 : List IT := [(.iload 6, 2, oN 6 0 0, []),
  (.aload_n 0, 1, oN 0 0 0, []),
  (.getfield 95, 3, oN 6 9 0, [604]),
  (.if_icmp .ge 68, 3, oN 172 0 0, []),
  (.iload 5, 2, oN 5 0 0, []),
  (.iload_n 3, 1, oN 3 0 0, []),
  (.aload_n 0, 1, oN 0 0 0, []),
  (.getfield 29, 3, oN 6 11 2, [606]),
  (.iload 6, 2, oN 6 0 0, []),
  (.iaload, 1, oN 0 0 0, []),
  (.aload_n 0, 1, oN 0 0 0, []),
  (.getfield 26, 3, oN 6 10 2, [605]),
  (.iload 6, 2, oN 6 0 0, []),
  (.iaload, 1, oN 0 0 0, []),
  (.iload_n 2, 1, oN 2 0 0, []),
  (.if_icmp .ne 35, 3, oN 160 0 0, []),
  (.aload_n 0, 1, oN 0 0 0, []),
  (.invokevirtual 119, 3, oM M_M_now 1 6, [47, 721, 723, 31]),
  (.aload_n 0, 1, oN 0 0 0, []),
  (.getfield 32, 3, oN 6 12 2, [607]),
  (.iload 6, 2, oN 6 0 0, []),
  (.iaload, 1, oN 0 0 0, []),
  (.if_icmp .lt 21, 3, oN 160 0 0, []),
  (.aload_n 0, 1, oN 0 0 0, []),
  (.invokevirtual 119, 3, oM M_M_now 1 6, [47, 721, 723, 31]),
  (.aload_n 0, 1, oN 0 0 0, []),
  (.getfield 35, 3, oN 6 13 2, [608]),
  (.iload 6, 2, oN 6 0 0, []),
  (.iaload, 1, oN 0 0 0, []),
  (.if_icmp .ge 7, 3, oN 160 0 0, []),
  (.iconst 1, 1, oI 1, []),
  (.goto 4, 3, oN 161 0 0, [])]
theorem B_M_gapIn_98_ok : okB M_M_gapIn 98 B_M_gapIn_98 160 = true := by decide +kernel
def B_M_gapIn_160 : List IT := [(.iconst 0, 1, oI 0, [])]
theorem B_M_gapIn_160_ok : okB M_M_gapIn 160 B_M_gapIn_160 161 = true := by decide +kernel
def B_M_gapIn_161 : List IT := [(.invokestatic 122, 3, oM M_M_nearer 4 0, [47, 734, 735]),
  (.istore 5, 2, oN 5 0 0, []),
  (.iinc 6 1, 3, oJ 6 1, []),
  (.goto (-71), 3, oN 98 0 0, [])]
theorem B_M_gapIn_161_ok : okB M_M_gapIn 161 B_M_gapIn_161 172 = true := by decide +kernel
def B_M_gapIn_172 : List IT := [(.iconst 0, 1, oI 0, []),
  (.istore 6, 2, oN 6 0 0, [])]
theorem B_M_gapIn_172_ok : okB M_M_gapIn 172 B_M_gapIn_172 175 = true := by decide +kernel
def B_M_gapIn_175 : List IT := [(.iload 6, 2, oN 6 0 0, []),
  (.aload_n 0, 1, oN 0 0 0, []),
  (.getfield 98, 3, oN 6 14 0, [609]),
  (.if_icmp .ge 59, 3, oN 240 0 0, []),
  (.iload 5, 2, oN 5 0 0, []),
  (.iload_n 3, 1, oN 3 0 0, []),
  (.aload_n 0, 1, oN 0 0 0, []),
  (.getfield 38, 3, oN 6 15 2, [610]),
  (.iload 6, 2, oN 6 0 0, []),
  (.iaload, 1, oN 0 0 0, []),
  (.aload_n 0, 1, oN 0 0 0, []),
  (.iload_n 1, 1, oN 1 0 0, []),
  (.iconst 0, 1, oI 0, []),
  (.invokevirtual 62, 3, oM M_M_of 3 6, [47, 709, 711, 28]),
  (.iconst 1, 1, oI 1, []),
  (.if_icmp .ne 27, 3, oN 228 0 0, []),
  (.aload_n 0, 1, oN 0 0 0, []),
  (.iload_n 1, 1, oN 1 0 0, []),
  (.bipush 11, 2, oI 11, []),
  (.iload 6, 2, oN 6 0 0, []),
  (.iadd, 1, oN 0 0 0, []),
  (.invokevirtual 62, 3, oM M_M_of 3 6, [47, 709, 711, 28]),
  (.aload_n 0, 1, oN 0 0 0, []),
  (.getfield 41, 3, oN 6 16 2, [611]),
  (.iload 6, 2, oN 6 0 0, []),
  (.iaload, 1, oN 0 0 0, []),
  (.if_icmp .ge 7, 3, oN 228 0 0, []),
  (.iconst 1, 1, oI 1, []),
  (.goto 4, 3, oN 229 0 0, [])]
theorem B_M_gapIn_175_ok : okB M_M_gapIn 175 B_M_gapIn_175 228 = true := by decide +kernel
def B_M_gapIn_228 : List IT := [(.iconst 0, 1, oI 0, [])]
theorem B_M_gapIn_228_ok : okB M_M_gapIn 228 B_M_gapIn_228 229 = true := by decide +kernel
def B_M_gapIn_229 : List IT := [(.invokestatic 122, 3, oM M_M_nearer 4 0, [47, 734, 735]),
  (.istore 5, 2, oN 5 0 0, []),
  (.iinc 6 1, 3, oJ 6 1, []),
  (.goto (-62), 3, oN 175 0 0, [])]
theorem B_M_gapIn_229_ok : okB M_M_gapIn 229 B_M_gapIn_229 240 = true := by decide +kernel
def B_M_gapIn_240 : List IT := [(.iload 5, 2, oN 5 0 0, []),
  (.ireturn, 1, oN 0 0 0, [])]
theorem B_M_gapIn_240_ok : okB M_M_gapIn 240 B_M_gapIn_240 243 = true := by decide +kernel
def B_M_isCar_0 : List IT := [(.iload_n 1, 1, oN 1 0 0, []),
  (.ifCond .lt 15, 3, oN 16 0 0, []),
  (.iload_n 1, 1, oN 1 0 0, []),
  (.aload_n 0, 1, oN 0 0 0, []),
  (.invokevirtual 70, 3, oM M_M_cars 1 6, [47, 664, 666, 23]),
  (.if_icmp .ge 7, 3, oN 16 0 0, []),
  (.iconst 1, 1, oI 1, []),
  (.goto 4, 3, oN 17 0 0, [])]
theorem B_M_isCar_0_ok : okB M_M_isCar 0 B_M_isCar_0 16 = true := by decide +kernel
def B_M_isCar_16 : List IT := [(.iconst 0, 1, oI 0, [])]
theorem B_M_isCar_16_ok : okB M_M_isCar 16 B_M_isCar_16 17 = true := by decide +kernel
def B_M_isCar_17 : List IT := [(.ireturn, 1, oN 0 0 0, [])]
theorem B_M_isCar_17_ok : okB M_M_isCar 17 B_M_isCar_17 18 = true := by decide +kernel
def B_M_isOn_0 : List IT := [(.aload_n 0, 1, oN 0 0 0, []),
  (.iload_n 1, 1, oN 1 0 0, []),
  (.iconst 2, 1, oI 2, []),
  (.invokevirtual 62, 3, oM M_M_of 3 6, [47, 709, 711, 28]),
  (.iconst 1, 1, oI 1, []),
  (.if_icmp .ne 17, 3, oN 24 0 0, []),
  (.aload_n 0, 1, oN 0 0 0, []),
  (.iload_n 1, 1, oN 1 0 0, []),
  (.iconst 1, 1, oI 1, []),
  (.invokevirtual 62, 3, oM M_M_of 3 6, [47, 709, 711, 28]),
  (.iload_n 2, 1, oN 2 0 0, []),
  (.if_icmp .ne 7, 3, oN 24 0 0, []),
  (.iconst 1, 1, oI 1, []),
  (.goto 4, 3, oN 25 0 0, [])]
theorem B_M_isOn_0_ok : okB M_M_isOn 0 B_M_isOn_0 24 = true := by decide +kernel
def B_M_isOn_24 : List IT := [(.iconst 0, 1, oI 0, [])]
theorem B_M_isOn_24_ok : okB M_M_isOn 24 B_M_isOn_24 25 = true := by decide +kernel
def B_M_isOn_25 : List IT := [(.ireturn, 1, oN 0 0 0, [])]
theorem B_M_isOn_25_ok : okB M_M_isOn 25 B_M_isOn_25 26 = true := by decide +kernel
def B_M_isPlace_0 : List IT := [(.iload_n 1, 1, oN 1 0 0, []),
  (.iconst 0, 1, oI 0, []),
  (.aload_n 0, 1, oN 0 0 0, []),
  (.getfield 59, 3, oN 6 2 0, [597]),
  (.invokestatic 66, 3, oM M_M_within 3 0, [47, 661, 662]),
  (.ireturn, 1, oN 0 0 0, [])]
theorem B_M_isPlace_0_ok : okB M_M_isPlace 0 B_M_isPlace_0 10 = true := by decide +kernel
def B_M_lesser_0 : List IT := [(.iload_n 0, 1, oN 0 0 0, []),
  (.iload_n 1, 1, oN 1 0 0, []),
  (.if_icmp .ge 7, 3, oN 9 0 0, []),
  (.iload_n 0, 1, oN 0 0 0, []),
  (.goto 4, 3, oN 10 0 0, [])]
theorem B_M_lesser_0_ok : okB M_M_lesser 0 B_M_lesser_0 9 = true := by decide +kernel
def B_M_lesser_9 : List IT := [(.iload_n 1, 1, oN 1 0 0, [])]
theorem B_M_lesser_9_ok : okB M_M_lesser 9 B_M_lesser_9 10 = true := by decide +kernel
def B_M_lesser_10 : List IT := [(.ireturn, 1, oN 0 0 0, [])]
theorem B_M_lesser_10_ok : okB M_M_lesser 10 B_M_lesser_10 11 = true := by decide +kernel
def B_M_light_0 : List IT := [(.aload_n 0, 1, oN 0 0 0, []),
  (.iload_n 1, 1, oN 1 0 0, []),
  (.invokevirtual 88, 3, oM M_M_isPlace 2 6, [47, 681, 683, 25]),
  (.ifCond .eq 31, 3, oN 36 0 0, []),
  (.iload_n 3, 1, oN 3 0 0, []),
  (.iconst 1, 1, oI 1, []),
  (.sipush 2000, 3, oI 2000, []),
  (.invokestatic 66, 3, oM M_M_within 3 0, [47, 661, 662]),
  (.ifCond .eq 20, 3, oN 36 0 0, []),
  (.iload_n 2, 1, oN 2 0 0, []),
  (.iconst 0, 1, oI 0, []),
  (.iload_n 3, 1, oN 3 0 0, []),
  (.invokestatic 66, 3, oM M_M_within 3 0, [47, 661, 662]),
  (.ifCond .eq 11, 3, oN 36 0 0, []),
  (.aload_n 0, 1, oN 0 0 0, []),
  (.getfield 92, 3, oN 6 5 0, [600]),
  (.iconst 4, 1, oI 4, []),
  (.if_icmp .ne 5, 3, oN 38 0 0, [])]
theorem B_M_light_0_ok : okB M_M_light 0 B_M_light_0 36 = true := by decide +kernel
def B_M_light_36 : List IT := [(.iconst 0, 1, oI 0, []),
  (.ireturn, 1, oN 0 0 0, [])]
theorem B_M_light_36_ok : okB M_M_light 36 B_M_light_36 38 = true := by decide +kernel
def B_M_light_38 : List IT := [(.aload_n 0, 1, oN 0 0 0, []),
  (.getfield 17, 3, oN 6 6 2, [601]),
  (.aload_n 0, 1, oN 0 0 0, []),
  (.getfield 92, 3, oN 6 5 0, [600]),
  (.iload_n 1, 1, oN 1 0 0, []),
  (.iastore, 1, oN 0 0 0, []),
  (.aload_n 0, 1, oN 0 0 0, []),
  (.getfield 20, 3, oN 6 7 2, [602]),
  (.aload_n 0, 1, oN 0 0 0, []),
  (.getfield 92, 3, oN 6 5 0, [600]),
  (.iload_n 2, 1, oN 2 0 0, []),
  (.iastore, 1, oN 0 0 0, []),
  (.aload_n 0, 1, oN 0 0 0, []),
  (.getfield 23, 3, oN 6 8 2, [603]),
  (.aload_n 0, 1, oN 0 0 0, []),
  (.getfield 92, 3, oN 6 5 0, [600]),
  (.iload_n 3, 1, oN 3 0 0, []),
  (.iastore, 1, oN 0 0 0, []),
  (.aload_n 0, 1, oN 0 0 0, []),
  (.dup, 1, oN 0 0 0, []),
  (.getfield 92, 3, oN 6 5 0, [600]),
  (.iconst 1, 1, oI 1, []),
  (.iadd, 1, oN 0 0 0, []),
  (.putfield 92, 3, oN 6 5 0, [600]),
  (.iconst 1, 1, oI 1, []),
  (.ireturn, 1, oN 0 0 0, [])]
theorem B_M_light_38_ok : okB M_M_light 38 B_M_light_38 80 = true := by decide +kernel
def B_M_line_0 : List IT := [(.aload_n 0, 1, oN 0 0 0, []),
  (.iload_n 1, 1, oN 1 0 0, []),
  (.invokevirtual 88, 3, oM M_M_isPlace 2 6, [47, 681, 683, 25]),
  (.ifCond .eq 11, 3, oN 16 0 0, []),
  (.aload_n 0, 1, oN 0 0 0, []),
  (.getfield 101, 3, oN 6 17 0, [612]),
  (.iconst 4, 1, oI 4, []),
  (.if_icmp .ne 5, 3, oN 18 0 0, [])]
theorem B_M_line_0_ok : okB M_M_line 0 B_M_line_0 16 = true := by decide +kernel
def B_M_line_16 : List IT := [(.iconst (-1), 1, oI (-1), []),
  (.ireturn, 1, oN 0 0 0, [])]
theorem B_M_line_16_ok : okB M_M_line 16 B_M_line_16 18 = true := by decide +kernel
def B_M_line_18 : List IT := [(.aload_n 0, 1, oN 0 0 0, []),
  (.getfield 44, 3, oN 6 18 2, [613]),
  (.aload_n 0, 1, oN 0 0 0, []),
  (.getfield 101, 3, oN 6 17 0, [612]),
  (.iload_n 1, 1, oN 1 0 0, []),
  (.iastore, 1, oN 0 0 0, []),
  (.iconst 0, 1, oI 0, []),
  (.istore_n 2, 1, oN 2 0 0, [])]
theorem B_M_line_18_ok : okB M_M_line 18 B_M_line_18 30 = true := by decide +kernel
def B_M_line_30 : List IT := [(.iload_n 2, 1, oN 2 0 0, []),
  (.iconst 3, 1, oI 3, []),
  (.if_icmp .ge 26, 3, oN 58 0 0, []),
  (.aload_n 0, 1, oN 0 0 0, []),
  (.getfield 7, 3, oN 6 3 2, [598]),
  (.bipush 6, 2, oI 6, []),
  (.iconst 3, 1, oI 3, []),
  (.aload_n 0, 1, oN 0 0 0, []),
  (.getfield 101, 3, oN 6 17 0, [612]),
  (.imul, 1, oN 0 0 0, []),
  (.iadd, 1, oN 0 0 0, []),
  (.iload_n 2, 1, oN 2 0 0, []),
  (.iadd, 1, oN 0 0 0, []),
  (.iconst 0, 1, oI 0, []),
  (.iastore, 1, oN 0 0 0, []),
  (.iinc 2 1, 3, oJ 2 1, []),
  (.goto (-25), 3, oN 30 0 0, [])]
theorem B_M_line_30_ok : okB M_M_line 30 B_M_line_30 58 = true := by decide +kernel
def B_M_line_58 : List IT := [(.aload_n 0, 1, oN 0 0 0, []),
  (.dup, 1, oN 0 0 0, []),
  (.getfield 101, 3, oN 6 17 0, [612]),
  (.iconst 1, 1, oI 1, []),
  (.iadd, 1, oN 0 0 0, []),
  (.putfield 101, 3, oN 6 17 0, [612]),
  (.aload_n 0, 1, oN 0 0 0, []),
  (.getfield 101, 3, oN 6 17 0, [612]),
  (.iconst 1, 1, oI 1, []),
  (.isub, 1, oN 0 0 0, []),
  (.ireturn, 1, oN 0 0 0, [])]
theorem B_M_line_58_ok : okB M_M_line 58 B_M_line_58 75 = true := by decide +kernel
def B_M_many_0 : List IT := [(.iload_n 1, 1, oN 1 0 0, []),
  (.iconst 0, 1, oI 0, []),
  (.iconst 2, 1, oI 2, []),
  (.invokestatic 66, 3, oM M_M_within 3 0, [47, 661, 662]),
  (.ifCond .eq 14, 3, oN 20 0 0, []),
  (.aload_n 0, 1, oN 0 0 0, []),
  (.getfield 7, 3, oN 6 3 2, [598]),
  (.iconst 3, 1, oI 3, []),
  (.iload_n 1, 1, oN 1 0 0, []),
  (.iadd, 1, oN 0 0 0, []),
  (.iaload, 1, oN 0 0 0, []),
  (.goto 4, 3, oN 21 0 0, [])]
theorem B_M_many_0_ok : okB M_M_many 0 B_M_many_0 20 = true := by decide +kernel
def B_M_many_20 : List IT := [(.iconst (-1), 1, oI (-1), [])]
theorem B_M_many_20_ok : okB M_M_many 20 B_M_many_20 21 = true := by decide +kernel
def B_M_many_21 : List IT := [(.ireturn, 1, oN 0 0 0, [])]
theorem B_M_many_21_ok : okB M_M_many 21 B_M_many_21 22 = true := by decide +kernel
def B_M_mayGo_0 : List IT := [(.iload_n 2, 1, oN 2 0 0, []),
  (.iconst 0, 1, oI 0, []),
  (.aload_n 0, 1, oN 0 0 0, []),
  (.getfield 54, 3, oN 6 1 0, [596]),
  (.iconst 1, 1, oI 1, []),
  (.isub, 1, oN 0 0 0, []),
  (.invokestatic 66, 3, oM M_M_within 3 0, [47, 661, 662]),
  (.ifCond .eq 17, 3, oN 28 0 0, []),
  (.aload_n 0, 1, oN 0 0 0, []),
  (.iload_n 1, 1, oN 1 0 0, []),
  (.iload_n 2, 1, oN 2 0 0, []),
  (.invokevirtual 126, 3, oM M_M_gapIn 3 6, [47, 725, 727, 32]),
  (.iload_n 3, 1, oN 3 0 0, []),
  (.sipush 500, 3, oI 500, []),
  (.iadd, 1, oN 0 0 0, []),
  (.if_icmp .ge 5, 3, oN 30 0 0, [])]
theorem B_M_mayGo_0_ok : okB M_M_mayGo 0 B_M_mayGo_0 28 = true := by decide +kernel
def B_M_mayGo_28 : List IT := [(.iconst 0, 1, oI 0, []),
  (.ireturn, 1, oN 0 0 0, [])]
theorem B_M_mayGo_28_ok : okB M_M_mayGo 28 B_M_mayGo_28 30 = true := by decide +kernel
def B_M_mayGo_30 : List IT := [(.iconst 0, 1, oI 0, []),
  (.istore 4, 2, oN 4 0 0, [])]
theorem B_M_mayGo_30_ok : okB M_M_mayGo 30 B_M_mayGo_30 33 = true := by decide +kernel
def B_M_mayGo_33 : List IT := [(.iload 4, 2, oN 4 0 0, []),
  (.aload_n 0, 1, oN 0 0 0, []),
  (.invokevirtual 70, 3, oM M_M_cars 1 6, [47, 664, 666, 23]),
  (.if_icmp .ge 123, 3, oN 162 0 0, []),
  (.aload_n 0, 1, oN 0 0 0, []),
  (.iload 4, 2, oN 4 0 0, []),
  (.iload_n 2, 1, oN 2 0 0, []),
  (.invokevirtual 104, 3, oM M_M_isOn 3 6, [47, 713, 715, 29]),
  (.ifCond .eq 107, 3, oN 156 0 0, []),
  (.aload_n 0, 1, oN 0 0 0, []),
  (.iload 4, 2, oN 4 0 0, []),
  (.iconst 3, 1, oI 3, []),
  (.invokevirtual 62, 3, oM M_M_of 3 6, [47, 709, 711, 28]),
  (.aload_n 0, 1, oN 0 0 0, []),
  (.iload_n 1, 1, oN 1 0 0, []),
  (.iconst 3, 1, oI 3, []),
  (.invokevirtual 62, 3, oM M_M_of 3 6, [47, 709, 711, 28]),
  (.if_icmp .le 7, 3, oN 72 0 0, []),
  (.iconst 1, 1, oI 1, []),
  (.goto 4, 3, oN 73 0 0, [])]
theorem B_M_mayGo_33_ok : okB M_M_mayGo 33 B_M_mayGo_33 72 = true := by decide +kernel
def B_M_mayGo_72 : List IT := [(.iconst 0, 1, oI 0, [])]
theorem B_M_mayGo_72_ok : okB M_M_mayGo 72 B_M_mayGo_72 73 = true := by decide +kernel
def B_M_mayGo_73 : List IT := [(.istore 5, 2, oN 5 0 0, []),
  (.iload 5, 2, oN 5 0 0, []),
  (.ifCond .eq 22, 3, oN 99 0 0, []),
  (.aload_n 0, 1, oN 0 0 0, []),
  (.iload 4, 2, oN 4 0 0, []),
  (.invokevirtual 108, 3, oM M_M_rear 2 6, [47, 717, 719, 30]),
  (.aload_n 0, 1, oN 0 0 0, []),
  (.iload_n 1, 1, oN 1 0 0, []),
  (.iconst 3, 1, oI 3, []),
  (.invokevirtual 62, 3, oM M_M_of 3 6, [47, 709, 711, 28]),
  (.if_icmp .ge 7, 3, oN 99 0 0, []),
  (.iconst 1, 1, oI 1, []),
  (.goto 4, 3, oN 100 0 0, [])]
theorem B_M_mayGo_73_ok : okB M_M_mayGo 73 B_M_mayGo_73 99 = true := by decide +kernel
def B_M_mayGo_99 : List IT := [(.iconst 0, 1, oI 0, [])]
theorem B_M_mayGo_99_ok : okB M_M_mayGo 99 B_M_mayGo_99 100 = true := by decide +kernel
def B_M_mayGo_100 : List IT := [(.istore 6, 2, oN 6 0 0, []),
  (.iload 5, 2, oN 5 0 0, []),
  (.ifCond .ne 37, 3, oN 141 0 0, []),
  (.aload_n 0, 1, oN 0 0 0, []),
  (.iload_n 1, 1, oN 1 0 0, []),
  (.invokevirtual 108, 3, oM M_M_rear 2 6, [47, 717, 719, 30]),
  (.aload_n 0, 1, oN 0 0 0, []),
  (.iload 4, 2, oN 4 0 0, []),
  (.iconst 3, 1, oI 3, []),
  (.invokevirtual 62, 3, oM M_M_of 3 6, [47, 709, 711, 28]),
  (.isub, 1, oN 0 0 0, []),
  (.sipush 200, 3, oI 200, []),
  (.bipush 10, 2, oI 10, []),
  (.aload_n 0, 1, oN 0 0 0, []),
  (.iload 4, 2, oN 4 0 0, []),
  (.iconst 4, 1, oI 4, []),
  (.invokevirtual 62, 3, oM M_M_of 3 6, [47, 709, 711, 28]),
  (.imul, 1, oN 0 0 0, []),
  (.iadd, 1, oN 0 0 0, []),
  (.if_icmp .ge 7, 3, oN 141 0 0, []),
  (.iconst 1, 1, oI 1, []),
  (.goto 4, 3, oN 142 0 0, [])]
theorem B_M_mayGo_100_ok : okB M_M_mayGo 100 B_M_mayGo_100 141 = true := by decide +kernel
def B_M_mayGo_141 : List IT := [(.iconst 0, 1, oI 0, [])]
theorem B_M_mayGo_141_ok : okB M_M_mayGo 141 B_M_mayGo_141 142 = true := by decide +kernel
def B_M_mayGo_142 : List IT := [(.istore 7, 2, oN 7 0 0, []),
  (.iload 6, 2, oN 6 0 0, []),
  (.ifCond .ne 8, 3, oN 154 0 0, []),
  (.iload 7, 2, oN 7 0 0, []),
  (.ifCond .eq 5, 3, oN 156 0 0, [])]
theorem B_M_mayGo_142_ok : okB M_M_mayGo 142 B_M_mayGo_142 154 = true := by decide +kernel
def B_M_mayGo_154 : List IT := [(.iconst 0, 1, oI 0, []),
  (.ireturn, 1, oN 0 0 0, [])]
theorem B_M_mayGo_154_ok : okB M_M_mayGo 154 B_M_mayGo_154 156 = true := by decide +kernel
def B_M_mayGo_156 : List IT := [(.iinc 4 1, 3, oJ 4 1, []),
  (.goto (-126), 3, oN 33 0 0, [])]
theorem B_M_mayGo_156_ok : okB M_M_mayGo 156 B_M_mayGo_156 162 = true := by decide +kernel
def B_M_mayGo_162 : List IT := [(.iconst 1, 1, oI 1, []),
  (.ireturn, 1, oN 0 0 0, [])]
theorem B_M_mayGo_162_ok : okB M_M_mayGo 162 B_M_mayGo_162 164 = true := by decide +kernel
def B_M_move_0 : List IT := [(.aload_n 0, 1, oN 0 0 0, []),
  (.iload_n 1, 1, oN 1 0 0, []),
  (.iconst 3, 1, oI 3, []),
  (.invokevirtual 62, 3, oM M_M_of 3 6, [47, 709, 711, 28]),
  (.istore_n 2, 1, oN 2 0 0, []),
  (.iload_n 2, 1, oN 2 0 0, []),
  (.aload_n 0, 1, oN 0 0 0, []),
  (.iload_n 1, 1, oN 1 0 0, []),
  (.iconst 4, 1, oI 4, []),
  (.invokevirtual 62, 3, oM M_M_of 3 6, [47, 709, 711, 28]),
  (.iadd, 1, oN 0 0 0, []),
  (.istore_n 3, 1, oN 3 0 0, []),
  (.aload_n 0, 1, oN 0 0 0, []),
  (.iload_n 1, 1, oN 1 0 0, []),
  (.iconst 3, 1, oI 3, []),
  (.iload_n 3, 1, oN 3 0 0, []),
  (.invokevirtual 74, 3, oM M_M_put 4 6, [47, 668, 670, 24]),
  (.iconst 0, 1, oI 0, []),
  (.istore 4, 2, oN 4 0 0, [])]
theorem B_M_move_0_ok : okB M_M_move 0 B_M_move_0 26 = true := by decide +kernel
def B_M_move_26 : List IT := [(.iload 4, 2, oN 4 0 0, []),
  (.aload_n 0, 1, oN 0 0 0, []),
  (.getfield 98, 3, oN 6 14 0, [609]),
  (.if_icmp .ge 117, 3, oN 149 0 0, []),
  (.aload_n 0, 1, oN 0 0 0, []),
  (.iload_n 1, 1, oN 1 0 0, []),
  (.iconst 0, 1, oI 0, []),
  (.invokevirtual 62, 3, oM M_M_of 3 6, [47, 709, 711, 28]),
  (.iconst 1, 1, oI 1, []),
  (.if_icmp .ne 35, 3, oN 77 0 0, []),
  (.aload_n 0, 1, oN 0 0 0, []),
  (.iload_n 1, 1, oN 1 0 0, []),
  (.iconst 4, 1, oI 4, []),
  (.invokevirtual 62, 3, oM M_M_of 3 6, [47, 709, 711, 28]),
  (.ifCond .ne 26, 3, oN 77 0 0, []),
  (.aload_n 0, 1, oN 0 0 0, []),
  (.getfield 38, 3, oN 6 15 2, [610]),
  (.iload 4, 2, oN 4 0 0, []),
  (.iaload, 1, oN 0 0 0, []),
  (.iload_n 3, 1, oN 3 0 0, []),
  (.isub, 1, oN 0 0 0, []),
  (.iconst 0, 1, oI 0, []),
  (.sipush 400, 3, oI 400, []),
  (.invokestatic 66, 3, oM M_M_within 3 0, [47, 661, 662]),
  (.ifCond .eq 7, 3, oN 77 0 0, []),
  (.iconst 1, 1, oI 1, []),
  (.goto 4, 3, oN 78 0 0, [])]
theorem B_M_move_26_ok : okB M_M_move 26 B_M_move_26 77 = true := by decide +kernel
def B_M_move_77 : List IT := [(.iconst 0, 1, oI 0, [])]
theorem B_M_move_77_ok : okB M_M_move 77 B_M_move_77 78 = true := by decide +kernel
def B_M_move_78 : List IT := [(.istore 5, 2, oN 5 0 0, []),
  (.iload 5, 2, oN 5 0 0, []),
  (.ifCond .eq 27, 3, oN 109 0 0, []),
  (.aload_n 0, 1, oN 0 0 0, []),
  (.iload_n 1, 1, oN 1 0 0, []),
  (.bipush 11, 2, oI 11, []),
  (.iload 4, 2, oN 4 0 0, []),
  (.iadd, 1, oN 0 0 0, []),
  (.invokevirtual 62, 3, oM M_M_of 3 6, [47, 709, 711, 28]),
  (.aload_n 0, 1, oN 0 0 0, []),
  (.getfield 41, 3, oN 6 16 2, [611]),
  (.iload 4, 2, oN 4 0 0, []),
  (.iaload, 1, oN 0 0 0, []),
  (.if_icmp .ge 7, 3, oN 109 0 0, []),
  (.iconst 1, 1, oI 1, []),
  (.goto 4, 3, oN 110 0 0, [])]
theorem B_M_move_78_ok : okB M_M_move 78 B_M_move_78 109 = true := by decide +kernel
def B_M_move_109 : List IT := [(.iconst 0, 1, oI 0, [])]
theorem B_M_move_109_ok : okB M_M_move 109 B_M_move_109 110 = true := by decide +kernel
def B_M_move_110 : List IT := [(.istore 6, 2, oN 6 0 0, []),
  (.aload_n 0, 1, oN 0 0 0, []),
  (.iload_n 1, 1, oN 1 0 0, []),
  (.bipush 11, 2, oI 11, []),
  (.iload 4, 2, oN 4 0 0, []),
  (.iadd, 1, oN 0 0 0, []),
  (.aload_n 0, 1, oN 0 0 0, []),
  (.iload_n 1, 1, oN 1 0 0, []),
  (.bipush 11, 2, oI 11, []),
  (.iload 4, 2, oN 4 0 0, []),
  (.iadd, 1, oN 0 0 0, []),
  (.invokevirtual 62, 3, oM M_M_of 3 6, [47, 709, 711, 28]),
  (.iload 6, 2, oN 6 0 0, []),
  (.ifCond .eq 7, 3, oN 138 0 0, []),
  (.iconst 1, 1, oI 1, []),
  (.goto 4, 3, oN 139 0 0, [])]
theorem B_M_move_110_ok : okB M_M_move 110 B_M_move_110 138 = true := by decide +kernel
def B_M_move_138 : List IT := [(.iconst 0, 1, oI 0, [])]
theorem B_M_move_138_ok : okB M_M_move 138 B_M_move_138 139 = true := by decide +kernel
def B_M_move_139 : List IT := [(.iadd, 1, oN 0 0 0, []),
  (.invokevirtual 74, 3, oM M_M_put 4 6, [47, 668, 670, 24]),
  (.iinc 4 1, 3, oJ 4 1, []),
  (.goto (-120), 3, oN 26 0 0, [])]
theorem B_M_move_139_ok : okB M_M_move 139 B_M_move_139 149 = true := by decide +kernel
def B_M_move_149 : List IT := [(.iconst 0, 1, oI 0, []),
  (.istore 4, 2, oN 4 0 0, [])]
theorem B_M_move_149_ok : okB M_M_move 149 B_M_move_149 152 = true := by decide +kernel
def B_M_move_152 : List IT := [(.iload 4, 2, oN 4 0 0, []),
  (.aload_n 0, 1, oN 0 0 0, []),
  (.getfield 101, 3, oN 6 17 0, [612]),
  (.if_icmp .ge 58, 3, oN 216 0 0, []),
  (.aload_n 0, 1, oN 0 0 0, []),
  (.getfield 7, 3, oN 6 3 2, [598]),
  (.bipush 6, 2, oI 6, []),
  (.iconst 3, 1, oI 3, []),
  (.iload 4, 2, oN 4 0 0, []),
  (.imul, 1, oN 0 0 0, []),
  (.iadd, 1, oN 0 0 0, []),
  (.aload_n 0, 1, oN 0 0 0, []),
  (.iload_n 1, 1, oN 1 0 0, []),
  (.iconst 1, 1, oI 1, []),
  (.invokevirtual 62, 3, oM M_M_of 3 6, [47, 709, 711, 28]),
  (.iadd, 1, oN 0 0 0, []),
  (.dup2, 1, oN 0 0 0, []),
  (.iaload, 1, oN 0 0 0, []),
  (.iload_n 2, 1, oN 2 0 0, []),
  (.aload_n 0, 1, oN 0 0 0, []),
  (.getfield 44, 3, oN 6 18 2, [613]),
  (.iload 4, 2, oN 4 0 0, []),
  (.iaload, 1, oN 0 0 0, []),
  (.if_icmp .gt 18, 3, oN 207 0 0, []),
  (.iload_n 3, 1, oN 3 0 0, []),
  (.aload_n 0, 1, oN 0 0 0, []),
  (.getfield 44, 3, oN 6 18 2, [613]),
  (.iload 4, 2, oN 4 0 0, []),
  (.iaload, 1, oN 0 0 0, []),
  (.if_icmp .le 7, 3, oN 207 0 0, []),
  (.iconst 1, 1, oI 1, []),
  (.goto 4, 3, oN 208 0 0, [])]
theorem B_M_move_152_ok : okB M_M_move 152 B_M_move_152 207 = true := by decide +kernel
def B_M_move_207 : List IT := [(.iconst 0, 1, oI 0, [])]
theorem B_M_move_207_ok : okB M_M_move 207 B_M_move_207 208 = true := by decide +kernel
def B_M_move_208 : List IT := [(.iadd, 1, oN 0 0 0, []),
  (.iastore, 1, oN 0 0 0, []),
  (.iinc 4 1, 3, oJ 4 1, []),
  (.goto (-61), 3, oN 152 0 0, [])]
theorem B_M_move_208_ok : okB M_M_move 208 B_M_move_208 216 = true := by decide +kernel
def B_M_move_216 : List IT := [(.iload_n 3, 1, oN 3 0 0, []),
  (.aload_n 0, 1, oN 0 0 0, []),
  (.iload_n 1, 1, oN 1 0 0, []),
  (.bipush 8, 2, oI 8, []),
  (.invokevirtual 62, 3, oM M_M_of 3 6, [47, 709, 711, 28]),
  (.isub, 1, oN 0 0 0, []),
  (.aload_n 0, 1, oN 0 0 0, []),
  (.getfield 59, 3, oN 6 2 0, [597]),
  (.if_icmp .le 41, 3, oN 270 0 0, []),
  (.aload_n 0, 1, oN 0 0 0, []),
  (.iload_n 1, 1, oN 1 0 0, []),
  (.iconst 2, 1, oI 2, []),
  (.iconst 2, 1, oI 2, []),
  (.invokevirtual 74, 3, oM M_M_put 4 6, [47, 668, 670, 24]),
  (.aload_n 0, 1, oN 0 0 0, []),
  (.iload_n 1, 1, oN 1 0 0, []),
  (.bipush 6, 2, oI 6, []),
  (.aload_n 0, 1, oN 0 0 0, []),
  (.invokevirtual 119, 3, oM M_M_now 1 6, [47, 721, 723, 31]),
  (.invokevirtual 74, 3, oM M_M_put 4 6, [47, 668, 670, 24]),
  (.aload_n 0, 1, oN 0 0 0, []),
  (.getfield 7, 3, oN 6 3 2, [598]),
  (.iconst 2, 1, oI 2, []),
  (.dup2, 1, oN 0 0 0, []),
  (.iaload, 1, oN 0 0 0, []),
  (.aload_n 0, 1, oN 0 0 0, []),
  (.invokevirtual 119, 3, oM M_M_now 1 6, [47, 721, 723, 31]),
  (.aload_n 0, 1, oN 0 0 0, []),
  (.iload_n 1, 1, oN 1 0 0, []),
  (.iconst 5, 1, oI 5, []),
  (.invokevirtual 62, 3, oM M_M_of 3 6, [47, 709, 711, 28]),
  (.isub, 1, oN 0 0 0, []),
  (.iadd, 1, oN 0 0 0, []),
  (.iastore, 1, oN 0 0 0, [])]
theorem B_M_move_216_ok : okB M_M_move 216 B_M_move_216 270 = true := by decide +kernel
def B_M_move_270 : List IT := [(.return_, 1, oN 0 0 0, [])]
theorem B_M_move_270_ok : okB M_M_move 270 B_M_move_270 271 = true := by decide +kernel
def B_M_nearer_0 : List IT := [(.iload_n 3, 1, oN 3 0 0, []),
  (.ifCond .eq 18, 3, oN 19 0 0, []),
  (.iload_n 1, 1, oN 1 0 0, []),
  (.iload_n 2, 1, oN 2 0 0, []),
  (.if_icmp .gt 13, 3, oN 19 0 0, []),
  (.iload_n 0, 1, oN 0 0 0, []),
  (.iload_n 2, 1, oN 2 0 0, []),
  (.iload_n 1, 1, oN 1 0 0, []),
  (.isub, 1, oN 0 0 0, []),
  (.invokestatic 112, 3, oM M_M_lesser 2 0, [47, 737, 738]),
  (.goto 4, 3, oN 20 0 0, [])]
theorem B_M_nearer_0_ok : okB M_M_nearer 0 B_M_nearer_0 19 = true := by decide +kernel
def B_M_nearer_19 : List IT := [(.iload_n 0, 1, oN 0 0 0, [])]
theorem B_M_nearer_19_ok : okB M_M_nearer 19 B_M_nearer_19 20 = true := by decide +kernel
def B_M_nearer_20 : List IT := [(.ireturn, 1, oN 0 0 0, [])]
theorem B_M_nearer_20_ok : okB M_M_nearer 20 B_M_nearer_20 21 = true := by decide +kernel
def B_M_now_0 : List IT := [(.aload_n 0, 1, oN 0 0 0, []),
  (.getfield 7, 3, oN 6 3 2, [598]),
  (.iconst 1, 1, oI 1, []),
  (.iaload, 1, oN 0 0 0, []),
  (.ireturn, 1, oN 0 0 0, [])]
theorem B_M_now_0_ok : okB M_M_now 0 B_M_now_0 7 = true := by decide +kernel
def B_M_of_0 : List IT := [(.aload_n 0, 1, oN 0 0 0, []),
  (.getfield 7, 3, oN 6 3 2, [598]),
  (.bipush 20, 2, oI 20, []),
  (.bipush 20, 2, oI 20, []),
  (.iload_n 1, 1, oN 1 0 0, []),
  (.imul, 1, oN 0 0 0, []),
  (.iadd, 1, oN 0 0 0, []),
  (.iload_n 2, 1, oN 2 0 0, []),
  (.iadd, 1, oN 0 0 0, []),
  (.iaload, 1, oN 0 0 0, []),
  (.ireturn, 1, oN 0 0 0, [])]
theorem B_M_of_0_ok : okB M_M_of 0 B_M_of_0 15 = true := by decide +kernel
def B_M_ordered_0 : List IT := [(.iconst 0, 1, oI 0, []),
  (.istore_n 1, 1, oN 1 0 0, [])]
theorem B_M_ordered_0_ok : okB M_M_ordered 0 B_M_ordered_0 2 = true := by decide +kernel
def B_M_ordered_2 : List IT := [(.iload_n 1, 1, oN 1 0 0, []),
  (.aload_n 0, 1, oN 0 0 0, []),
  (.invokevirtual 70, 3, oM M_M_cars 1 6, [47, 664, 666, 23]),
  (.if_icmp .ge 95, 3, oN 102 0 0, []),
  (.iconst 0, 1, oI 0, []),
  (.istore_n 2, 1, oN 2 0 0, [])]
theorem B_M_ordered_2_ok : okB M_M_ordered 2 B_M_ordered_2 12 = true := by decide +kernel
def B_M_ordered_12 : List IT := [(.iload_n 2, 1, oN 2 0 0, []),
  (.aload_n 0, 1, oN 0 0 0, []),
  (.invokevirtual 70, 3, oM M_M_cars 1 6, [47, 664, 666, 23]),
  (.if_icmp .ge 79, 3, oN 96 0 0, []),
  (.iload_n 1, 1, oN 1 0 0, []),
  (.iload_n 2, 1, oN 2 0 0, []),
  (.if_icmp .eq 31, 3, oN 53 0 0, []),
  (.aload_n 0, 1, oN 0 0 0, []),
  (.iload_n 1, 1, oN 1 0 0, []),
  (.iconst 2, 1, oI 2, []),
  (.invokevirtual 62, 3, oM M_M_of 3 6, [47, 709, 711, 28]),
  (.iconst 1, 1, oI 1, []),
  (.if_icmp .ne 21, 3, oN 53 0 0, []),
  (.aload_n 0, 1, oN 0 0 0, []),
  (.iload_n 2, 1, oN 2 0 0, []),
  (.aload_n 0, 1, oN 0 0 0, []),
  (.iload_n 1, 1, oN 1 0 0, []),
  (.iconst 1, 1, oI 1, []),
  (.invokevirtual 62, 3, oM M_M_of 3 6, [47, 709, 711, 28]),
  (.invokevirtual 104, 3, oM M_M_isOn 3 6, [47, 713, 715, 29]),
  (.ifCond .eq 7, 3, oN 53 0 0, []),
  (.iconst 1, 1, oI 1, []),
  (.goto 4, 3, oN 54 0 0, [])]
theorem B_M_ordered_12_ok : okB M_M_ordered 12 B_M_ordered_12 53 = true := by decide +kernel
def B_M_ordered_53 : List IT := [(.iconst 0, 1, oI 0, [])]
theorem B_M_ordered_53_ok : okB M_M_ordered 53 B_M_ordered_53 54 = true := by decide +kernel
def B_M_ordered_54 : List IT := [(.istore_n 3, 1, oN 3 0 0, []),
  (.iload_n 3, 1, oN 3 0 0, []),
  (.ifCond .eq 34, 3, oN 90 0 0, []),
  (.aload_n 0, 1, oN 0 0 0, []),
  (.iload_n 2, 1, oN 2 0 0, []),
  (.iconst 3, 1, oI 3, []),
  (.invokevirtual 62, 3, oM M_M_of 3 6, [47, 709, 711, 28]),
  (.aload_n 0, 1, oN 0 0 0, []),
  (.iload_n 1, 1, oN 1 0 0, []),
  (.iconst 3, 1, oI 3, []),
  (.invokevirtual 62, 3, oM M_M_of 3 6, [47, 709, 711, 28]),
  (.if_icmp .lt 19, 3, oN 90 0 0, []),
  (.aload_n 0, 1, oN 0 0 0, []),
  (.iload_n 2, 1, oN 2 0 0, []),
  (.invokevirtual 108, 3, oM M_M_rear 2 6, [47, 717, 719, 30]),
  (.aload_n 0, 1, oN 0 0 0, []),
  (.iload_n 1, 1, oN 1 0 0, []),
  (.iconst 3, 1, oI 3, []),
  (.invokevirtual 62, 3, oM M_M_of 3 6, [47, 709, 711, 28]),
  (.if_icmp .ge 5, 3, oN 90 0 0, []),
  (.iconst 0, 1, oI 0, []),
  (.ireturn, 1, oN 0 0 0, [])]
theorem B_M_ordered_54_ok : okB M_M_ordered 54 B_M_ordered_54 90 = true := by decide +kernel
def B_M_ordered_90 : List IT := [(.iinc 2 1, 3, oJ 2 1, []),
  (.goto (-81), 3, oN 12 0 0, [])]
theorem B_M_ordered_90_ok : okB M_M_ordered 90 B_M_ordered_90 96 = true := by decide +kernel
def B_M_ordered_96 : List IT := [(.iinc 1 1, 3, oJ 1 1, []),
  (.goto (-97), 3, oN 2 0 0, [])]
theorem B_M_ordered_96_ok : okB M_M_ordered 96 B_M_ordered_96 102 = true := by decide +kernel
def B_M_ordered_102 : List IT := [(.iconst 1, 1, oI 1, []),
  (.ireturn, 1, oN 0 0 0, [])]
theorem B_M_ordered_102_ok : okB M_M_ordered 102 B_M_ordered_102 104 = true := by decide +kernel
def B_M_put_0 : List IT := [(.aload_n 0, 1, oN 0 0 0, []),
  (.getfield 7, 3, oN 6 3 2, [598]),
  (.bipush 20, 2, oI 20, []),
  (.bipush 20, 2, oI 20, []),
  (.iload_n 1, 1, oN 1 0 0, []),
  (.imul, 1, oN 0 0 0, []),
  (.iadd, 1, oN 0 0 0, []),
  (.iload_n 2, 1, oN 2 0 0, []),
  (.iadd, 1, oN 0 0 0, []),
  (.iload_n 3, 1, oN 3 0 0, []),
  (.iastore, 1, oN 0 0 0, []),
  (.return_, 1, oN 0 0 0, [])]
theorem B_M_put_0_ok : okB M_M_put 0 B_M_put_0 16 = true := by decide +kernel
def B_M_rear_0 : List IT := [(.aload_n 0, 1, oN 0 0 0, []),
  (.iload_n 1, 1, oN 1 0 0, []),
  (.iconst 3, 1, oI 3, []),
  (.invokevirtual 62, 3, oM M_M_of 3 6, [47, 709, 711, 28]),
  (.aload_n 0, 1, oN 0 0 0, []),
  (.iload_n 1, 1, oN 1 0 0, []),
  (.bipush 8, 2, oI 8, []),
  (.invokevirtual 62, 3, oM M_M_of 3 6, [47, 709, 711, 28]),
  (.isub, 1, oN 0 0 0, []),
  (.ireturn, 1, oN 0 0 0, [])]
theorem B_M_rear_0_ok : okB M_M_rear 0 B_M_rear_0 15 = true := by decide +kernel
def B_M_run_0 : List IT := [(.iload_n 1, 1, oN 1 0 0, []),
  (.iconst 1, 1, oI 1, []),
  (.sipush 1000, 3, oI 1000, []),
  (.invokestatic 66, 3, oM M_M_within 3 0, [47, 661, 662]),
  (.ifCond .ne 5, 3, oN 13 0 0, []),
  (.iconst (-1), 1, oI (-1), []),
  (.ireturn, 1, oN 0 0 0, [])]
theorem B_M_run_0_ok : okB M_M_run 0 B_M_run_0 13 = true := by decide +kernel
def B_M_run_13 : List IT := [(.iconst 0, 1, oI 0, []),
  (.istore_n 2, 1, oN 2 0 0, [])]
theorem B_M_run_13_ok : okB M_M_run 13 B_M_run_13 15 = true := by decide +kernel
def B_M_run_15 : List IT := [(.iload_n 2, 1, oN 2 0 0, []),
  (.iload_n 1, 1, oN 1 0 0, []),
  (.if_icmp .ge 13, 3, oN 30 0 0, []),
  (.aload_n 0, 1, oN 0 0 0, []),
  (.invokevirtual 148, 3, oM M_M_step 1 6, [47, 701, 703, 26]),
  (.iinc 2 1, 3, oJ 2 1, []),
  (.goto (-12), 3, oN 15 0 0, [])]
theorem B_M_run_15_ok : okB M_M_run 15 B_M_run_15 30 = true := by decide +kernel
def B_M_run_30 : List IT := [(.aload_n 0, 1, oN 0 0 0, []),
  (.invokevirtual 119, 3, oM M_M_now 1 6, [47, 721, 723, 31]),
  (.ireturn, 1, oN 0 0 0, [])]
theorem B_M_run_30_ok : okB M_M_run 30 B_M_run_30 35 = true := by decide +kernel
def B_M_save_0 : List IT := [(.iload_n 1, 1, oN 1 0 0, []),
  (.iconst 0, 1, oI 0, []),
  (.iconst 1, 1, oI 1, []),
  (.invokestatic 66, 3, oM M_M_within 3 0, [47, 661, 662]),
  (.ifCond .ne 5, 3, oN 11 0 0, []),
  (.iconst (-1), 1, oI (-1), []),
  (.ireturn, 1, oN 0 0 0, [])]
theorem B_M_save_0_ok : okB M_M_save 0 B_M_save_0 11 = true := by decide +kernel
def B_M_save_11 : List IT := [(.iconst 0, 1, oI 0, []),
  (.istore_n 2, 1, oN 2 0 0, [])]
theorem B_M_save_11_ok : okB M_M_save 11 B_M_save_11 13 = true := by decide +kernel
def B_M_save_13 : List IT := [(.iload_n 2, 1, oN 2 0 0, []),
  (.sipush 1300, 3, oI 1300, []),
  (.if_icmp .ge 29, 3, oN 46 0 0, []),
  (.aload_n 0, 1, oN 0 0 0, []),
  (.getfield 7, 3, oN 6 3 2, [598]),
  (.sipush 1300, 3, oI 1300, []),
  (.iload_n 1, 1, oN 1 0 0, []),
  (.iconst 1, 1, oI 1, []),
  (.iadd, 1, oN 0 0 0, []),
  (.imul, 1, oN 0 0 0, []),
  (.iload_n 2, 1, oN 2 0 0, []),
  (.iadd, 1, oN 0 0 0, []),
  (.aload_n 0, 1, oN 0 0 0, []),
  (.getfield 7, 3, oN 6 3 2, [598]),
  (.iload_n 2, 1, oN 2 0 0, []),
  (.iaload, 1, oN 0 0 0, []),
  (.iastore, 1, oN 0 0 0, []),
  (.iinc 2 1, 3, oJ 2 1, []),
  (.goto (-30), 3, oN 13 0 0, [])]
theorem B_M_save_13_ok : okB M_M_save 13 B_M_save_13 46 = true := by decide +kernel
def B_M_save_46 : List IT := [(.iconst 3, 1, oI 3, []),
  (.aload_n 0, 1, oN 0 0 0, []),
  (.getfield 101, 3, oN 6 17 0, [612]),
  (.imul, 1, oN 0 0 0, []),
  (.istore_n 2, 1, oN 2 0 0, [])]
theorem B_M_save_46_ok : okB M_M_save 46 B_M_save_46 53 = true := by decide +kernel
def B_M_save_53 : List IT := [(.iload_n 2, 1, oN 2 0 0, []),
  (.bipush 12, 2, oI 12, []),
  (.if_icmp .ge 27, 3, oN 83 0 0, []),
  (.aload_n 0, 1, oN 0 0 0, []),
  (.getfield 7, 3, oN 6 3 2, [598]),
  (.sipush 1300, 3, oI 1300, []),
  (.iload_n 1, 1, oN 1 0 0, []),
  (.iconst 1, 1, oI 1, []),
  (.iadd, 1, oN 0 0 0, []),
  (.imul, 1, oN 0 0 0, []),
  (.bipush 6, 2, oI 6, []),
  (.iadd, 1, oN 0 0 0, []),
  (.iload_n 2, 1, oN 2 0 0, []),
  (.iadd, 1, oN 0 0 0, []),
  (.iconst 0, 1, oI 0, []),
  (.iastore, 1, oN 0 0 0, []),
  (.iinc 2 1, 3, oJ 2 1, []),
  (.goto (-27), 3, oN 53 0 0, [])]
theorem B_M_save_53_ok : okB M_M_save 53 B_M_save_53 83 = true := by decide +kernel
def B_M_save_83 : List IT := [(.aload_n 0, 1, oN 0 0 0, []),
  (.getfield 13, 3, oN 6 4 2, [599]),
  (.iload_n 1, 1, oN 1 0 0, []),
  (.iconst 1, 1, oI 1, []),
  (.bastore, 1, oN 0 0 0, []),
  (.aload_n 0, 1, oN 0 0 0, []),
  (.invokevirtual 119, 3, oM M_M_now 1 6, [47, 721, 723, 31]),
  (.ireturn, 1, oN 0 0 0, [])]
theorem B_M_save_83_ok : okB M_M_save 83 B_M_save_83 95 = true := by decide +kernel
def B_M_speeds_0 : List IT := [(.iconst 0, 1, oI 0, []),
  (.istore_n 1, 1, oN 1 0 0, [])]
theorem B_M_speeds_0_ok : okB M_M_speeds 0 B_M_speeds_0 2 = true := by decide +kernel
def B_M_speeds_2 : List IT := [(.iload_n 1, 1, oN 1 0 0, []),
  (.aload_n 0, 1, oN 0 0 0, []),
  (.invokevirtual 70, 3, oM M_M_cars 1 6, [47, 664, 666, 23]),
  (.if_icmp .ge 84, 3, oN 91 0 0, []),
  (.aload_n 0, 1, oN 0 0 0, []),
  (.iload_n 1, 1, oN 1 0 0, []),
  (.iconst 2, 1, oI 2, []),
  (.invokevirtual 62, 3, oM M_M_of 3 6, [47, 709, 711, 28]),
  (.iconst 1, 1, oI 1, []),
  (.if_icmp .ne 68, 3, oN 85 0 0, []),
  (.aload_n 0, 1, oN 0 0 0, []),
  (.invokevirtual 119, 3, oM M_M_now 1 6, [47, 721, 723, 31]),
  (.aload_n 0, 1, oN 0 0 0, []),
  (.iload_n 1, 1, oN 1 0 0, []),
  (.bipush 10, 2, oI 10, []),
  (.invokevirtual 62, 3, oM M_M_of 3 6, [47, 709, 711, 28]),
  (.irem, 1, oN 0 0 0, []),
  (.ifCond .ne 8, 3, oN 40 0 0, []),
  (.bipush 6, 2, oI 6, []),
  (.goto 4, 3, oN 41 0 0, [])]
theorem B_M_speeds_2_ok : okB M_M_speeds 2 B_M_speeds_2 40 = true := by decide +kernel
def B_M_speeds_40 : List IT := [(.iconst 0, 1, oI 0, [])]
theorem B_M_speeds_40_ok : okB M_M_speeds 40 B_M_speeds_40 41 = true := by decide +kernel
def B_M_speeds_41 : List IT := [(.istore_n 2, 1, oN 2 0 0, []),
  (.aload_n 0, 1, oN 0 0 0, []),
  (.iload_n 1, 1, oN 1 0 0, []),
  (.bipush 9, 2, oI 9, []),
  (.invokevirtual 62, 3, oM M_M_of 3 6, [47, 709, 711, 28]),
  (.aload_n 0, 1, oN 0 0 0, []),
  (.iload_n 1, 1, oN 1 0 0, []),
  (.iconst 4, 1, oI 4, []),
  (.invokevirtual 62, 3, oM M_M_of 3 6, [47, 709, 711, 28]),
  (.iload_n 2, 1, oN 2 0 0, []),
  (.iadd, 1, oN 0 0 0, []),
  (.invokestatic 112, 3, oM M_M_lesser 2 0, [47, 737, 738]),
  (.istore_n 3, 1, oN 3 0 0, []),
  (.aload_n 0, 1, oN 0 0 0, []),
  (.getfield 47, 3, oN 6 19 2, [614]),
  (.iload_n 1, 1, oN 1 0 0, []),
  (.iload_n 3, 1, oN 3 0 0, []),
  (.aload_n 0, 1, oN 0 0 0, []),
  (.iload_n 1, 1, oN 1 0 0, []),
  (.aload_n 0, 1, oN 0 0 0, []),
  (.iload_n 1, 1, oN 1 0 0, []),
  (.iconst 1, 1, oI 1, []),
  (.invokevirtual 62, 3, oM M_M_of 3 6, [47, 709, 711, 28]),
  (.invokevirtual 126, 3, oM M_M_gapIn 3 6, [47, 725, 727, 32]),
  (.invokestatic 129, 3, oM M_M_allowed 1 0, [47, 740, 741]),
  (.invokestatic 112, 3, oM M_M_lesser 2 0, [47, 737, 738]),
  (.iastore, 1, oN 0 0 0, [])]
theorem B_M_speeds_41_ok : okB M_M_speeds 41 B_M_speeds_41 85 = true := by decide +kernel
def B_M_speeds_85 : List IT := [(.iinc 1 1, 3, oJ 1 1, []),
  (.goto (-86), 3, oN 2 0 0, [])]
theorem B_M_speeds_85_ok : okB M_M_speeds 85 B_M_speeds_85 91 = true := by decide +kernel
def B_M_speeds_91 : List IT := [(.iconst 0, 1, oI 0, []),
  (.istore_n 1, 1, oN 1 0 0, [])]
theorem B_M_speeds_91_ok : okB M_M_speeds 91 B_M_speeds_91 93 = true := by decide +kernel
def B_M_speeds_93 : List IT := [(.iload_n 1, 1, oN 1 0 0, []),
  (.aload_n 0, 1, oN 0 0 0, []),
  (.invokevirtual 70, 3, oM M_M_cars 1 6, [47, 664, 666, 23]),
  (.if_icmp .ge 63, 3, oN 161 0 0, []),
  (.aload_n 0, 1, oN 0 0 0, []),
  (.iload_n 1, 1, oN 1 0 0, []),
  (.iconst 2, 1, oI 2, []),
  (.invokevirtual 62, 3, oM M_M_of 3 6, [47, 709, 711, 28]),
  (.iconst 1, 1, oI 1, []),
  (.if_icmp .ne 47, 3, oN 155 0 0, []),
  (.aload_n 0, 1, oN 0 0 0, []),
  (.getfield 7, 3, oN 6 3 2, [598]),
  (.iconst 4, 1, oI 4, []),
  (.dup2, 1, oN 0 0 0, []),
  (.iaload, 1, oN 0 0 0, []),
  (.aload_n 0, 1, oN 0 0 0, []),
  (.iload_n 1, 1, oN 1 0 0, []),
  (.iconst 4, 1, oI 4, []),
  (.invokevirtual 62, 3, oM M_M_of 3 6, [47, 709, 711, 28]),
  (.aload_n 0, 1, oN 0 0 0, []),
  (.getfield 47, 3, oN 6 19 2, [614]),
  (.iload_n 1, 1, oN 1 0 0, []),
  (.iaload, 1, oN 0 0 0, []),
  (.isub, 1, oN 0 0 0, []),
  (.bipush 20, 2, oI 20, []),
  (.if_icmp .lt 7, 3, oN 140 0 0, []),
  (.iconst 1, 1, oI 1, []),
  (.goto 4, 3, oN 141 0 0, [])]
theorem B_M_speeds_93_ok : okB M_M_speeds 93 B_M_speeds_93 140 = true := by decide +kernel
def B_M_speeds_140 : List IT := [(.iconst 0, 1, oI 0, [])]
theorem B_M_speeds_140_ok : okB M_M_speeds 140 B_M_speeds_140 141 = true := by decide +kernel
def B_M_speeds_141 : List IT := [(.iadd, 1, oN 0 0 0, []),
  (.iastore, 1, oN 0 0 0, []),
  (.aload_n 0, 1, oN 0 0 0, []),
  (.iload_n 1, 1, oN 1 0 0, []),
  (.iconst 4, 1, oI 4, []),
  (.aload_n 0, 1, oN 0 0 0, []),
  (.getfield 47, 3, oN 6 19 2, [614]),
  (.iload_n 1, 1, oN 1 0 0, []),
  (.iaload, 1, oN 0 0 0, []),
  (.invokevirtual 74, 3, oM M_M_put 4 6, [47, 668, 670, 24])]
theorem B_M_speeds_141_ok : okB M_M_speeds 141 B_M_speeds_141 155 = true := by decide +kernel
def B_M_speeds_155 : List IT := [(.iinc 1 1, 3, oJ 1 1, []),
  (.goto (-65), 3, oN 93 0 0, [])]
theorem B_M_speeds_155_ok : okB M_M_speeds 155 B_M_speeds_155 161 = true := by decide +kernel
def B_M_speeds_161 : List IT := [(.return_, 1, oN 0 0 0, [])]
theorem B_M_speeds_161_ok : okB M_M_speeds 161 B_M_speeds_161 162 = true := by decide +kernel
def B_M_step_0 : List IT := [(.iconst 0, 1, oI 0, []),
  (.istore_n 1, 1, oN 1 0 0, [])]
theorem B_M_step_0_ok : okB M_M_step 0 B_M_step_0 2 = true := by decide +kernel
def B_M_step_2 : List IT := [(.iload_n 1, 1, oN 1 0 0, []),
  (.aload_n 0, 1, oN 0 0 0, []),
  (.getfield 54, 3, oN 6 1 0, [596]),
  (.if_icmp .ge 14, 3, oN 21 0 0, []),
  (.aload_n 0, 1, oN 0 0 0, []),
  (.iload_n 1, 1, oN 1 0 0, []),
  (.invokevirtual 135, 3, oM M_M_enter 2 6, [47, 705, 707, 27]),
  (.iinc 1 1, 3, oJ 1 1, []),
  (.goto (-16), 3, oN 2 0 0, [])]
theorem B_M_step_2_ok : okB M_M_step 2 B_M_step_2 21 = true := by decide +kernel
def B_M_step_21 : List IT := [(.iconst 0, 1, oI 0, []),
  (.istore_n 1, 1, oN 1 0 0, [])]
theorem B_M_step_21_ok : okB M_M_step 21 B_M_step_21 23 = true := by decide +kernel
def B_M_step_23 : List IT := [(.iload_n 1, 1, oN 1 0 0, []),
  (.aload_n 0, 1, oN 0 0 0, []),
  (.invokevirtual 70, 3, oM M_M_cars 1 6, [47, 664, 666, 23]),
  (.if_icmp .ge 14, 3, oN 42 0 0, []),
  (.aload_n 0, 1, oN 0 0 0, []),
  (.iload_n 1, 1, oN 1 0 0, []),
  (.invokevirtual 139, 3, oM M_M_change 2 6, [47, 743, 745, 34]),
  (.iinc 1 1, 3, oJ 1 1, []),
  (.goto (-16), 3, oN 23 0 0, [])]
theorem B_M_step_23_ok : okB M_M_step 23 B_M_step_23 42 = true := by decide +kernel
def B_M_step_42 : List IT := [(.aload_n 0, 1, oN 0 0 0, []),
  (.invokevirtual 142, 3, oM M_M_speeds 1 6, [47, 751, 753, 36]),
  (.iconst 0, 1, oI 0, []),
  (.istore_n 1, 1, oN 1 0 0, [])]
theorem B_M_step_42_ok : okB M_M_step 42 B_M_step_42 48 = true := by decide +kernel
def B_M_step_48 : List IT := [(.iload_n 1, 1, oN 1 0 0, []),
  (.aload_n 0, 1, oN 0 0 0, []),
  (.invokevirtual 70, 3, oM M_M_cars 1 6, [47, 664, 666, 23]),
  (.if_icmp .ge 24, 3, oN 77 0 0, []),
  (.aload_n 0, 1, oN 0 0 0, []),
  (.iload_n 1, 1, oN 1 0 0, []),
  (.iconst 2, 1, oI 2, []),
  (.invokevirtual 62, 3, oM M_M_of 3 6, [47, 709, 711, 28]),
  (.iconst 1, 1, oI 1, []),
  (.if_icmp .ne 8, 3, oN 71 0 0, []),
  (.aload_n 0, 1, oN 0 0 0, []),
  (.iload_n 1, 1, oN 1 0 0, []),
  (.invokevirtual 145, 3, oM M_M_move 2 6, [47, 755, 757, 37])]
theorem B_M_step_48_ok : okB M_M_step 48 B_M_step_48 71 = true := by decide +kernel
def B_M_step_71 : List IT := [(.iinc 1 1, 3, oJ 1 1, []),
  (.goto (-26), 3, oN 48 0 0, [])]
theorem B_M_step_71_ok : okB M_M_step 71 B_M_step_71 77 = true := by decide +kernel
def B_M_step_77 : List IT := [(.aload_n 0, 1, oN 0 0 0, []),
  (.getfield 7, 3, oN 6 3 2, [598]),
  (.iconst 1, 1, oI 1, []),
  (.dup2, 1, oN 0 0 0, []),
  (.iaload, 1, oN 0 0 0, []),
  (.iconst 1, 1, oI 1, []),
  (.iadd, 1, oN 0 0 0, []),
  (.iastore, 1, oN 0 0 0, []),
  (.iconst 0, 1, oI 0, []),
  (.istore_n 1, 1, oN 1 0 0, [])]
theorem B_M_step_77_ok : okB M_M_step 77 B_M_step_77 89 = true := by decide +kernel
def B_M_step_89 : List IT := [(.iload_n 1, 1, oN 1 0 0, []),
  (.aload_n 0, 1, oN 0 0 0, []),
  (.invokevirtual 70, 3, oM M_M_cars 1 6, [47, 664, 666, 23]),
  (.if_icmp .ge 101, 3, oN 195 0 0, []),
  (.aload_n 0, 1, oN 0 0 0, []),
  (.iload_n 1, 1, oN 1 0 0, []),
  (.iconst 2, 1, oI 2, []),
  (.invokevirtual 62, 3, oM M_M_of 3 6, [47, 709, 711, 28]),
  (.iconst 1, 1, oI 1, []),
  (.if_icmp .ne 17, 3, oN 121 0 0, []),
  (.aload_n 0, 1, oN 0 0 0, []),
  (.iload_n 1, 1, oN 1 0 0, []),
  (.aload_n 0, 1, oN 0 0 0, []),
  (.iload_n 1, 1, oN 1 0 0, []),
  (.iconst 1, 1, oI 1, []),
  (.invokevirtual 62, 3, oM M_M_of 3 6, [47, 709, 711, 28]),
  (.invokevirtual 115, 3, oM M_M_before 3 6, [47, 729, 731, 33]),
  (.goto 4, 3, oN 122 0 0, [])]
theorem B_M_step_89_ok : okB M_M_step 89 B_M_step_89 121 = true := by decide +kernel
def B_M_step_121 : List IT := [(.iconst (-1), 1, oI (-1), [])]
theorem B_M_step_121_ok : okB M_M_step 121 B_M_step_121 122 = true := by decide +kernel
def B_M_step_122 : List IT := [(.istore_n 2, 1, oN 2 0 0, []),
  (.iload_n 2, 1, oN 2 0 0, []),
  (.ifCond .lt 45, 3, oN 169 0 0, []),
  (.aload_n 0, 1, oN 0 0 0, []),
  (.iload_n 1, 1, oN 1 0 0, []),
  (.iconst 4, 1, oI 4, []),
  (.invokevirtual 62, 3, oM M_M_of 3 6, [47, 709, 711, 28]),
  (.aload_n 0, 1, oN 0 0 0, []),
  (.iload_n 2, 1, oN 2 0 0, []),
  (.iconst 4, 1, oI 4, []),
  (.invokevirtual 62, 3, oM M_M_of 3 6, [47, 709, 711, 28]),
  (.if_icmp .le 30, 3, oN 169 0 0, []),
  (.aload_n 0, 1, oN 0 0 0, []),
  (.iload_n 2, 1, oN 2 0 0, []),
  (.invokevirtual 108, 3, oM M_M_rear 2 6, [47, 717, 719, 30]),
  (.aload_n 0, 1, oN 0 0 0, []),
  (.iload_n 1, 1, oN 1 0 0, []),
  (.iconst 3, 1, oI 3, []),
  (.invokevirtual 62, 3, oM M_M_of 3 6, [47, 709, 711, 28]),
  (.isub, 1, oN 0 0 0, []),
  (.iconst 5, 1, oI 5, []),
  (.aload_n 0, 1, oN 0 0 0, []),
  (.iload_n 1, 1, oN 1 0 0, []),
  (.iconst 4, 1, oI 4, []),
  (.invokevirtual 62, 3, oM M_M_of 3 6, [47, 709, 711, 28]),
  (.imul, 1, oN 0 0 0, []),
  (.if_icmp .ge 7, 3, oN 169 0 0, []),
  (.iconst 1, 1, oI 1, []),
  (.goto 4, 3, oN 170 0 0, [])]
theorem B_M_step_122_ok : okB M_M_step 122 B_M_step_122 169 = true := by decide +kernel
def B_M_step_169 : List IT := [(.iconst 0, 1, oI 0, [])]
theorem B_M_step_169_ok : okB M_M_step 169 B_M_step_169 170 = true := by decide +kernel
def B_M_step_170 : List IT := [(.istore_n 3, 1, oN 3 0 0, []),
  (.aload_n 0, 1, oN 0 0 0, []),
  (.getfield 7, 3, oN 6 3 2, [598]),
  (.iconst 3, 1, oI 3, []),
  (.dup2, 1, oN 0 0 0, []),
  (.iaload, 1, oN 0 0 0, []),
  (.iload_n 3, 1, oN 3 0 0, []),
  (.ifCond .eq 7, 3, oN 186 0 0, []),
  (.iconst 1, 1, oI 1, []),
  (.goto 4, 3, oN 187 0 0, [])]
theorem B_M_step_170_ok : okB M_M_step 170 B_M_step_170 186 = true := by decide +kernel
def B_M_step_186 : List IT := [(.iconst 0, 1, oI 0, [])]
theorem B_M_step_186_ok : okB M_M_step 186 B_M_step_186 187 = true := by decide +kernel
def B_M_step_187 : List IT := [(.iadd, 1, oN 0 0 0, []),
  (.iastore, 1, oN 0 0 0, []),
  (.iinc 1 1, 3, oJ 1 1, []),
  (.goto (-103), 3, oN 89 0 0, [])]
theorem B_M_step_187_ok : okB M_M_step 187 B_M_step_187 195 = true := by decide +kernel
def B_M_step_195 : List IT := [(.return_, 1, oN 0 0 0, [])]
theorem B_M_step_195_ok : okB M_M_step 195 B_M_step_195 196 = true := by decide +kernel
def B_M_stop_0 : List IT := [(.aload_n 0, 1, oN 0 0 0, []),
  (.iload_n 1, 1, oN 1 0 0, []),
  (.invokevirtual 88, 3, oM M_M_isPlace 2 6, [47, 681, 683, 25]),
  (.ifCond .eq 22, 3, oN 27 0 0, []),
  (.iload_n 2, 1, oN 2 0 0, []),
  (.iconst 1, 1, oI 1, []),
  (.sipush 500, 3, oI 500, []),
  (.invokestatic 66, 3, oM M_M_within 3 0, [47, 661, 662]),
  (.ifCond .eq 11, 3, oN 27 0 0, []),
  (.aload_n 0, 1, oN 0 0 0, []),
  (.getfield 98, 3, oN 6 14 0, [609]),
  (.iconst 4, 1, oI 4, []),
  (.if_icmp .ne 5, 3, oN 29 0 0, [])]
theorem B_M_stop_0_ok : okB M_M_stop 0 B_M_stop_0 27 = true := by decide +kernel
def B_M_stop_27 : List IT := [(.iconst 0, 1, oI 0, []),
  (.ireturn, 1, oN 0 0 0, [])]
theorem B_M_stop_27_ok : okB M_M_stop 27 B_M_stop_27 29 = true := by decide +kernel
def B_M_stop_29 : List IT := [(.aload_n 0, 1, oN 0 0 0, []),
  (.getfield 38, 3, oN 6 15 2, [610]),
  (.aload_n 0, 1, oN 0 0 0, []),
  (.getfield 98, 3, oN 6 14 0, [609]),
  (.iload_n 1, 1, oN 1 0 0, []),
  (.iastore, 1, oN 0 0 0, []),
  (.aload_n 0, 1, oN 0 0 0, []),
  (.getfield 41, 3, oN 6 16 2, [611]),
  (.aload_n 0, 1, oN 0 0 0, []),
  (.getfield 98, 3, oN 6 14 0, [609]),
  (.iload_n 2, 1, oN 2 0 0, []),
  (.iastore, 1, oN 0 0 0, []),
  (.aload_n 0, 1, oN 0 0 0, []),
  (.dup, 1, oN 0 0 0, []),
  (.getfield 98, 3, oN 6 14 0, [609]),
  (.iconst 1, 1, oI 1, []),
  (.iadd, 1, oN 0 0 0, []),
  (.putfield 98, 3, oN 6 14 0, [609]),
  (.iconst 1, 1, oI 1, []),
  (.ireturn, 1, oN 0 0 0, [])]
theorem B_M_stop_29_ok : okB M_M_stop 29 B_M_stop_29 61 = true := by decide +kernel
def B_M_times_0 : List IT := [(.aload_n 0, 1, oN 0 0 0, []),
  (.getfield 7, 3, oN 6 3 2, [598]),
  (.iconst 2, 1, oI 2, []),
  (.iaload, 1, oN 0 0 0, []),
  (.ireturn, 1, oN 0 0 0, [])]
theorem B_M_times_0_ok : okB M_M_times 0 B_M_times_0 7 = true := by decide +kernel
def B_M_told_0 : List IT := [(.aload_n 0, 1, oN 0 0 0, []),
  (.iload_n 1, 1, oN 1 0 0, []),
  (.invokevirtual 151, 3, oM M_M_isCar 2 6, [47, 763, 765, 38]),
  (.ifCond .ne 5, 3, oN 10 0 0, []),
  (.iconst (-1), 1, oI (-1), []),
  (.ireturn, 1, oN 0 0 0, [])]
theorem B_M_told_0_ok : okB M_M_told 0 B_M_told_0 10 = true := by decide +kernel
def B_M_told_10 : List IT := [(.iload_n 2, 1, oN 2 0 0, []),
  (.tableswitch 80 0 5 #[37, 44, 51, 58, 65, 72], 37, oS 91 [(0, 48), (1, 55), (2, 62), (3, 69), (4, 76), (5, 83)], [])]
theorem B_M_told_10_ok : okB M_M_told 10 B_M_told_10 48 = true := by decide +kernel
def B_M_told_48 : List IT := [(.aload_n 0, 1, oN 0 0 0, []),
  (.iload_n 1, 1, oN 1 0 0, []),
  (.iconst 2, 1, oI 2, []),
  (.invokevirtual 62, 3, oM M_M_of 3 6, [47, 709, 711, 28]),
  (.ireturn, 1, oN 0 0 0, [])]
theorem B_M_told_48_ok : okB M_M_told 48 B_M_told_48 55 = true := by decide +kernel
def B_M_told_55 : List IT := [(.aload_n 0, 1, oN 0 0 0, []),
  (.iload_n 1, 1, oN 1 0 0, []),
  (.iconst 1, 1, oI 1, []),
  (.invokevirtual 62, 3, oM M_M_of 3 6, [47, 709, 711, 28]),
  (.ireturn, 1, oN 0 0 0, [])]
theorem B_M_told_55_ok : okB M_M_told 55 B_M_told_55 62 = true := by decide +kernel
def B_M_told_62 : List IT := [(.aload_n 0, 1, oN 0 0 0, []),
  (.iload_n 1, 1, oN 1 0 0, []),
  (.iconst 3, 1, oI 3, []),
  (.invokevirtual 62, 3, oM M_M_of 3 6, [47, 709, 711, 28]),
  (.ireturn, 1, oN 0 0 0, [])]
theorem B_M_told_62_ok : okB M_M_told 62 B_M_told_62 69 = true := by decide +kernel
def B_M_told_69 : List IT := [(.aload_n 0, 1, oN 0 0 0, []),
  (.iload_n 1, 1, oN 1 0 0, []),
  (.iconst 4, 1, oI 4, []),
  (.invokevirtual 62, 3, oM M_M_of 3 6, [47, 709, 711, 28]),
  (.ireturn, 1, oN 0 0 0, [])]
theorem B_M_told_69_ok : okB M_M_told 69 B_M_told_69 76 = true := by decide +kernel
def B_M_told_76 : List IT := [(.aload_n 0, 1, oN 0 0 0, []),
  (.iload_n 1, 1, oN 1 0 0, []),
  (.iconst 5, 1, oI 5, []),
  (.invokevirtual 62, 3, oM M_M_of 3 6, [47, 709, 711, 28]),
  (.ireturn, 1, oN 0 0 0, [])]
theorem B_M_told_76_ok : okB M_M_told 76 B_M_told_76 83 = true := by decide +kernel
def B_M_told_83 : List IT := [(.aload_n 0, 1, oN 0 0 0, []),
  (.iload_n 1, 1, oN 1 0 0, []),
  (.bipush 6, 2, oI 6, []),
  (.invokevirtual 62, 3, oM M_M_of 3 6, [47, 709, 711, 28]),
  (.ireturn, 1, oN 0 0 0, [])]
theorem B_M_told_83_ok : okB M_M_told 83 B_M_told_83 91 = true := by decide +kernel
def B_M_told_91 : List IT := [(.iconst (-1), 1, oI (-1), []),
  (.ireturn, 1, oN 0 0 0, [])]
theorem B_M_told_91_ok : okB M_M_told 91 B_M_told_91 93 = true := by decide +kernel
def B_M_waiting_0 : List IT := [(.iload_n 1, 1, oN 1 0 0, []),
  (.iconst 0, 1, oI 0, []),
  (.aload_n 0, 1, oN 0 0 0, []),
  (.getfield 54, 3, oN 6 1 0, [596]),
  (.iconst 1, 1, oI 1, []),
  (.isub, 1, oN 0 0 0, []),
  (.invokestatic 66, 3, oM M_M_within 3 0, [47, 661, 662]),
  (.ifCond .ne 5, 3, oN 16 0 0, []),
  (.iconst (-1), 1, oI (-1), []),
  (.ireturn, 1, oN 0 0 0, [])]
theorem B_M_waiting_0_ok : okB M_M_waiting 0 B_M_waiting_0 16 = true := by decide +kernel
def B_M_waiting_16 : List IT := [(.iconst 0, 1, oI 0, []),
  (.istore_n 2, 1, oN 2 0 0, []),
  (.iconst 0, 1, oI 0, []),
  (.istore_n 3, 1, oN 3 0 0, [])]
theorem B_M_waiting_16_ok : okB M_M_waiting 16 B_M_waiting_16 20 = true := by decide +kernel
def B_M_waiting_20 : List IT := [(.iload_n 3, 1, oN 3 0 0, []),
  (.aload_n 0, 1, oN 0 0 0, []),
  (.invokevirtual 70, 3, oM M_M_cars 1 6, [47, 664, 666, 23]),
  (.if_icmp .ge 36, 3, oN 61 0 0, []),
  (.iload_n 2, 1, oN 2 0 0, []),
  (.aload_n 0, 1, oN 0 0 0, []),
  (.iload_n 3, 1, oN 3 0 0, []),
  (.iconst 2, 1, oI 2, []),
  (.invokevirtual 62, 3, oM M_M_of 3 6, [47, 709, 711, 28]),
  (.ifCond .ne 17, 3, oN 52 0 0, []),
  (.aload_n 0, 1, oN 0 0 0, []),
  (.iload_n 3, 1, oN 3 0 0, []),
  (.iconst 1, 1, oI 1, []),
  (.invokevirtual 62, 3, oM M_M_of 3 6, [47, 709, 711, 28]),
  (.iload_n 1, 1, oN 1 0 0, []),
  (.if_icmp .ne 7, 3, oN 52 0 0, []),
  (.iconst 1, 1, oI 1, []),
  (.goto 4, 3, oN 53 0 0, [])]
theorem B_M_waiting_20_ok : okB M_M_waiting 20 B_M_waiting_20 52 = true := by decide +kernel
def B_M_waiting_52 : List IT := [(.iconst 0, 1, oI 0, [])]
theorem B_M_waiting_52_ok : okB M_M_waiting 52 B_M_waiting_52 53 = true := by decide +kernel
def B_M_waiting_53 : List IT := [(.iadd, 1, oN 0 0 0, []),
  (.istore_n 2, 1, oN 2 0 0, []),
  (.iinc 3 1, 3, oJ 3 1, []),
  (.goto (-38), 3, oN 20 0 0, [])]
theorem B_M_waiting_53_ok : okB M_M_waiting 53 B_M_waiting_53 61 = true := by decide +kernel
def B_M_waiting_61 : List IT := [(.iload_n 2, 1, oN 2 0 0, []),
  (.ireturn, 1, oN 0 0 0, [])]
theorem B_M_waiting_61_ok : okB M_M_waiting 61 B_M_waiting_61 63 = true := by decide +kernel
def B_M_within_0 : List IT := [(.iload_n 0, 1, oN 0 0 0, []),
  (.iload_n 1, 1, oN 1 0 0, []),
  (.if_icmp .lt 12, 3, oN 14 0 0, []),
  (.iload_n 0, 1, oN 0 0 0, []),
  (.iload_n 2, 1, oN 2 0 0, []),
  (.if_icmp .gt 7, 3, oN 14 0 0, []),
  (.iconst 1, 1, oI 1, []),
  (.goto 4, 3, oN 15 0 0, [])]
theorem B_M_within_0_ok : okB M_M_within 0 B_M_within_0 14 = true := by decide +kernel
def B_M_within_14 : List IT := [(.iconst 0, 1, oI 0, [])]
theorem B_M_within_14_ok : okB M_M_within 14 B_M_within_14 15 = true := by decide +kernel
def B_M_within_15 : List IT := [(.ireturn, 1, oN 0 0 0, [])]
theorem B_M_within_15_ok : okB M_M_within 15 B_M_within_15 16 = true := by decide +kernel
end
section
/-! code of Road, stretch by stretch (written by program) -/
def B_Road_init_0 : List IT := [(.aload_n 0, 1, oN 0 0 0, []),
  (.invokespecial 3, 3, oN 0 0 1, [69, 55]),
  (.aload_n 0, 1, oN 0 0 0, []),
  (.new 9, 3, oN 2 14 0, [70, 71, 43]),
  (.dup, 1, oN 0 0 0, []),
  (.invokespecial 11, 3, oM M_Things_init 1 0, [43, 9999, 73]),
  (.putfield 12, 3, oN 1 0 2, [261]),
  (.aload_n 0, 1, oN 0 0 0, []),
  (.new 18, 3, oN 3 8 0, [129, 130, 44]),
  (.dup, 1, oN 0 0 0, []),
  (.invokespecial 20, 3, oM M_State_init 1 0, [44, 9999, 132]),
  (.putfield 21, 3, oN 1 1 2, [263]),
  (.aload_n 0, 1, oN 0 0 0, []),
  (.aload_n 0, 1, oN 0 0 0, []),
  (.getfield 21, 3, oN 1 1 2, [263]),
  (.getfield 25, 3, oN 3 0 2, [224]),
  (.putfield 29, 3, oN 1 2 2, [265]),
  (.aload_n 0, 1, oN 0 0 0, []),
  (.aload_n 0, 1, oN 0 0 0, []),
  (.getfield 21, 3, oN 1 1 2, [263]),
  (.getfield 30, 3, oN 3 1 2, [227]),
  (.putfield 34, 3, oN 1 3 2, [266]),
  (.aload_n 0, 1, oN 0 0 0, []),
  (.iload_n 1, 1, oN 1 0 0, []),
  (.putfield 35, 3, oN 1 4 0, [267]),
  (.aload_n 0, 1, oN 0 0 0, []),
  (.iload_n 2, 1, oN 2 0 0, []),
  (.putfield 39, 3, oN 1 5 0, [268]),
  (.return_, 1, oN 0 0 0, [])]
theorem B_Road_init_0_ok : okB M_Road_init 0 B_Road_init_0 59 = true := by decide +kernel
def B_Road_allowedBy_0 : List IT := [(.iconst 0, 1, oI 0, []),
  (.iload_n 0, 1, oN 0 0 0, []),
  (.sipush 200, 3, oI 200, []),
  (.isub, 1, oN 0 0 0, []),
  (.bipush 10, 2, oI 10, []),
  (.idiv, 1, oN 0 0 0, []),
  (.invokestatic 127, 3, oN 0 0 1, [438, 61, 41]),
  (.ireturn, 1, oN 0 0 0, [])]
theorem B_Road_allowedBy_0_ok : okB M_Road_allowedBy 0 B_Road_allowedBy_0 13 = true := by decide +kernel
def B_Road_changeTo_0 : List IT := [(.aload_n 0, 1, oN 0 0 0, []),
  (.getfield 34, 3, oN 1 3 2, [266]),
  (.aload_n 0, 1, oN 0 0 0, []),
  (.getfield 29, 3, oN 1 2 2, [265]),
  (.getfield 156, 3, oN 4 4 2, [154]),
  (.iload_n 3, 1, oN 3 0 0, []),
  (.iaload, 1, oN 0 0 0, []),
  (.iload_n 2, 1, oN 2 0 0, []),
  (.invokevirtual 177, 3, oM M_Rows_remove 3 5, [46, 463, 464, 465]),
  (.aload_n 0, 1, oN 0 0 0, []),
  (.getfield 34, 3, oN 1 3 2, [266]),
  (.iload_n 1, 1, oN 1 0 0, []),
  (.aload_n 0, 1, oN 0 0 0, []),
  (.getfield 21, 3, oN 1 1 2, [263]),
  (.iload_n 1, 1, oN 1 0 0, []),
  (.aload_n 0, 1, oN 0 0 0, []),
  (.getfield 29, 3, oN 1 2 2, [265]),
  (.getfield 93, 3, oN 4 6 2, [160]),
  (.iload_n 3, 1, oN 3 0 0, []),
  (.iaload, 1, oN 0 0 0, []),
  (.invokevirtual 159, 3, oM M_State_rankFor 3 3, [44, 443, 444, 445]),
  (.iload_n 3, 1, oN 3 0 0, []),
  (.invokevirtual 139, 3, oM M_Rows_insert 4 5, [46, 405, 406, 407]),
  (.aload_n 0, 1, oN 0 0 0, []),
  (.getfield 29, 3, oN 1 2 2, [265]),
  (.getfield 156, 3, oN 4 4 2, [154]),
  (.iload_n 3, 1, oN 3 0 0, []),
  (.iload_n 1, 1, oN 1 0 0, []),
  (.iastore, 1, oN 0 0 0, []),
  (.aload_n 0, 1, oN 0 0 0, []),
  (.getfield 29, 3, oN 1 2 2, [265]),
  (.getfield 67, 3, oN 4 10 2, [172]),
  (.iload_n 3, 1, oN 3 0 0, []),
  (.aload_n 0, 1, oN 0 0 0, []),
  (.getfield 21, 3, oN 1 1 2, [263]),
  (.getfield 64, 3, oN 3 4 0, [232]),
  (.iastore, 1, oN 0 0 0, []),
  (.aload_n 0, 1, oN 0 0 0, []),
  (.getfield 21, 3, oN 1 1 2, [263]),
  (.dup, 1, oN 0 0 0, []),
  (.getfield 181, 3, oN 3 7 0, [243]),
  (.iconst 1, 1, oI 1, []),
  (.iadd, 1, oN 0 0 0, []),
  (.putfield 181, 3, oN 3 7 0, [243]),
  (.return_, 1, oN 0 0 0, [])]
theorem B_Road_changeTo_0_ok : okB M_Road_changeTo 0 B_Road_changeTo_0 83 = true := by decide +kernel
def B_Road_doStep_0 : List IT := [(.iconst 0, 1, oI 0, []),
  (.istore_n 1, 1, oN 1 0 0, [])]
theorem B_Road_doStep_0_ok : okB M_Road_doStep 0 B_Road_doStep_0 2 = true := by decide +kernel
def B_Road_doStep_2 : List IT := [(.iload_n 1, 1, oN 1 0 0, []),
  (.aload_n 0, 1, oN 0 0 0, []),
  (.getfield 35, 3, oN 1 4 0, [267]),
  (.if_icmp .ge 14, 3, oN 21 0 0, []),
  (.aload_n 0, 1, oN 0 0 0, []),
  (.iload_n 1, 1, oN 1 0 0, []),
  (.invokevirtual 52, 3, oM M_Road_letIn 2 1, [42, 389, 391, 3]),
  (.iinc 1 1, 3, oJ 1 1, []),
  (.goto (-16), 3, oN 2 0 0, [])]
theorem B_Road_doStep_2_ok : okB M_Road_doStep 2 B_Road_doStep_2 21 = true := by decide +kernel
def B_Road_doStep_21 : List IT := [(.iconst 0, 1, oI 0, []),
  (.istore_n 1, 1, oN 1 0 0, [])]
theorem B_Road_doStep_21_ok : okB M_Road_doStep 21 B_Road_doStep_21 23 = true := by decide +kernel
def B_Road_doStep_23 : List IT := [(.iload_n 1, 1, oN 1 0 0, []),
  (.aload_n 0, 1, oN 0 0 0, []),
  (.getfield 29, 3, oN 1 2 2, [265]),
  (.getfield 56, 3, oN 4 12 0, [177]),
  (.if_icmp .ge 49, 3, oN 80 0 0, []),
  (.aload_n 0, 1, oN 0 0 0, []),
  (.getfield 29, 3, oN 1 2 2, [265]),
  (.getfield 61, 3, oN 4 5 2, [156]),
  (.iload_n 1, 1, oN 1 0 0, []),
  (.iaload, 1, oN 0 0 0, []),
  (.iconst 1, 1, oI 1, []),
  (.if_icmp .ne 30, 3, oN 74 0 0, []),
  (.aload_n 0, 1, oN 0 0 0, []),
  (.getfield 21, 3, oN 1 1 2, [263]),
  (.getfield 64, 3, oN 3 4 0, [232]),
  (.aload_n 0, 1, oN 0 0 0, []),
  (.getfield 29, 3, oN 1 2 2, [265]),
  (.getfield 67, 3, oN 4 10 2, [172]),
  (.iload_n 1, 1, oN 1 0 0, []),
  (.iaload, 1, oN 0 0 0, []),
  (.isub, 1, oN 0 0 0, []),
  (.bipush 30, 2, oI 30, []),
  (.if_icmp .le 8, 3, oN 74 0 0, []),
  (.aload_n 0, 1, oN 0 0 0, []),
  (.iload_n 1, 1, oN 1 0 0, []),
  (.invokevirtual 70, 3, oM M_Road_lookAround 2 1, [42, 439, 441, 9])]
theorem B_Road_doStep_23_ok : okB M_Road_doStep 23 B_Road_doStep_23 74 = true := by decide +kernel
def B_Road_doStep_74 : List IT := [(.iinc 1 1, 3, oJ 1 1, []),
  (.goto (-54), 3, oN 23 0 0, [])]
theorem B_Road_doStep_74_ok : okB M_Road_doStep 74 B_Road_doStep_74 80 = true := by decide +kernel
def B_Road_doStep_80 : List IT := [(.iconst 0, 1, oI 0, []),
  (.istore_n 1, 1, oN 1 0 0, [])]
theorem B_Road_doStep_80_ok : okB M_Road_doStep 80 B_Road_doStep_80 82 = true := by decide +kernel
def B_Road_doStep_82 : List IT := [(.iload_n 1, 1, oN 1 0 0, []),
  (.aload_n 0, 1, oN 0 0 0, []),
  (.getfield 35, 3, oN 1 4 0, [267]),
  (.if_icmp .ge 14, 3, oN 101 0 0, []),
  (.aload_n 0, 1, oN 0 0 0, []),
  (.iload_n 1, 1, oN 1 0 0, []),
  (.invokevirtual 73, 3, oM M_Road_makeSpeeds 2 1, [42, 467, 469, 14]),
  (.iinc 1 1, 3, oJ 1 1, []),
  (.goto (-16), 3, oN 82 0 0, [])]
theorem B_Road_doStep_82_ok : okB M_Road_doStep 82 B_Road_doStep_82 101 = true := by decide +kernel
def B_Road_doStep_101 : List IT := [(.iconst 0, 1, oI 0, []),
  (.istore_n 1, 1, oN 1 0 0, [])]
theorem B_Road_doStep_101_ok : okB M_Road_doStep 101 B_Road_doStep_101 103 = true := by decide +kernel
def B_Road_doStep_103 : List IT := [(.iload_n 1, 1, oN 1 0 0, []),
  (.aload_n 0, 1, oN 0 0 0, []),
  (.getfield 35, 3, oN 1 4 0, [267]),
  (.if_icmp .ge 24, 3, oN 132 0 0, []),
  (.aload_n 0, 1, oN 0 0 0, []),
  (.iload_n 1, 1, oN 1 0 0, []),
  (.invokevirtual 76, 3, oM M_Road_moveAll 2 1, [42, 475, 477, 16]),
  (.aload_n 0, 1, oN 0 0 0, []),
  (.iload_n 1, 1, oN 1 0 0, []),
  (.invokevirtual 79, 3, oM M_Road_letOut 2 1, [42, 487, 489, 19]),
  (.aload_n 0, 1, oN 0 0 0, []),
  (.iload_n 1, 1, oN 1 0 0, []),
  (.invokevirtual 82, 3, oM M_Road_findNearMisses 2 1, [42, 491, 493, 20]),
  (.iinc 1 1, 3, oJ 1 1, []),
  (.goto (-26), 3, oN 103 0 0, [])]
theorem B_Road_doStep_103_ok : okB M_Road_doStep 103 B_Road_doStep_103 132 = true := by decide +kernel
def B_Road_doStep_132 : List IT := [(.aload_n 0, 1, oN 0 0 0, []),
  (.getfield 21, 3, oN 1 1 2, [263]),
  (.dup, 1, oN 0 0 0, []),
  (.getfield 64, 3, oN 3 4 0, [232]),
  (.iconst 1, 1, oI 1, []),
  (.iadd, 1, oN 0 0 0, []),
  (.putfield 64, 3, oN 3 4 0, [232]),
  (.return_, 1, oN 0 0 0, [])]
theorem B_Road_doStep_132_ok : okB M_Road_doStep 132 B_Road_doStep_132 146 = true := by decide +kernel
def B_Road_findNearMisses_0 : List IT := [(.iload_n 1, 1, oN 1 0 0, []),
  (.bipush 60, 2, oI 60, []),
  (.imul, 1, oN 0 0 0, []),
  (.istore_n 2, 1, oN 2 0 0, []),
  (.iconst 1, 1, oI 1, []),
  (.istore_n 3, 1, oN 3 0 0, [])]
theorem B_Road_findNearMisses_0_ok : okB M_Road_findNearMisses 0 B_Road_findNearMisses_0 7 = true := by decide +kernel
def B_Road_findNearMisses_7 : List IT := [(.iload_n 3, 1, oN 3 0 0, []),
  (.aload_n 0, 1, oN 0 0 0, []),
  (.getfield 34, 3, oN 1 3 2, [266]),
  (.getfield 42, 3, oN 5 1 2, [216]),
  (.iload_n 1, 1, oN 1 0 0, []),
  (.iaload, 1, oN 0 0 0, []),
  (.if_icmp .ge 112, 3, oN 129 0 0, []),
  (.aload_n 0, 1, oN 0 0 0, []),
  (.getfield 34, 3, oN 1 3 2, [266]),
  (.getfield 175, 3, oN 5 0 2, [214]),
  (.iload_n 2, 1, oN 2 0 0, []),
  (.iload_n 3, 1, oN 3 0 0, []),
  (.iadd, 1, oN 0 0 0, []),
  (.iconst 1, 1, oI 1, []),
  (.isub, 1, oN 0 0 0, []),
  (.iaload, 1, oN 0 0 0, []),
  (.istore 4, 2, oN 4 0 0, []),
  (.aload_n 0, 1, oN 0 0 0, []),
  (.getfield 34, 3, oN 1 3 2, [266]),
  (.getfield 175, 3, oN 5 0 2, [214]),
  (.iload_n 2, 1, oN 2 0 0, []),
  (.iload_n 3, 1, oN 3 0 0, []),
  (.iadd, 1, oN 0 0 0, []),
  (.iaload, 1, oN 0 0 0, []),
  (.istore 5, 2, oN 5 0 0, []),
  (.aload_n 0, 1, oN 0 0 0, []),
  (.getfield 29, 3, oN 1 2 2, [265]),
  (.iload 4, 2, oN 4 0 0, []),
  (.invokevirtual 90, 3, oM M_Cars_rear 2 4, [45, 401, 402, 403]),
  (.aload_n 0, 1, oN 0 0 0, []),
  (.getfield 29, 3, oN 1 2 2, [265]),
  (.getfield 93, 3, oN 4 6 2, [160]),
  (.iload 5, 2, oN 5 0 0, []),
  (.iaload, 1, oN 0 0 0, []),
  (.isub, 1, oN 0 0 0, []),
  (.istore 6, 2, oN 6 0 0, []),
  (.aload_n 0, 1, oN 0 0 0, []),
  (.getfield 29, 3, oN 1 2 2, [265]),
  (.getfield 143, 3, oN 4 7 2, [164]),
  (.iload 5, 2, oN 5 0 0, []),
  (.iaload, 1, oN 0 0 0, []),
  (.aload_n 0, 1, oN 0 0 0, []),
  (.getfield 29, 3, oN 1 2 2, [265]),
  (.getfield 143, 3, oN 4 7 2, [164]),
  (.iload 4, 2, oN 4 0 0, []),
  (.iaload, 1, oN 0 0 0, []),
  (.if_icmp .le 33, 3, oN 123 0 0, []),
  (.iload 6, 2, oN 6 0 0, []),
  (.iconst 5, 1, oI 5, []),
  (.aload_n 0, 1, oN 0 0 0, []),
  (.getfield 29, 3, oN 1 2 2, [265]),
  (.getfield 143, 3, oN 4 7 2, [164]),
  (.iload 5, 2, oN 5 0 0, []),
  (.iaload, 1, oN 0 0 0, []),
  (.imul, 1, oN 0 0 0, []),
  (.if_icmp .ge 16, 3, oN 123 0 0, []),
  (.aload_n 0, 1, oN 0 0 0, []),
  (.getfield 21, 3, oN 1 1 2, [263]),
  (.dup, 1, oN 0 0 0, []),
  (.getfield 211, 3, oN 3 5 0, [237]),
  (.iconst 1, 1, oI 1, []),
  (.iadd, 1, oN 0 0 0, []),
  (.putfield 211, 3, oN 3 5 0, [237])]
theorem B_Road_findNearMisses_7_ok : okB M_Road_findNearMisses 7 B_Road_findNearMisses_7 123 = true := by decide +kernel
def B_Road_findNearMisses_123 : List IT := [(.iinc 3 1, 3, oJ 3 1, []),
  (.goto (-119), 3, oN 7 0 0, [])]
theorem B_Road_findNearMisses_123_ok : okB M_Road_findNearMisses 123 B_Road_findNearMisses_123 129 = true := by decide +kernel
def B_Road_findNearMisses_129 : List IT := [(.return_, 1, oN 0 0 0, [])]
theorem B_Road_findNearMisses_129_ok : okB M_Road_findNearMisses 129 B_Road_findNearMisses_129 130 = true := by decide +kernel
def B_Road_gapIn_0 : List IT := [(.ldc 85, 2, oI 1000000, [413]),
  (.istore 4, 2, oN 4 0 0, []),
  (.aload_n 0, 1, oN 0 0 0, []),
  (.getfield 34, 3, oN 1 3 2, [266]),
  (.iload_n 1, 1, oN 1 0 0, []),
  (.iload_n 2, 1, oN 2 0 0, []),
  (.iconst 1, 1, oI 1, []),
  (.isub, 1, oN 0 0 0, []),
  (.invokevirtual 86, 3, oM M_Rows_carAt 3 5, [46, 397, 398, 399]),
  (.istore 5, 2, oN 5 0 0, []),
  (.iload 5, 2, oN 5 0 0, []),
  (.iconst (-1), 1, oI (-1), []),
  (.if_icmp .eq 29, 3, oN 49 0 0, []),
  (.iload 4, 2, oN 4 0 0, []),
  (.aload_n 0, 1, oN 0 0 0, []),
  (.getfield 29, 3, oN 1 2 2, [265]),
  (.iload 5, 2, oN 5 0 0, []),
  (.invokevirtual 90, 3, oM M_Cars_rear 2 4, [45, 401, 402, 403]),
  (.aload_n 0, 1, oN 0 0 0, []),
  (.getfield 29, 3, oN 1 2 2, [265]),
  (.getfield 93, 3, oN 4 6 2, [160]),
  (.iload_n 3, 1, oN 3 0 0, []),
  (.iaload, 1, oN 0 0 0, []),
  (.isub, 1, oN 0 0 0, []),
  (.invokestatic 96, 3, oN 0 0 2, [414, 58, 41]),
  (.istore 4, 2, oN 4 0 0, [])]
theorem B_Road_gapIn_0_ok : okB M_Road_gapIn 0 B_Road_gapIn_0 49 = true := by decide +kernel
def B_Road_gapIn_49 : List IT := [(.aload_n 0, 1, oN 0 0 0, []),
  (.getfield 12, 3, oN 1 0 2, [261]),
  (.iload_n 1, 1, oN 1 0 0, []),
  (.aload_n 0, 1, oN 0 0 0, []),
  (.getfield 29, 3, oN 1 2 2, [265]),
  (.getfield 93, 3, oN 4 6 2, [160]),
  (.iload_n 3, 1, oN 3 0 0, []),
  (.iaload, 1, oN 0 0 0, []),
  (.aload_n 0, 1, oN 0 0 0, []),
  (.getfield 21, 3, oN 1 1 2, [263]),
  (.getfield 64, 3, oN 3 4 0, [232]),
  (.iload 4, 2, oN 4 0 0, []),
  (.invokevirtual 101, 3, oM M_Things_nearestForAll 5 2, [43, 415, 416, 417]),
  (.istore 4, 2, oN 4 0 0, []),
  (.aload_n 0, 1, oN 0 0 0, []),
  (.getfield 29, 3, oN 1 2 2, [265]),
  (.getfield 105, 3, oN 4 0 2, [142]),
  (.iload_n 3, 1, oN 3 0 0, []),
  (.iaload, 1, oN 0 0 0, []),
  (.iconst 1, 1, oI 1, []),
  (.if_icmp .ne 13, 3, oN 100 0 0, []),
  (.aload_n 0, 1, oN 0 0 0, []),
  (.iload_n 3, 1, oN 3 0 0, []),
  (.iload 4, 2, oN 4 0 0, []),
  (.invokevirtual 108, 3, oM M_Road_nearestStop 3 1, [42, 427, 429, 7]),
  (.goto 5, 3, oN 102 0 0, [])]
theorem B_Road_gapIn_49_ok : okB M_Road_gapIn 49 B_Road_gapIn_49 100 = true := by decide +kernel
def B_Road_gapIn_100 : List IT := [(.iload 4, 2, oN 4 0 0, [])]
theorem B_Road_gapIn_100_ok : okB M_Road_gapIn 100 B_Road_gapIn_100 102 = true := by decide +kernel
def B_Road_gapIn_102 : List IT := [(.ireturn, 1, oN 0 0 0, [])]
theorem B_Road_gapIn_102_ok : okB M_Road_gapIn 102 B_Road_gapIn_102 103 = true := by decide +kernel
def B_Road_hasRoom_0 : List IT := [(.aload_n 0, 1, oN 0 0 0, []),
  (.getfield 34, 3, oN 1 3 2, [266]),
  (.iload_n 1, 1, oN 1 0 0, []),
  (.aload_n 0, 1, oN 0 0 0, []),
  (.getfield 34, 3, oN 1 3 2, [266]),
  (.getfield 42, 3, oN 5 1 2, [216]),
  (.iload_n 1, 1, oN 1 0 0, []),
  (.iaload, 1, oN 0 0 0, []),
  (.iconst 1, 1, oI 1, []),
  (.isub, 1, oN 0 0 0, []),
  (.invokevirtual 86, 3, oM M_Rows_carAt 3 5, [46, 397, 398, 399]),
  (.istore_n 3, 1, oN 3 0 0, []),
  (.iload_n 3, 1, oN 3 0 0, []),
  (.iconst (-1), 1, oI (-1), []),
  (.if_icmp .eq 19, 3, oN 41 0 0, []),
  (.aload_n 0, 1, oN 0 0 0, []),
  (.getfield 29, 3, oN 1 2 2, [265]),
  (.iload_n 3, 1, oN 3 0 0, []),
  (.invokevirtual 90, 3, oM M_Cars_rear 2 4, [45, 401, 402, 403]),
  (.iload_n 2, 1, oN 2 0 0, []),
  (.sipush 200, 3, oI 200, []),
  (.iadd, 1, oN 0 0 0, []),
  (.if_icmp .lt 7, 3, oN 45 0 0, [])]
theorem B_Road_hasRoom_0_ok : okB M_Road_hasRoom 0 B_Road_hasRoom_0 41 = true := by decide +kernel
def B_Road_hasRoom_41 : List IT := [(.iconst 1, 1, oI 1, []),
  (.goto 4, 3, oN 46 0 0, [])]
theorem B_Road_hasRoom_41_ok : okB M_Road_hasRoom 41 B_Road_hasRoom_41 45 = true := by decide +kernel
def B_Road_hasRoom_45 : List IT := [(.iconst 0, 1, oI 0, [])]
theorem B_Road_hasRoom_45_ok : okB M_Road_hasRoom 45 B_Road_hasRoom_45 46 = true := by decide +kernel
def B_Road_hasRoom_46 : List IT := [(.ireturn, 1, oN 0 0 0, [])]
theorem B_Road_hasRoom_46_ok : okB M_Road_hasRoom 46 B_Road_hasRoom_46 47 = true := by decide +kernel
def B_Road_isBetter_0 : List IT := [(.iload_n 1, 1, oN 1 0 0, []),
  (.ifCond .lt 11, 3, oN 12 0 0, []),
  (.iload_n 1, 1, oN 1 0 0, []),
  (.aload_n 0, 1, oN 0 0 0, []),
  (.getfield 35, 3, oN 1 4 0, [267]),
  (.if_icmp .lt 5, 3, oN 14 0 0, [])]
theorem B_Road_isBetter_0_ok : okB M_Road_isBetter 0 B_Road_isBetter_0 12 = true := by decide +kernel
def B_Road_isBetter_12 : List IT := [(.iconst 0, 1, oI 0, []),
  (.ireturn, 1, oN 0 0 0, [])]
theorem B_Road_isBetter_12_ok : okB M_Road_isBetter 12 B_Road_isBetter_12 14 = true := by decide +kernel
def B_Road_isBetter_14 : List IT := [(.aload_n 0, 1, oN 0 0 0, []),
  (.getfield 21, 3, oN 1 1 2, [263]),
  (.iload_n 1, 1, oN 1 0 0, []),
  (.aload_n 0, 1, oN 0 0 0, []),
  (.getfield 29, 3, oN 1 2 2, [265]),
  (.getfield 93, 3, oN 4 6 2, [160]),
  (.iload_n 2, 1, oN 2 0 0, []),
  (.iaload, 1, oN 0 0 0, []),
  (.invokevirtual 159, 3, oM M_State_rankFor 3 3, [44, 443, 444, 445]),
  (.istore 4, 2, oN 4 0 0, []),
  (.aload_n 0, 1, oN 0 0 0, []),
  (.iload_n 1, 1, oN 1 0 0, []),
  (.iload 4, 2, oN 4 0 0, []),
  (.iload_n 2, 1, oN 2 0 0, []),
  (.invokevirtual 149, 3, oM M_Road_gapIn 4 1, [42, 409, 410, 411]),
  (.iload_n 3, 1, oN 3 0 0, []),
  (.isub, 1, oN 0 0 0, []),
  (.sipush 500, 3, oI 500, []),
  (.if_icmp .lt 29, 3, oN 75 0 0, []),
  (.aload_n 0, 1, oN 0 0 0, []),
  (.iload_n 1, 1, oN 1 0 0, []),
  (.iload 4, 2, oN 4 0 0, []),
  (.iload_n 2, 1, oN 2 0 0, []),
  (.invokevirtual 169, 3, oM M_Road_isFreeBefore 4 1, [42, 451, 453, 11]),
  (.ifCond .eq 18, 3, oN 75 0 0, []),
  (.aload_n 0, 1, oN 0 0 0, []),
  (.iload_n 1, 1, oN 1 0 0, []),
  (.iload 4, 2, oN 4 0 0, []),
  (.iload_n 2, 1, oN 2 0 0, []),
  (.invokevirtual 172, 3, oM M_Road_isFreeBehind 4 1, [42, 455, 457, 12]),
  (.ifCond .eq 7, 3, oN 75 0 0, []),
  (.iconst 1, 1, oI 1, []),
  (.goto 4, 3, oN 76 0 0, [])]
theorem B_Road_isBetter_14_ok : okB M_Road_isBetter 14 B_Road_isBetter_14 75 = true := by decide +kernel
def B_Road_isBetter_75 : List IT := [(.iconst 0, 1, oI 0, [])]
theorem B_Road_isBetter_75_ok : okB M_Road_isBetter 75 B_Road_isBetter_75 76 = true := by decide +kernel
def B_Road_isBetter_76 : List IT := [(.ireturn, 1, oN 0 0 0, [])]
theorem B_Road_isBetter_76_ok : okB M_Road_isBetter 76 B_Road_isBetter_76 77 = true := by decide +kernel
def B_Road_isFreeBefore_0 : List IT := [(.aload_n 0, 1, oN 0 0 0, []),
  (.getfield 34, 3, oN 1 3 2, [266]),
  (.iload_n 1, 1, oN 1 0 0, []),
  (.iload_n 2, 1, oN 2 0 0, []),
  (.iconst 1, 1, oI 1, []),
  (.isub, 1, oN 0 0 0, []),
  (.invokevirtual 86, 3, oM M_Rows_carAt 3 5, [46, 397, 398, 399]),
  (.istore 4, 2, oN 4 0 0, []),
  (.iload 4, 2, oN 4 0 0, []),
  (.iconst (-1), 1, oI (-1), []),
  (.if_icmp .eq 24, 3, oN 40 0 0, []),
  (.aload_n 0, 1, oN 0 0 0, []),
  (.getfield 29, 3, oN 1 2 2, [265]),
  (.iload 4, 2, oN 4 0 0, []),
  (.invokevirtual 90, 3, oM M_Cars_rear 2 4, [45, 401, 402, 403]),
  (.aload_n 0, 1, oN 0 0 0, []),
  (.getfield 29, 3, oN 1 2 2, [265]),
  (.getfield 93, 3, oN 4 6 2, [160]),
  (.iload_n 3, 1, oN 3 0 0, []),
  (.iaload, 1, oN 0 0 0, []),
  (.if_icmp .lt 7, 3, oN 44 0 0, [])]
theorem B_Road_isFreeBefore_0_ok : okB M_Road_isFreeBefore 0 B_Road_isFreeBefore_0 40 = true := by decide +kernel
def B_Road_isFreeBefore_40 : List IT := [(.iconst 1, 1, oI 1, []),
  (.goto 4, 3, oN 45 0 0, [])]
theorem B_Road_isFreeBefore_40_ok : okB M_Road_isFreeBefore 40 B_Road_isFreeBefore_40 44 = true := by decide +kernel
def B_Road_isFreeBefore_44 : List IT := [(.iconst 0, 1, oI 0, [])]
theorem B_Road_isFreeBefore_44_ok : okB M_Road_isFreeBefore 44 B_Road_isFreeBefore_44 45 = true := by decide +kernel
def B_Road_isFreeBefore_45 : List IT := [(.ireturn, 1, oN 0 0 0, [])]
theorem B_Road_isFreeBefore_45_ok : okB M_Road_isFreeBefore 45 B_Road_isFreeBefore_45 46 = true := by decide +kernel
def B_Road_isFreeBehind_0 : List IT := [(.aload_n 0, 1, oN 0 0 0, []),
  (.getfield 29, 3, oN 1 2 2, [265]),
  (.iload_n 3, 1, oN 3 0 0, []),
  (.invokevirtual 90, 3, oM M_Cars_rear 2 4, [45, 401, 402, 403]),
  (.istore 4, 2, oN 4 0 0, []),
  (.iload_n 1, 1, oN 1 0 0, []),
  (.bipush 60, 2, oI 60, []),
  (.imul, 1, oN 0 0 0, []),
  (.istore 5, 2, oN 5 0 0, []),
  (.iload_n 2, 1, oN 2 0 0, []),
  (.istore 6, 2, oN 6 0 0, [])]
theorem B_Road_isFreeBehind_0_ok : okB M_Road_isFreeBehind 0 B_Road_isFreeBehind_0 19 = true := by decide +kernel
def B_Road_isFreeBehind_19 : List IT := [(.iload 6, 2, oN 6 0 0, []),
  (.aload_n 0, 1, oN 0 0 0, []),
  (.getfield 34, 3, oN 1 3 2, [266]),
  (.getfield 42, 3, oN 5 1 2, [216]),
  (.iload_n 1, 1, oN 1 0 0, []),
  (.iaload, 1, oN 0 0 0, []),
  (.if_icmp .ge 59, 3, oN 89 0 0, []),
  (.aload_n 0, 1, oN 0 0 0, []),
  (.getfield 34, 3, oN 1 3 2, [266]),
  (.getfield 175, 3, oN 5 0 2, [214]),
  (.iload 5, 2, oN 5 0 0, []),
  (.iload 6, 2, oN 6 0 0, []),
  (.iadd, 1, oN 0 0 0, []),
  (.iaload, 1, oN 0 0 0, []),
  (.istore 7, 2, oN 7 0 0, []),
  (.iload 4, 2, oN 4 0 0, []),
  (.aload_n 0, 1, oN 0 0 0, []),
  (.getfield 29, 3, oN 1 2 2, [265]),
  (.getfield 93, 3, oN 4 6 2, [160]),
  (.iload 7, 2, oN 7 0 0, []),
  (.iaload, 1, oN 0 0 0, []),
  (.isub, 1, oN 0 0 0, []),
  (.sipush 200, 3, oI 200, []),
  (.bipush 10, 2, oI 10, []),
  (.aload_n 0, 1, oN 0 0 0, []),
  (.getfield 29, 3, oN 1 2 2, [265]),
  (.getfield 143, 3, oN 4 7 2, [164]),
  (.iload 7, 2, oN 7 0 0, []),
  (.iaload, 1, oN 0 0 0, []),
  (.imul, 1, oN 0 0 0, []),
  (.iadd, 1, oN 0 0 0, []),
  (.if_icmp .ge 5, 3, oN 83 0 0, []),
  (.iconst 0, 1, oI 0, []),
  (.ireturn, 1, oN 0 0 0, [])]
theorem B_Road_isFreeBehind_19_ok : okB M_Road_isFreeBehind 19 B_Road_isFreeBehind_19 83 = true := by decide +kernel
def B_Road_isFreeBehind_83 : List IT := [(.iinc 6 1, 3, oJ 6 1, []),
  (.goto (-67), 3, oN 19 0 0, [])]
theorem B_Road_isFreeBehind_83_ok : okB M_Road_isFreeBehind 83 B_Road_isFreeBehind_83 89 = true := by decide +kernel
def B_Road_isFreeBehind_89 : List IT := [(.iconst 1, 1, oI 1, []),
  (.ireturn, 1, oN 0 0 0, [])]
theorem B_Road_isFreeBehind_89_ok : okB M_Road_isFreeBehind 89 B_Road_isFreeBehind_89 91 = true := by decide +kernel
def B_Road_isIdle_0 : List IT := [(.iconst 0, 1, oI 0, []),
  (.istore_n 1, 1, oN 1 0 0, [])]
theorem B_Road_isIdle_0_ok : okB M_Road_isIdle 0 B_Road_isIdle_0 2 = true := by decide +kernel
def B_Road_isIdle_2 : List IT := [(.iload_n 1, 1, oN 1 0 0, []),
  (.aload_n 0, 1, oN 0 0 0, []),
  (.getfield 35, 3, oN 1 4 0, [267]),
  (.if_icmp .ge 35, 3, oN 42 0 0, []),
  (.aload_n 0, 1, oN 0 0 0, []),
  (.getfield 34, 3, oN 1 3 2, [266]),
  (.getfield 42, 3, oN 5 1 2, [216]),
  (.iload_n 1, 1, oN 1 0 0, []),
  (.iaload, 1, oN 0 0 0, []),
  (.ifCond .gt 15, 3, oN 34 0 0, []),
  (.aload_n 0, 1, oN 0 0 0, []),
  (.getfield 21, 3, oN 1 1 2, [263]),
  (.iload_n 1, 1, oN 1 0 0, []),
  (.invokevirtual 48, 3, oM M_State_longestWaiter 2 3, [44, 377, 378, 379]),
  (.iconst (-1), 1, oI (-1), []),
  (.if_icmp .eq 5, 3, oN 36 0 0, [])]
theorem B_Road_isIdle_2_ok : okB M_Road_isIdle 2 B_Road_isIdle_2 34 = true := by decide +kernel
def B_Road_isIdle_34 : List IT := [(.iconst 0, 1, oI 0, []),
  (.ireturn, 1, oN 0 0 0, [])]
theorem B_Road_isIdle_34_ok : okB M_Road_isIdle 34 B_Road_isIdle_34 36 = true := by decide +kernel
def B_Road_isIdle_36 : List IT := [(.iinc 1 1, 3, oJ 1 1, []),
  (.goto (-37), 3, oN 2 0 0, [])]
theorem B_Road_isIdle_36_ok : okB M_Road_isIdle 36 B_Road_isIdle_36 42 = true := by decide +kernel
def B_Road_isIdle_42 : List IT := [(.iconst 1, 1, oI 1, []),
  (.ireturn, 1, oN 0 0 0, [])]
theorem B_Road_isIdle_42_ok : okB M_Road_isIdle 42 B_Road_isIdle_42 44 = true := by decide +kernel
def B_Road_isServed_0 : List IT := [(.aload_n 0, 1, oN 0 0 0, []),
  (.getfield 29, 3, oN 1 2 2, [265]),
  (.getfield 121, 3, oN 4 11 2, [174]),
  (.iload_n 1, 1, oN 1 0 0, []),
  (.iconst 4, 1, oI 4, []),
  (.imul, 1, oN 0 0 0, []),
  (.iload_n 2, 1, oN 2 0 0, []),
  (.iadd, 1, oN 0 0 0, []),
  (.iaload, 1, oN 0 0 0, []),
  (.aload_n 0, 1, oN 0 0 0, []),
  (.getfield 12, 3, oN 1 0 2, [261]),
  (.getfield 124, 3, oN 2 8 2, [86]),
  (.iload_n 2, 1, oN 2 0 0, []),
  (.iaload, 1, oN 0 0 0, []),
  (.if_icmp .lt 7, 3, oN 29 0 0, []),
  (.iconst 1, 1, oI 1, []),
  (.goto 4, 3, oN 30 0 0, [])]
theorem B_Road_isServed_0_ok : okB M_Road_isServed 0 B_Road_isServed_0 29 = true := by decide +kernel
def B_Road_isServed_29 : List IT := [(.iconst 0, 1, oI 0, [])]
theorem B_Road_isServed_29_ok : okB M_Road_isServed 29 B_Road_isServed_29 30 = true := by decide +kernel
def B_Road_isServed_30 : List IT := [(.ireturn, 1, oN 0 0 0, [])]
theorem B_Road_isServed_30_ok : okB M_Road_isServed 30 B_Road_isServed_30 31 = true := by decide +kernel
def B_Road_letIn_0 : List IT := [(.aload_n 0, 1, oN 0 0 0, []),
  (.getfield 21, 3, oN 1 1 2, [263]),
  (.iload_n 1, 1, oN 1 0 0, []),
  (.invokevirtual 48, 3, oM M_State_longestWaiter 2 3, [44, 377, 378, 379]),
  (.istore_n 2, 1, oN 2 0 0, []),
  (.iload_n 2, 1, oN 2 0 0, []),
  (.iconst (-1), 1, oI (-1), []),
  (.if_icmp .eq 20, 3, oN 31 0 0, []),
  (.aload_n 0, 1, oN 0 0 0, []),
  (.iload_n 1, 1, oN 1 0 0, []),
  (.aload_n 0, 1, oN 0 0 0, []),
  (.getfield 29, 3, oN 1 2 2, [265]),
  (.getfield 130, 3, oN 4 1 2, [144]),
  (.iload_n 2, 1, oN 2 0 0, []),
  (.iaload, 1, oN 0 0 0, []),
  (.invokevirtual 133, 3, oM M_Road_hasRoom 3 1, [42, 393, 395, 4]),
  (.ifCond .ne 4, 3, oN 32 0 0, [])]
theorem B_Road_letIn_0_ok : okB M_Road_letIn 0 B_Road_letIn_0 31 = true := by decide +kernel
def B_Road_letIn_31 : List IT := [(.return_, 1, oN 0 0 0, [])]
theorem B_Road_letIn_31_ok : okB M_Road_letIn 31 B_Road_letIn_31 32 = true := by decide +kernel
def B_Road_letIn_32 : List IT := [(.aload_n 0, 1, oN 0 0 0, []),
  (.getfield 29, 3, oN 1 2 2, [265]),
  (.getfield 61, 3, oN 4 5 2, [156]),
  (.iload_n 2, 1, oN 2 0 0, []),
  (.iconst 1, 1, oI 1, []),
  (.iastore, 1, oN 0 0 0, []),
  (.aload_n 0, 1, oN 0 0 0, []),
  (.getfield 29, 3, oN 1 2 2, [265]),
  (.getfield 93, 3, oN 4 6 2, [160]),
  (.iload_n 2, 1, oN 2 0 0, []),
  (.aload_n 0, 1, oN 0 0 0, []),
  (.getfield 29, 3, oN 1 2 2, [265]),
  (.getfield 130, 3, oN 4 1 2, [144]),
  (.iload_n 2, 1, oN 2 0 0, []),
  (.iaload, 1, oN 0 0 0, []),
  (.iastore, 1, oN 0 0 0, []),
  (.aload_n 0, 1, oN 0 0 0, []),
  (.getfield 29, 3, oN 1 2 2, [265]),
  (.getfield 136, 3, oN 4 8 2, [166]),
  (.iload_n 2, 1, oN 2 0 0, []),
  (.aload_n 0, 1, oN 0 0 0, []),
  (.getfield 21, 3, oN 1 1 2, [263]),
  (.getfield 64, 3, oN 3 4 0, [232]),
  (.iastore, 1, oN 0 0 0, []),
  (.aload_n 0, 1, oN 0 0 0, []),
  (.getfield 29, 3, oN 1 2 2, [265]),
  (.getfield 67, 3, oN 4 10 2, [172]),
  (.iload_n 2, 1, oN 2 0 0, []),
  (.aload_n 0, 1, oN 0 0 0, []),
  (.getfield 21, 3, oN 1 1 2, [263]),
  (.getfield 64, 3, oN 3 4 0, [232]),
  (.iastore, 1, oN 0 0 0, []),
  (.aload_n 0, 1, oN 0 0 0, []),
  (.getfield 34, 3, oN 1 3 2, [266]),
  (.getfield 42, 3, oN 5 1 2, [216]),
  (.iload_n 1, 1, oN 1 0 0, []),
  (.iaload, 1, oN 0 0 0, []),
  (.istore_n 3, 1, oN 3 0 0, []),
  (.aload_n 0, 1, oN 0 0 0, []),
  (.getfield 34, 3, oN 1 3 2, [266]),
  (.iload_n 1, 1, oN 1 0 0, []),
  (.iload_n 3, 1, oN 3 0 0, []),
  (.iload_n 2, 1, oN 2 0 0, []),
  (.invokevirtual 139, 3, oM M_Rows_insert 4 5, [46, 405, 406, 407]),
  (.aload_n 0, 1, oN 0 0 0, []),
  (.getfield 29, 3, oN 1 2 2, [265]),
  (.getfield 143, 3, oN 4 7 2, [164]),
  (.iload_n 2, 1, oN 2 0 0, []),
  (.aload_n 0, 1, oN 0 0 0, []),
  (.getfield 29, 3, oN 1 2 2, [265]),
  (.getfield 146, 3, oN 4 2 2, [147]),
  (.iload_n 2, 1, oN 2 0 0, []),
  (.iaload, 1, oN 0 0 0, []),
  (.aload_n 0, 1, oN 0 0 0, []),
  (.iload_n 1, 1, oN 1 0 0, []),
  (.iload_n 3, 1, oN 3 0 0, []),
  (.iload_n 2, 1, oN 2 0 0, []),
  (.invokevirtual 149, 3, oM M_Road_gapIn 4 1, [42, 409, 410, 411]),
  (.invokestatic 153, 3, oM M_Road_allowedBy 1 0, [42, 435, 436]),
  (.invokestatic 96, 3, oN 0 0 2, [414, 58, 41]),
  (.iastore, 1, oN 0 0 0, []),
  (.return_, 1, oN 0 0 0, [])]
theorem B_Road_letIn_32_ok : okB M_Road_letIn 32 B_Road_letIn_32 144 = true := by decide +kernel
def B_Road_letOut_0 : List IT := [(.aload_n 0, 1, oN 0 0 0, []),
  (.getfield 34, 3, oN 1 3 2, [266]),
  (.getfield 42, 3, oN 5 1 2, [216]),
  (.iload_n 1, 1, oN 1 0 0, []),
  (.iaload, 1, oN 0 0 0, []),
  (.iconst 1, 1, oI 1, []),
  (.isub, 1, oN 0 0 0, []),
  (.istore_n 2, 1, oN 2 0 0, [])]
theorem B_Road_letOut_0_ok : okB M_Road_letOut 0 B_Road_letOut_0 12 = true := by decide +kernel
def B_Road_letOut_12 : List IT := [(.iload_n 2, 1, oN 2 0 0, []),
  (.ifCond .lt 74, 3, oN 87 0 0, []),
  (.aload_n 0, 1, oN 0 0 0, []),
  (.getfield 34, 3, oN 1 3 2, [266]),
  (.iload_n 1, 1, oN 1 0 0, []),
  (.iload_n 2, 1, oN 2 0 0, []),
  (.invokevirtual 86, 3, oM M_Rows_carAt 3 5, [46, 397, 398, 399]),
  (.istore_n 3, 1, oN 3 0 0, []),
  (.iload_n 3, 1, oN 3 0 0, []),
  (.iconst (-1), 1, oI (-1), []),
  (.if_icmp .eq 53, 3, oN 81 0 0, []),
  (.aload_n 0, 1, oN 0 0 0, []),
  (.getfield 29, 3, oN 1 2 2, [265]),
  (.iload_n 3, 1, oN 3 0 0, []),
  (.invokevirtual 90, 3, oM M_Cars_rear 2 4, [45, 401, 402, 403]),
  (.aload_n 0, 1, oN 0 0 0, []),
  (.getfield 39, 3, oN 1 5 0, [268]),
  (.if_icmp .le 38, 3, oN 81 0 0, []),
  (.aload_n 0, 1, oN 0 0 0, []),
  (.getfield 29, 3, oN 1 2 2, [265]),
  (.getfield 61, 3, oN 4 5 2, [156]),
  (.iload_n 3, 1, oN 3 0 0, []),
  (.iconst 2, 1, oI 2, []),
  (.iastore, 1, oN 0 0 0, []),
  (.aload_n 0, 1, oN 0 0 0, []),
  (.getfield 29, 3, oN 1 2 2, [265]),
  (.getfield 208, 3, oN 4 9 2, [170]),
  (.iload_n 3, 1, oN 3 0 0, []),
  (.aload_n 0, 1, oN 0 0 0, []),
  (.getfield 21, 3, oN 1 1 2, [263]),
  (.getfield 64, 3, oN 3 4 0, [232]),
  (.iastore, 1, oN 0 0 0, []),
  (.aload_n 0, 1, oN 0 0 0, []),
  (.getfield 34, 3, oN 1 3 2, [266]),
  (.iload_n 1, 1, oN 1 0 0, []),
  (.iload_n 2, 1, oN 2 0 0, []),
  (.invokevirtual 177, 3, oM M_Rows_remove 3 5, [46, 463, 464, 465])]
theorem B_Road_letOut_12_ok : okB M_Road_letOut 12 B_Road_letOut_12 81 = true := by decide +kernel
def B_Road_letOut_81 : List IT := [(.iinc 2 (-1), 3, oJ 2 (-1), []),
  (.goto (-72), 3, oN 12 0 0, [])]
theorem B_Road_letOut_81_ok : okB M_Road_letOut 81 B_Road_letOut_81 87 = true := by decide +kernel
def B_Road_letOut_87 : List IT := [(.return_, 1, oN 0 0 0, [])]
theorem B_Road_letOut_87_ok : okB M_Road_letOut 87 B_Road_letOut_87 88 = true := by decide +kernel
def B_Road_lookAround_0 : List IT := [(.aload_n 0, 1, oN 0 0 0, []),
  (.getfield 29, 3, oN 1 2 2, [265]),
  (.getfield 156, 3, oN 4 4 2, [154]),
  (.iload_n 1, 1, oN 1 0 0, []),
  (.iaload, 1, oN 0 0 0, []),
  (.istore_n 2, 1, oN 2 0 0, []),
  (.aload_n 0, 1, oN 0 0 0, []),
  (.getfield 21, 3, oN 1 1 2, [263]),
  (.iload_n 2, 1, oN 2 0 0, []),
  (.aload_n 0, 1, oN 0 0 0, []),
  (.getfield 29, 3, oN 1 2 2, [265]),
  (.getfield 93, 3, oN 4 6 2, [160]),
  (.iload_n 1, 1, oN 1 0 0, []),
  (.iaload, 1, oN 0 0 0, []),
  (.invokevirtual 159, 3, oM M_State_rankFor 3 3, [44, 443, 444, 445]),
  (.istore_n 3, 1, oN 3 0 0, []),
  (.aload_n 0, 1, oN 0 0 0, []),
  (.iload_n 2, 1, oN 2 0 0, []),
  (.iload_n 3, 1, oN 3 0 0, []),
  (.iload_n 1, 1, oN 1 0 0, []),
  (.invokevirtual 149, 3, oM M_Road_gapIn 4 1, [42, 409, 410, 411]),
  (.istore 4, 2, oN 4 0 0, []),
  (.iload 4, 2, oN 4 0 0, []),
  (.invokestatic 153, 3, oM M_Road_allowedBy 1 0, [42, 435, 436]),
  (.aload_n 0, 1, oN 0 0 0, []),
  (.getfield 29, 3, oN 1 2 2, [265]),
  (.getfield 146, 3, oN 4 2 2, [147]),
  (.iload_n 1, 1, oN 1 0 0, []),
  (.iaload, 1, oN 0 0 0, []),
  (.if_icmp .lt 4, 3, oN 55 0 0, []),
  (.return_, 1, oN 0 0 0, [])]
theorem B_Road_lookAround_0_ok : okB M_Road_lookAround 0 B_Road_lookAround_0 55 = true := by decide +kernel
def B_Road_lookAround_55 : List IT := [(.aload_n 0, 1, oN 0 0 0, []),
  (.iload_n 2, 1, oN 2 0 0, []),
  (.iconst 1, 1, oI 1, []),
  (.isub, 1, oN 0 0 0, []),
  (.iload_n 1, 1, oN 1 0 0, []),
  (.iload 4, 2, oN 4 0 0, []),
  (.invokevirtual 162, 3, oM M_Road_isBetter 4 1, [42, 447, 449, 10]),
  (.ifCond .eq 15, 3, oN 80 0 0, []),
  (.aload_n 0, 1, oN 0 0 0, []),
  (.iload_n 2, 1, oN 2 0 0, []),
  (.iconst 1, 1, oI 1, []),
  (.isub, 1, oN 0 0 0, []),
  (.iload_n 3, 1, oN 3 0 0, []),
  (.iload_n 1, 1, oN 1 0 0, []),
  (.invokevirtual 166, 3, oM M_Road_changeTo 4 1, [42, 459, 461, 13]),
  (.goto 25, 3, oN 102 0 0, [])]
theorem B_Road_lookAround_55_ok : okB M_Road_lookAround 55 B_Road_lookAround_55 80 = true := by decide +kernel
def B_Road_lookAround_80 : List IT := [(.aload_n 0, 1, oN 0 0 0, []),
  (.iload_n 2, 1, oN 2 0 0, []),
  (.iconst 1, 1, oI 1, []),
  (.iadd, 1, oN 0 0 0, []),
  (.iload_n 1, 1, oN 1 0 0, []),
  (.iload 4, 2, oN 4 0 0, []),
  (.invokevirtual 162, 3, oM M_Road_isBetter 4 1, [42, 447, 449, 10]),
  (.ifCond .eq 12, 3, oN 102 0 0, []),
  (.aload_n 0, 1, oN 0 0 0, []),
  (.iload_n 2, 1, oN 2 0 0, []),
  (.iconst 1, 1, oI 1, []),
  (.iadd, 1, oN 0 0 0, []),
  (.iload_n 3, 1, oN 3 0 0, []),
  (.iload_n 1, 1, oN 1 0 0, []),
  (.invokevirtual 166, 3, oM M_Road_changeTo 4 1, [42, 459, 461, 13])]
theorem B_Road_lookAround_80_ok : okB M_Road_lookAround 80 B_Road_lookAround_80 102 = true := by decide +kernel
def B_Road_lookAround_102 : List IT := [(.return_, 1, oN 0 0 0, [])]
theorem B_Road_lookAround_102_ok : okB M_Road_lookAround 102 B_Road_lookAround_102 103 = true := by decide +kernel
def B_Road_makeSpeeds_0 : List IT := [(.iload_n 1, 1, oN 1 0 0, []),
  (.bipush 60, 2, oI 60, []),
  (.imul, 1, oN 0 0 0, []),
  (.istore_n 2, 1, oN 2 0 0, []),
  (.iconst 0, 1, oI 0, []),
  (.istore_n 3, 1, oN 3 0 0, [])]
theorem B_Road_makeSpeeds_0_ok : okB M_Road_makeSpeeds 0 B_Road_makeSpeeds_0 7 = true := by decide +kernel
def B_Road_makeSpeeds_7 : List IT := [(.iload_n 3, 1, oN 3 0 0, []),
  (.aload_n 0, 1, oN 0 0 0, []),
  (.getfield 34, 3, oN 1 3 2, [266]),
  (.getfield 42, 3, oN 5 1 2, [216]),
  (.iload_n 1, 1, oN 1 0 0, []),
  (.iaload, 1, oN 0 0 0, []),
  (.if_icmp .ge 91, 3, oN 108 0 0, []),
  (.aload_n 0, 1, oN 0 0 0, []),
  (.getfield 34, 3, oN 1 3 2, [266]),
  (.getfield 175, 3, oN 5 0 2, [214]),
  (.iload_n 2, 1, oN 2 0 0, []),
  (.iload_n 3, 1, oN 3 0 0, []),
  (.iadd, 1, oN 0 0 0, []),
  (.iaload, 1, oN 0 0 0, []),
  (.istore 4, 2, oN 4 0 0, []),
  (.aload_n 0, 1, oN 0 0 0, []),
  (.getfield 29, 3, oN 1 2 2, [265]),
  (.getfield 143, 3, oN 4 7 2, [164]),
  (.iload 4, 2, oN 4 0 0, []),
  (.iaload, 1, oN 0 0 0, []),
  (.istore 5, 2, oN 5 0 0, []),
  (.aload_n 0, 1, oN 0 0 0, []),
  (.iload_n 1, 1, oN 1 0 0, []),
  (.iload_n 3, 1, oN 3 0 0, []),
  (.iload 4, 2, oN 4 0 0, []),
  (.invokevirtual 149, 3, oM M_Road_gapIn 4 1, [42, 409, 410, 411]),
  (.invokestatic 153, 3, oM M_Road_allowedBy 1 0, [42, 435, 436]),
  (.aload_n 0, 1, oN 0 0 0, []),
  (.iload 4, 2, oN 4 0 0, []),
  (.invokevirtual 184, 3, oM M_Road_wishedSpeed 2 1, [42, 471, 473, 15]),
  (.invokestatic 96, 3, oN 0 0 2, [414, 58, 41]),
  (.istore 6, 2, oN 6 0 0, []),
  (.aload_n 0, 1, oN 0 0 0, []),
  (.getfield 29, 3, oN 1 2 2, [265]),
  (.getfield 143, 3, oN 4 7 2, [164]),
  (.iload 4, 2, oN 4 0 0, []),
  (.iload 6, 2, oN 6 0 0, []),
  (.iastore, 1, oN 0 0 0, []),
  (.iload 5, 2, oN 5 0 0, []),
  (.iload 6, 2, oN 6 0 0, []),
  (.isub, 1, oN 0 0 0, []),
  (.bipush 20, 2, oI 20, []),
  (.if_icmp .lt 16, 3, oN 102 0 0, []),
  (.aload_n 0, 1, oN 0 0 0, []),
  (.getfield 21, 3, oN 1 1 2, [263]),
  (.dup, 1, oN 0 0 0, []),
  (.getfield 187, 3, oN 3 6 0, [240]),
  (.iconst 1, 1, oI 1, []),
  (.iadd, 1, oN 0 0 0, []),
  (.putfield 187, 3, oN 3 6 0, [240])]
theorem B_Road_makeSpeeds_7_ok : okB M_Road_makeSpeeds 7 B_Road_makeSpeeds_7 102 = true := by decide +kernel
def B_Road_makeSpeeds_102 : List IT := [(.iinc 3 1, 3, oJ 3 1, []),
  (.goto (-98), 3, oN 7 0 0, [])]
theorem B_Road_makeSpeeds_102_ok : okB M_Road_makeSpeeds 102 B_Road_makeSpeeds_102 108 = true := by decide +kernel
def B_Road_makeSpeeds_108 : List IT := [(.return_, 1, oN 0 0 0, [])]
theorem B_Road_makeSpeeds_108_ok : okB M_Road_makeSpeeds 108 B_Road_makeSpeeds_108 109 = true := by decide +kernel
def B_Road_moveAll_0 : List IT := [(.iload_n 1, 1, oN 1 0 0, []),
  (.bipush 60, 2, oI 60, []),
  (.imul, 1, oN 0 0 0, []),
  (.istore_n 2, 1, oN 2 0 0, []),
  (.iconst 0, 1, oI 0, []),
  (.istore_n 3, 1, oN 3 0 0, [])]
theorem B_Road_moveAll_0_ok : okB M_Road_moveAll 0 B_Road_moveAll_0 7 = true := by decide +kernel
def B_Road_moveAll_7 : List IT := [(.iload_n 3, 1, oN 3 0 0, []),
  (.aload_n 0, 1, oN 0 0 0, []),
  (.getfield 34, 3, oN 1 3 2, [266]),
  (.getfield 42, 3, oN 5 1 2, [216]),
  (.iload_n 1, 1, oN 1 0 0, []),
  (.iaload, 1, oN 0 0 0, []),
  (.if_icmp .ge 107, 3, oN 124 0 0, []),
  (.aload_n 0, 1, oN 0 0 0, []),
  (.getfield 34, 3, oN 1 3 2, [266]),
  (.getfield 175, 3, oN 5 0 2, [214]),
  (.iload_n 2, 1, oN 2 0 0, []),
  (.iload_n 3, 1, oN 3 0 0, []),
  (.iadd, 1, oN 0 0 0, []),
  (.iaload, 1, oN 0 0 0, []),
  (.istore 4, 2, oN 4 0 0, []),
  (.aload_n 0, 1, oN 0 0 0, []),
  (.getfield 29, 3, oN 1 2 2, [265]),
  (.getfield 93, 3, oN 4 6 2, [160]),
  (.iload 4, 2, oN 4 0 0, []),
  (.iaload, 1, oN 0 0 0, []),
  (.istore 5, 2, oN 5 0 0, []),
  (.aload_n 0, 1, oN 0 0 0, []),
  (.getfield 29, 3, oN 1 2 2, [265]),
  (.getfield 93, 3, oN 4 6 2, [160]),
  (.iload 4, 2, oN 4 0 0, []),
  (.iload 5, 2, oN 5 0 0, []),
  (.aload_n 0, 1, oN 0 0 0, []),
  (.getfield 29, 3, oN 1 2 2, [265]),
  (.getfield 143, 3, oN 4 7 2, [164]),
  (.iload 4, 2, oN 4 0 0, []),
  (.iaload, 1, oN 0 0 0, []),
  (.iadd, 1, oN 0 0 0, []),
  (.iastore, 1, oN 0 0 0, []),
  (.aload_n 0, 1, oN 0 0 0, []),
  (.iload_n 1, 1, oN 1 0 0, []),
  (.iload 5, 2, oN 5 0 0, []),
  (.aload_n 0, 1, oN 0 0 0, []),
  (.getfield 29, 3, oN 1 2 2, [265]),
  (.getfield 93, 3, oN 4 6 2, [160]),
  (.iload 4, 2, oN 4 0 0, []),
  (.iaload, 1, oN 0 0 0, []),
  (.invokevirtual 193, 3, oM M_Road_passLines 4 1, [42, 479, 481, 17]),
  (.aload_n 0, 1, oN 0 0 0, []),
  (.getfield 29, 3, oN 1 2 2, [265]),
  (.getfield 105, 3, oN 4 0 2, [142]),
  (.iload 4, 2, oN 4 0 0, []),
  (.iaload, 1, oN 0 0 0, []),
  (.iconst 1, 1, oI 1, []),
  (.if_icmp .ne 22, 3, oN 118 0 0, []),
  (.aload_n 0, 1, oN 0 0 0, []),
  (.getfield 29, 3, oN 1 2 2, [265]),
  (.getfield 143, 3, oN 4 7 2, [164]),
  (.iload 4, 2, oN 4 0 0, []),
  (.iaload, 1, oN 0 0 0, []),
  (.ifCond .ne 9, 3, oN 118 0 0, []),
  (.aload_n 0, 1, oN 0 0 0, []),
  (.iload 4, 2, oN 4 0 0, []),
  (.invokevirtual 196, 3, oM M_Road_standAtStops 2 1, [42, 483, 485, 18])]
theorem B_Road_moveAll_7_ok : okB M_Road_moveAll 7 B_Road_moveAll_7 118 = true := by decide +kernel
def B_Road_moveAll_118 : List IT := [(.iinc 3 1, 3, oJ 3 1, []),
  (.goto (-114), 3, oN 7 0 0, [])]
theorem B_Road_moveAll_118_ok : okB M_Road_moveAll 118 B_Road_moveAll_118 124 = true := by decide +kernel
def B_Road_moveAll_124 : List IT := [(.return_, 1, oN 0 0 0, [])]
theorem B_Road_moveAll_124_ok : okB M_Road_moveAll 124 B_Road_moveAll_124 125 = true := by decide +kernel
def B_Road_nearestStop_0 : List IT := [(.iload_n 2, 1, oN 2 0 0, []),
  (.istore_n 3, 1, oN 3 0 0, []),
  (.iconst 0, 1, oI 0, []),
  (.istore 4, 2, oN 4 0 0, [])]
theorem B_Road_nearestStop_0_ok : okB M_Road_nearestStop 0 B_Road_nearestStop_0 5 = true := by decide +kernel
def B_Road_nearestStop_5 : List IT := [(.iload 4, 2, oN 4 0 0, []),
  (.aload_n 0, 1, oN 0 0 0, []),
  (.getfield 12, 3, oN 1 0 2, [261]),
  (.getfield 111, 3, oN 2 12 0, [94]),
  (.if_icmp .ge 55, 3, oN 69 0 0, []),
  (.aload_n 0, 1, oN 0 0 0, []),
  (.getfield 12, 3, oN 1 0 2, [261]),
  (.getfield 114, 3, oN 2 7 2, [84]),
  (.iload 4, 2, oN 4 0 0, []),
  (.iaload, 1, oN 0 0 0, []),
  (.aload_n 0, 1, oN 0 0 0, []),
  (.getfield 29, 3, oN 1 2 2, [265]),
  (.getfield 93, 3, oN 4 6 2, [160]),
  (.iload_n 1, 1, oN 1 0 0, []),
  (.iaload, 1, oN 0 0 0, []),
  (.isub, 1, oN 0 0 0, []),
  (.istore 5, 2, oN 5 0 0, []),
  (.iload 5, 2, oN 5 0 0, []),
  (.ifCond .lt 22, 3, oN 63 0 0, []),
  (.iload 5, 2, oN 5 0 0, []),
  (.iload_n 3, 1, oN 3 0 0, []),
  (.if_icmp .ge 16, 3, oN 63 0 0, []),
  (.aload_n 0, 1, oN 0 0 0, []),
  (.iload_n 1, 1, oN 1 0 0, []),
  (.iload 4, 2, oN 4 0 0, []),
  (.invokevirtual 117, 3, oM M_Road_isServed 3 1, [42, 431, 433, 8]),
  (.ifCond .ne 6, 3, oN 63 0 0, []),
  (.iload 5, 2, oN 5 0 0, []),
  (.istore_n 3, 1, oN 3 0 0, [])]
theorem B_Road_nearestStop_5_ok : okB M_Road_nearestStop 5 B_Road_nearestStop_5 63 = true := by decide +kernel
def B_Road_nearestStop_63 : List IT := [(.iinc 4 1, 3, oJ 4 1, []),
  (.goto (-61), 3, oN 5 0 0, [])]
theorem B_Road_nearestStop_63_ok : okB M_Road_nearestStop 63 B_Road_nearestStop_63 69 = true := by decide +kernel
def B_Road_nearestStop_69 : List IT := [(.iload_n 3, 1, oN 3 0 0, []),
  (.ireturn, 1, oN 0 0 0, [])]
theorem B_Road_nearestStop_69_ok : okB M_Road_nearestStop 69 B_Road_nearestStop_69 71 = true := by decide +kernel
def B_Road_passLines_0 : List IT := [(.iconst 0, 1, oI 0, []),
  (.istore 4, 2, oN 4 0 0, [])]
theorem B_Road_passLines_0_ok : okB M_Road_passLines 0 B_Road_passLines_0 3 = true := by decide +kernel
def B_Road_passLines_3 : List IT := [(.iload 4, 2, oN 4 0 0, []),
  (.aload_n 0, 1, oN 0 0 0, []),
  (.getfield 12, 3, oN 1 0 2, [261]),
  (.getfield 199, 3, oN 2 13 0, [98]),
  (.if_icmp .ge 51, 3, oN 63 0 0, []),
  (.aload_n 0, 1, oN 0 0 0, []),
  (.getfield 12, 3, oN 1 0 2, [261]),
  (.getfield 202, 3, oN 2 9 2, [88]),
  (.iload 4, 2, oN 4 0 0, []),
  (.iaload, 1, oN 0 0 0, []),
  (.istore 5, 2, oN 5 0 0, []),
  (.iload_n 2, 1, oN 2 0 0, []),
  (.iload 5, 2, oN 5 0 0, []),
  (.if_icmp .gt 27, 3, oN 57 0 0, []),
  (.iload_n 3, 1, oN 3 0 0, []),
  (.iload 5, 2, oN 5 0 0, []),
  (.if_icmp .le 21, 3, oN 57 0 0, []),
  (.aload_n 0, 1, oN 0 0 0, []),
  (.getfield 21, 3, oN 1 1 2, [263]),
  (.getfield 205, 3, oN 3 3 2, [231]),
  (.iload 4, 2, oN 4 0 0, []),
  (.iconst 3, 1, oI 3, []),
  (.imul, 1, oN 0 0 0, []),
  (.iload_n 1, 1, oN 1 0 0, []),
  (.iadd, 1, oN 0 0 0, []),
  (.dup2, 1, oN 0 0 0, []),
  (.iaload, 1, oN 0 0 0, []),
  (.iconst 1, 1, oI 1, []),
  (.iadd, 1, oN 0 0 0, []),
  (.iastore, 1, oN 0 0 0, [])]
theorem B_Road_passLines_3_ok : okB M_Road_passLines 3 B_Road_passLines_3 57 = true := by decide +kernel
def B_Road_passLines_57 : List IT := [(.iinc 4 1, 3, oJ 4 1, []),
  (.goto (-57), 3, oN 3 0 0, [])]
theorem B_Road_passLines_57_ok : okB M_Road_passLines 57 B_Road_passLines_57 63 = true := by decide +kernel
def B_Road_passLines_63 : List IT := [(.return_, 1, oN 0 0 0, [])]
theorem B_Road_passLines_63_ok : okB M_Road_passLines 63 B_Road_passLines_63 64 = true := by decide +kernel
def B_Road_standAtStops_0 : List IT := [(.iconst 0, 1, oI 0, []),
  (.istore_n 2, 1, oN 2 0 0, [])]
theorem B_Road_standAtStops_0_ok : okB M_Road_standAtStops 0 B_Road_standAtStops_0 2 = true := by decide +kernel
def B_Road_standAtStops_2 : List IT := [(.iload_n 2, 1, oN 2 0 0, []),
  (.aload_n 0, 1, oN 0 0 0, []),
  (.getfield 12, 3, oN 1 0 2, [261]),
  (.getfield 111, 3, oN 2 12 0, [94]),
  (.if_icmp .ge 57, 3, oN 67 0 0, []),
  (.aload_n 0, 1, oN 0 0 0, []),
  (.getfield 12, 3, oN 1 0 2, [261]),
  (.getfield 114, 3, oN 2 7 2, [84]),
  (.iload_n 2, 1, oN 2 0 0, []),
  (.iaload, 1, oN 0 0 0, []),
  (.aload_n 0, 1, oN 0 0 0, []),
  (.getfield 29, 3, oN 1 2 2, [265]),
  (.getfield 93, 3, oN 4 6 2, [160]),
  (.iload_n 1, 1, oN 1 0 0, []),
  (.iaload, 1, oN 0 0 0, []),
  (.isub, 1, oN 0 0 0, []),
  (.istore_n 3, 1, oN 3 0 0, []),
  (.iload_n 3, 1, oN 3 0 0, []),
  (.ifCond .lt 27, 3, oN 61 0 0, []),
  (.iload_n 3, 1, oN 3 0 0, []),
  (.sipush 400, 3, oI 400, []),
  (.if_icmp .gt 20, 3, oN 61 0 0, []),
  (.aload_n 0, 1, oN 0 0 0, []),
  (.getfield 29, 3, oN 1 2 2, [265]),
  (.getfield 121, 3, oN 4 11 2, [174]),
  (.iload_n 1, 1, oN 1 0 0, []),
  (.iconst 4, 1, oI 4, []),
  (.imul, 1, oN 0 0 0, []),
  (.iload_n 2, 1, oN 2 0 0, []),
  (.iadd, 1, oN 0 0 0, []),
  (.dup2, 1, oN 0 0 0, []),
  (.iaload, 1, oN 0 0 0, []),
  (.iconst 1, 1, oI 1, []),
  (.iadd, 1, oN 0 0 0, []),
  (.iastore, 1, oN 0 0 0, [])]
theorem B_Road_standAtStops_2_ok : okB M_Road_standAtStops 2 B_Road_standAtStops_2 61 = true := by decide +kernel
def B_Road_standAtStops_61 : List IT := [(.iinc 2 1, 3, oJ 2 1, []),
  (.goto (-62), 3, oN 2 0 0, [])]
theorem B_Road_standAtStops_61_ok : okB M_Road_standAtStops 61 B_Road_standAtStops_61 67 = true := by decide +kernel
def B_Road_standAtStops_67 : List IT := [(.return_, 1, oN 0 0 0, [])]
theorem B_Road_standAtStops_67_ok : okB M_Road_standAtStops 67 B_Road_standAtStops_67 68 = true := by decide +kernel
def B_Road_wishedSpeed_0 : List IT := [(.aload_n 0, 1, oN 0 0 0, []),
  (.getfield 29, 3, oN 1 2 2, [265]),
  (.getfield 190, 3, oN 4 3 2, [151]),
  (.iload_n 1, 1, oN 1 0 0, []),
  (.iaload, 1, oN 0 0 0, []),
  (.istore_n 2, 1, oN 2 0 0, []),
  (.iload_n 2, 1, oN 2 0 0, []),
  (.ifCond .le 19, 3, oN 30 0 0, []),
  (.aload_n 0, 1, oN 0 0 0, []),
  (.getfield 21, 3, oN 1 1 2, [263]),
  (.getfield 64, 3, oN 3 4 0, [232]),
  (.iload_n 2, 1, oN 2 0 0, []),
  (.irem, 1, oN 0 0 0, []),
  (.ifCond .ne 7, 3, oN 30 0 0, []),
  (.iconst 1, 1, oI 1, []),
  (.goto 4, 3, oN 31 0 0, [])]
theorem B_Road_wishedSpeed_0_ok : okB M_Road_wishedSpeed 0 B_Road_wishedSpeed_0 30 = true := by decide +kernel
def B_Road_wishedSpeed_30 : List IT := [(.iconst 0, 1, oI 0, [])]
theorem B_Road_wishedSpeed_30_ok : okB M_Road_wishedSpeed 30 B_Road_wishedSpeed_30 31 = true := by decide +kernel
def B_Road_wishedSpeed_31 : List IT := [(.istore_n 3, 1, oN 3 0 0, []),
  (.aload_n 0, 1, oN 0 0 0, []),
  (.getfield 29, 3, oN 1 2 2, [265]),
  (.getfield 146, 3, oN 4 2 2, [147]),
  (.iload_n 1, 1, oN 1 0 0, []),
  (.iaload, 1, oN 0 0 0, []),
  (.aload_n 0, 1, oN 0 0 0, []),
  (.getfield 29, 3, oN 1 2 2, [265]),
  (.getfield 143, 3, oN 4 7 2, [164]),
  (.iload_n 1, 1, oN 1 0 0, []),
  (.iaload, 1, oN 0 0 0, []),
  (.iload_n 3, 1, oN 3 0 0, []),
  (.ifCond .eq 8, 3, oN 59 0 0, []),
  (.bipush 6, 2, oI 6, []),
  (.goto 4, 3, oN 60 0 0, [])]
theorem B_Road_wishedSpeed_31_ok : okB M_Road_wishedSpeed 31 B_Road_wishedSpeed_31 59 = true := by decide +kernel
def B_Road_wishedSpeed_59 : List IT := [(.iconst 0, 1, oI 0, [])]
theorem B_Road_wishedSpeed_59_ok : okB M_Road_wishedSpeed 59 B_Road_wishedSpeed_59 60 = true := by decide +kernel
def B_Road_wishedSpeed_60 : List IT := [(.iadd, 1, oN 0 0 0, []),
  (.invokestatic 96, 3, oN 0 0 2, [414, 58, 41]),
  (.ireturn, 1, oN 0 0 0, [])]
theorem B_Road_wishedSpeed_60_ok : okB M_Road_wishedSpeed 60 B_Road_wishedSpeed_60 65 = true := by decide +kernel
end
section
/-! code of Rows, stretch by stretch (written by program) -/
def B_Rows_init_0 : List IT := [(.aload_n 0, 1, oN 0 0 0, []),
  (.invokespecial 3, 3, oN 0 0 1, [211, 55]),
  (.aload_n 0, 1, oN 0 0 0, []),
  (.sipush 180, 3, oI 180, []),
  (.newarray .int, 2, oN 0 0 0, [128]),
  (.putfield 9, 3, oN 5 0 2, [212]),
  (.aload_n 0, 1, oN 0 0 0, []),
  (.iconst 3, 1, oI 3, []),
  (.newarray .int, 2, oN 0 0 0, [128]),
  (.putfield 15, 3, oN 5 1 2, [215]),
  (.return_, 1, oN 0 0 0, [])]
theorem B_Rows_init_0_ok : okB M_Rows_init 0 B_Rows_init_0 21 = true := by decide +kernel
def B_Rows_carAt_0 : List IT := [(.iload_n 2, 1, oN 2 0 0, []),
  (.ifCond .lt 27, 3, oN 28 0 0, []),
  (.iload_n 2, 1, oN 2 0 0, []),
  (.aload_n 0, 1, oN 0 0 0, []),
  (.getfield 15, 3, oN 5 1 2, [215]),
  (.iload_n 1, 1, oN 1 0 0, []),
  (.iaload, 1, oN 0 0 0, []),
  (.if_icmp .ge 17, 3, oN 28 0 0, []),
  (.aload_n 0, 1, oN 0 0 0, []),
  (.getfield 9, 3, oN 5 0 2, [212]),
  (.iload_n 1, 1, oN 1 0 0, []),
  (.bipush 60, 2, oI 60, []),
  (.imul, 1, oN 0 0 0, []),
  (.iload_n 2, 1, oN 2 0 0, []),
  (.iadd, 1, oN 0 0 0, []),
  (.iaload, 1, oN 0 0 0, []),
  (.goto 4, 3, oN 29 0 0, [])]
theorem B_Rows_carAt_0_ok : okB M_Rows_carAt 0 B_Rows_carAt_0 28 = true := by decide +kernel
def B_Rows_carAt_28 : List IT := [(.iconst (-1), 1, oI (-1), [])]
theorem B_Rows_carAt_28_ok : okB M_Rows_carAt 28 B_Rows_carAt_28 29 = true := by decide +kernel
def B_Rows_carAt_29 : List IT := [(.ireturn, 1, oN 0 0 0, [])]
theorem B_Rows_carAt_29_ok : okB M_Rows_carAt 29 B_Rows_carAt_29 30 = true := by decide +kernel
def B_Rows_copyFrom_0 : List IT := [(.aload_n 1, 1, oN 1 0 0, []),
  (.getfield 9, 3, oN 5 0 2, [212]),
  (.iconst 0, 1, oI 0, []),
  (.aload_n 0, 1, oN 0 0 0, []),
  (.getfield 9, 3, oN 5 0 2, [212]),
  (.iconst 0, 1, oI 0, []),
  (.sipush 180, 3, oI 180, []),
  (.invokestatic 18, 3, oN 0 0 3, [571, 566, 565, 48]),
  (.aload_n 1, 1, oN 1 0 0, []),
  (.getfield 15, 3, oN 5 1 2, [215]),
  (.iconst 0, 1, oI 0, []),
  (.aload_n 0, 1, oN 0 0 0, []),
  (.getfield 15, 3, oN 5 1 2, [215]),
  (.iconst 0, 1, oI 0, []),
  (.iconst 3, 1, oI 3, []),
  (.invokestatic 18, 3, oN 0 0 3, [571, 566, 565, 48]),
  (.return_, 1, oN 0 0 0, [])]
theorem B_Rows_copyFrom_0_ok : okB M_Rows_copyFrom 0 B_Rows_copyFrom_0 31 = true := by decide +kernel
def B_Rows_insert_0 : List IT := [(.iload_n 2, 1, oN 2 0 0, []),
  (.ifCond .lt 24, 3, oN 25 0 0, []),
  (.iload_n 2, 1, oN 2 0 0, []),
  (.aload_n 0, 1, oN 0 0 0, []),
  (.getfield 15, 3, oN 5 1 2, [215]),
  (.iload_n 1, 1, oN 1 0 0, []),
  (.iaload, 1, oN 0 0 0, []),
  (.if_icmp .gt 14, 3, oN 25 0 0, []),
  (.aload_n 0, 1, oN 0 0 0, []),
  (.getfield 15, 3, oN 5 1 2, [215]),
  (.iload_n 1, 1, oN 1 0 0, []),
  (.iaload, 1, oN 0 0 0, []),
  (.bipush 60, 2, oI 60, []),
  (.if_icmp .lt 4, 3, oN 26 0 0, [])]
theorem B_Rows_insert_0_ok : okB M_Rows_insert 0 B_Rows_insert_0 25 = true := by decide +kernel
def B_Rows_insert_25 : List IT := [(.return_, 1, oN 0 0 0, [])]
theorem B_Rows_insert_25_ok : okB M_Rows_insert 25 B_Rows_insert_25 26 = true := by decide +kernel
def B_Rows_insert_26 : List IT := [(.iload_n 1, 1, oN 1 0 0, []),
  (.bipush 60, 2, oI 60, []),
  (.imul, 1, oN 0 0 0, []),
  (.istore 4, 2, oN 4 0 0, []),
  (.aload_n 0, 1, oN 0 0 0, []),
  (.getfield 15, 3, oN 5 1 2, [215]),
  (.iload_n 1, 1, oN 1 0 0, []),
  (.iaload, 1, oN 0 0 0, []),
  (.istore 5, 2, oN 5 0 0, [])]
theorem B_Rows_insert_26_ok : okB M_Rows_insert 26 B_Rows_insert_26 40 = true := by decide +kernel
def B_Rows_insert_40 : List IT := [(.iload 5, 2, oN 5 0 0, []),
  (.iload_n 2, 1, oN 2 0 0, []),
  (.if_icmp .le 31, 3, oN 74 0 0, []),
  (.aload_n 0, 1, oN 0 0 0, []),
  (.getfield 9, 3, oN 5 0 2, [212]),
  (.iload 4, 2, oN 4 0 0, []),
  (.iload 5, 2, oN 5 0 0, []),
  (.iadd, 1, oN 0 0 0, []),
  (.aload_n 0, 1, oN 0 0 0, []),
  (.getfield 9, 3, oN 5 0 2, [212]),
  (.iload 4, 2, oN 4 0 0, []),
  (.iload 5, 2, oN 5 0 0, []),
  (.iadd, 1, oN 0 0 0, []),
  (.iconst 1, 1, oI 1, []),
  (.isub, 1, oN 0 0 0, []),
  (.iaload, 1, oN 0 0 0, []),
  (.iastore, 1, oN 0 0 0, []),
  (.iinc 5 (-1), 3, oJ 5 (-1), []),
  (.goto (-31), 3, oN 40 0 0, [])]
theorem B_Rows_insert_40_ok : okB M_Rows_insert 40 B_Rows_insert_40 74 = true := by decide +kernel
def B_Rows_insert_74 : List IT := [(.aload_n 0, 1, oN 0 0 0, []),
  (.getfield 9, 3, oN 5 0 2, [212]),
  (.iload 4, 2, oN 4 0 0, []),
  (.iload_n 2, 1, oN 2 0 0, []),
  (.iadd, 1, oN 0 0 0, []),
  (.iload_n 3, 1, oN 3 0 0, []),
  (.iastore, 1, oN 0 0 0, []),
  (.aload_n 0, 1, oN 0 0 0, []),
  (.getfield 15, 3, oN 5 1 2, [215]),
  (.iload_n 1, 1, oN 1 0 0, []),
  (.dup2, 1, oN 0 0 0, []),
  (.iaload, 1, oN 0 0 0, []),
  (.iconst 1, 1, oI 1, []),
  (.iadd, 1, oN 0 0 0, []),
  (.iastore, 1, oN 0 0 0, []),
  (.return_, 1, oN 0 0 0, [])]
theorem B_Rows_insert_74_ok : okB M_Rows_insert 74 B_Rows_insert_74 95 = true := by decide +kernel
def B_Rows_remove_0 : List IT := [(.iload_n 2, 1, oN 2 0 0, []),
  (.ifCond .lt 13, 3, oN 14 0 0, []),
  (.iload_n 2, 1, oN 2 0 0, []),
  (.aload_n 0, 1, oN 0 0 0, []),
  (.getfield 15, 3, oN 5 1 2, [215]),
  (.iload_n 1, 1, oN 1 0 0, []),
  (.iaload, 1, oN 0 0 0, []),
  (.if_icmp .lt 4, 3, oN 15 0 0, [])]
theorem B_Rows_remove_0_ok : okB M_Rows_remove 0 B_Rows_remove_0 14 = true := by decide +kernel
def B_Rows_remove_14 : List IT := [(.return_, 1, oN 0 0 0, [])]
theorem B_Rows_remove_14_ok : okB M_Rows_remove 14 B_Rows_remove_14 15 = true := by decide +kernel
def B_Rows_remove_15 : List IT := [(.aload_n 0, 1, oN 0 0 0, []),
  (.getfield 15, 3, oN 5 1 2, [215]),
  (.iload_n 1, 1, oN 1 0 0, []),
  (.dup2, 1, oN 0 0 0, []),
  (.iaload, 1, oN 0 0 0, []),
  (.iconst 1, 1, oI 1, []),
  (.isub, 1, oN 0 0 0, []),
  (.iastore, 1, oN 0 0 0, []),
  (.iload_n 1, 1, oN 1 0 0, []),
  (.bipush 60, 2, oI 60, []),
  (.imul, 1, oN 0 0 0, []),
  (.istore_n 3, 1, oN 3 0 0, []),
  (.iload_n 2, 1, oN 2 0 0, []),
  (.istore 4, 2, oN 4 0 0, [])]
theorem B_Rows_remove_15_ok : okB M_Rows_remove 15 B_Rows_remove_15 33 = true := by decide +kernel
def B_Rows_remove_33 : List IT := [(.iload 4, 2, oN 4 0 0, []),
  (.aload_n 0, 1, oN 0 0 0, []),
  (.getfield 15, 3, oN 5 1 2, [215]),
  (.iload_n 1, 1, oN 1 0 0, []),
  (.iaload, 1, oN 0 0 0, []),
  (.if_icmp .ge 29, 3, oN 70 0 0, []),
  (.aload_n 0, 1, oN 0 0 0, []),
  (.getfield 9, 3, oN 5 0 2, [212]),
  (.iload_n 3, 1, oN 3 0 0, []),
  (.iload 4, 2, oN 4 0 0, []),
  (.iadd, 1, oN 0 0 0, []),
  (.aload_n 0, 1, oN 0 0 0, []),
  (.getfield 9, 3, oN 5 0 2, [212]),
  (.iload_n 3, 1, oN 3 0 0, []),
  (.iload 4, 2, oN 4 0 0, []),
  (.iadd, 1, oN 0 0 0, []),
  (.iconst 1, 1, oI 1, []),
  (.iadd, 1, oN 0 0 0, []),
  (.iaload, 1, oN 0 0 0, []),
  (.iastore, 1, oN 0 0 0, []),
  (.iinc 4 1, 3, oJ 4 1, []),
  (.goto (-34), 3, oN 33 0 0, [])]
theorem B_Rows_remove_33_ok : okB M_Rows_remove 33 B_Rows_remove_33 70 = true := by decide +kernel
def B_Rows_remove_70 : List IT := [(.return_, 1, oN 0 0 0, [])]
theorem B_Rows_remove_70_ok : okB M_Rows_remove 70 B_Rows_remove_70 71 = true := by decide +kernel
end
section
/-! code of State, stretch by stretch (written by program) -/
def B_State_init_0 : List IT := [(.aload_n 0, 1, oN 0 0 0, []),
  (.invokespecial 3, 3, oN 0 0 1, [134, 55]),
  (.aload_n 0, 1, oN 0 0 0, []),
  (.new 9, 3, oN 4 13 0, [135, 136, 45]),
  (.dup, 1, oN 0 0 0, []),
  (.invokespecial 11, 3, oM M_Cars_init 1 0, [45, 9999, 138]),
  (.putfield 12, 3, oN 3 0 2, [223]),
  (.aload_n 0, 1, oN 0 0 0, []),
  (.new 18, 3, oN 5 2 0, [206, 207, 46]),
  (.dup, 1, oN 0 0 0, []),
  (.invokespecial 20, 3, oM M_Rows_init 1 0, [46, 9999, 209]),
  (.putfield 21, 3, oN 3 1 2, [226]),
  (.aload_n 0, 1, oN 0 0 0, []),
  (.iconst 3, 1, oI 3, []),
  (.newarray .int, 2, oN 0 0 0, [128]),
  (.putfield 25, 3, oN 3 2 2, [228]),
  (.aload_n 0, 1, oN 0 0 0, []),
  (.bipush 12, 2, oI 12, []),
  (.newarray .int, 2, oN 0 0 0, [128]),
  (.putfield 29, 3, oN 3 3 2, [229]),
  (.return_, 1, oN 0 0 0, [])]
theorem B_State_init_0_ok : okB M_State_init 0 B_State_init_0 42 = true := by decide +kernel
def B_State_copyFrom_0 : List IT := [(.aload_n 0, 1, oN 0 0 0, []),
  (.getfield 12, 3, oN 3 0 2, [223]),
  (.aload_n 1, 1, oN 1 0 0, []),
  (.getfield 12, 3, oN 3 0 2, [223]),
  (.invokevirtual 48, 3, oM M_Cars_copyFrom 2 4, [45, 560, 561, 562]),
  (.aload_n 0, 1, oN 0 0 0, []),
  (.getfield 21, 3, oN 3 1 2, [226]),
  (.aload_n 1, 1, oN 1 0 0, []),
  (.getfield 21, 3, oN 3 1 2, [226]),
  (.invokevirtual 52, 3, oM M_Rows_copyFrom 2 5, [46, 567, 568, 569]),
  (.aload_n 1, 1, oN 1 0 0, []),
  (.getfield 25, 3, oN 3 2 2, [228]),
  (.iconst 0, 1, oI 0, []),
  (.aload_n 0, 1, oN 0 0 0, []),
  (.getfield 25, 3, oN 3 2 2, [228]),
  (.iconst 0, 1, oI 0, []),
  (.iconst 3, 1, oI 3, []),
  (.invokestatic 55, 3, oN 0 0 3, [572, 566, 565, 48]),
  (.aload_n 1, 1, oN 1 0 0, []),
  (.getfield 29, 3, oN 3 3 2, [229]),
  (.iconst 0, 1, oI 0, []),
  (.aload_n 0, 1, oN 0 0 0, []),
  (.getfield 29, 3, oN 3 3 2, [229]),
  (.iconst 0, 1, oI 0, []),
  (.bipush 12, 2, oI 12, []),
  (.invokestatic 55, 3, oN 0 0 3, [572, 566, 565, 48]),
  (.aload_n 0, 1, oN 0 0 0, []),
  (.aload_n 1, 1, oN 1 0 0, []),
  (.getfield 61, 3, oN 3 4 0, [233]),
  (.putfield 61, 3, oN 3 4 0, [233]),
  (.aload_n 0, 1, oN 0 0 0, []),
  (.aload_n 1, 1, oN 1 0 0, []),
  (.getfield 64, 3, oN 3 5 0, [235]),
  (.putfield 64, 3, oN 3 5 0, [235]),
  (.aload_n 0, 1, oN 0 0 0, []),
  (.aload_n 1, 1, oN 1 0 0, []),
  (.getfield 67, 3, oN 3 6 0, [238]),
  (.putfield 67, 3, oN 3 6 0, [238]),
  (.aload_n 0, 1, oN 0 0 0, []),
  (.aload_n 1, 1, oN 1 0 0, []),
  (.getfield 70, 3, oN 3 7 0, [241]),
  (.putfield 70, 3, oN 3 7 0, [241]),
  (.return_, 1, oN 0 0 0, [])]
theorem B_State_copyFrom_0_ok : okB M_State_copyFrom 0 B_State_copyFrom_0 84 = true := by decide +kernel
def B_State_longestWaiter_0 : List IT := [(.aload_n 0, 1, oN 0 0 0, []),
  (.getfield 25, 3, oN 3 2 2, [228]),
  (.iload_n 1, 1, oN 1 0 0, []),
  (.iaload, 1, oN 0 0 0, []),
  (.istore_n 2, 1, oN 2 0 0, [])]
theorem B_State_longestWaiter_0_ok : okB M_State_longestWaiter 0 B_State_longestWaiter_0 7 = true := by decide +kernel
def B_State_longestWaiter_7 : List IT := [(.iload_n 2, 1, oN 2 0 0, []),
  (.aload_n 0, 1, oN 0 0 0, []),
  (.getfield 12, 3, oN 3 0 2, [223]),
  (.getfield 40, 3, oN 4 12 0, [176]),
  (.if_icmp .ge 21, 3, oN 36 0 0, []),
  (.aload_n 0, 1, oN 0 0 0, []),
  (.getfield 12, 3, oN 3 0 2, [223]),
  (.iload_n 2, 1, oN 2 0 0, []),
  (.iload_n 1, 1, oN 1 0 0, []),
  (.invokevirtual 44, 3, oM M_Cars_waitsFor 3 4, [45, 381, 382, 383]),
  (.ifCond .ne 9, 3, oN 36 0 0, []),
  (.iinc 2 1, 3, oJ 2 1, []),
  (.goto (-26), 3, oN 7 0 0, [])]
theorem B_State_longestWaiter_7_ok : okB M_State_longestWaiter 7 B_State_longestWaiter_7 36 = true := by decide +kernel
def B_State_longestWaiter_36 : List IT := [(.aload_n 0, 1, oN 0 0 0, []),
  (.getfield 25, 3, oN 3 2 2, [228]),
  (.iload_n 1, 1, oN 1 0 0, []),
  (.iload_n 2, 1, oN 2 0 0, []),
  (.iastore, 1, oN 0 0 0, []),
  (.iload_n 2, 1, oN 2 0 0, []),
  (.aload_n 0, 1, oN 0 0 0, []),
  (.getfield 12, 3, oN 3 0 2, [223]),
  (.getfield 40, 3, oN 4 12 0, [176]),
  (.if_icmp .ge 7, 3, oN 58 0 0, []),
  (.iload_n 2, 1, oN 2 0 0, []),
  (.goto 4, 3, oN 59 0 0, [])]
theorem B_State_longestWaiter_36_ok : okB M_State_longestWaiter 36 B_State_longestWaiter_36 58 = true := by decide +kernel
def B_State_longestWaiter_58 : List IT := [(.iconst (-1), 1, oI (-1), [])]
theorem B_State_longestWaiter_58_ok : okB M_State_longestWaiter 58 B_State_longestWaiter_58 59 = true := by decide +kernel
def B_State_longestWaiter_59 : List IT := [(.ireturn, 1, oN 0 0 0, [])]
theorem B_State_longestWaiter_59_ok : okB M_State_longestWaiter 59 B_State_longestWaiter_59 60 = true := by decide +kernel
def B_State_rankFor_0 : List IT := [(.iload_n 1, 1, oN 1 0 0, []),
  (.bipush 60, 2, oI 60, []),
  (.imul, 1, oN 0 0 0, []),
  (.istore_n 3, 1, oN 3 0 0, []),
  (.iconst 0, 1, oI 0, []),
  (.istore 4, 2, oN 4 0 0, [])]
theorem B_State_rankFor_0_ok : okB M_State_rankFor 0 B_State_rankFor_0 8 = true := by decide +kernel
def B_State_rankFor_8 : List IT := [(.iload 4, 2, oN 4 0 0, []),
  (.aload_n 0, 1, oN 0 0 0, []),
  (.getfield 21, 3, oN 3 1 2, [226]),
  (.getfield 32, 3, oN 5 1 2, [217]),
  (.iload_n 1, 1, oN 1 0 0, []),
  (.iaload, 1, oN 0 0 0, []),
  (.if_icmp .ge 33, 3, oN 52 0 0, []),
  (.aload_n 0, 1, oN 0 0 0, []),
  (.getfield 12, 3, oN 3 0 2, [223]),
  (.getfield 35, 3, oN 4 6 2, [159]),
  (.aload_n 0, 1, oN 0 0 0, []),
  (.getfield 21, 3, oN 3 1 2, [226]),
  (.getfield 38, 3, oN 5 0 2, [213]),
  (.iload_n 3, 1, oN 3 0 0, []),
  (.iload 4, 2, oN 4 0 0, []),
  (.iadd, 1, oN 0 0 0, []),
  (.iaload, 1, oN 0 0 0, []),
  (.iaload, 1, oN 0 0 0, []),
  (.iload_n 2, 1, oN 2 0 0, []),
  (.if_icmp .le 9, 3, oN 52 0 0, []),
  (.iinc 4 1, 3, oJ 4 1, []),
  (.goto (-41), 3, oN 8 0 0, [])]
theorem B_State_rankFor_8_ok : okB M_State_rankFor 8 B_State_rankFor_8 52 = true := by decide +kernel
def B_State_rankFor_52 : List IT := [(.iload 4, 2, oN 4 0 0, []),
  (.ireturn, 1, oN 0 0 0, [])]
theorem B_State_rankFor_52_ok : okB M_State_rankFor 52 B_State_rankFor_52 55 = true := by decide +kernel
end
section
/-! code of Things, stretch by stretch (written by program) -/
def B_Things_init_0 : List IT := [(.aload_n 0, 1, oN 0 0 0, []),
  (.invokespecial 3, 3, oN 0 0 1, [75, 55]),
  (.aload_n 0, 1, oN 0 0 0, []),
  (.iconst 4, 1, oI 4, []),
  (.newarray .int, 2, oN 0 0 0, [128]),
  (.putfield 9, 3, oN 2 0 2, [76]),
  (.aload_n 0, 1, oN 0 0 0, []),
  (.iconst 4, 1, oI 4, []),
  (.newarray .int, 2, oN 0 0 0, [128]),
  (.putfield 15, 3, oN 2 1 2, [77]),
  (.aload_n 0, 1, oN 0 0 0, []),
  (.iconst 4, 1, oI 4, []),
  (.newarray .int, 2, oN 0 0 0, [128]),
  (.putfield 18, 3, oN 2 2 2, [78]),
  (.aload_n 0, 1, oN 0 0 0, []),
  (.bipush 6, 2, oI 6, []),
  (.newarray .int, 2, oN 0 0 0, [128]),
  (.putfield 21, 3, oN 2 3 2, [79]),
  (.aload_n 0, 1, oN 0 0 0, []),
  (.bipush 6, 2, oI 6, []),
  (.newarray .int, 2, oN 0 0 0, [128]),
  (.putfield 24, 3, oN 2 4 2, [80]),
  (.aload_n 0, 1, oN 0 0 0, []),
  (.bipush 6, 2, oI 6, []),
  (.newarray .int, 2, oN 0 0 0, [128]),
  (.putfield 27, 3, oN 2 5 2, [81]),
  (.aload_n 0, 1, oN 0 0 0, []),
  (.bipush 6, 2, oI 6, []),
  (.newarray .int, 2, oN 0 0 0, [128]),
  (.putfield 30, 3, oN 2 6 2, [82]),
  (.aload_n 0, 1, oN 0 0 0, []),
  (.iconst 4, 1, oI 4, []),
  (.newarray .int, 2, oN 0 0 0, [128]),
  (.putfield 33, 3, oN 2 7 2, [83]),
  (.aload_n 0, 1, oN 0 0 0, []),
  (.iconst 4, 1, oI 4, []),
  (.newarray .int, 2, oN 0 0 0, [128]),
  (.putfield 36, 3, oN 2 8 2, [85]),
  (.aload_n 0, 1, oN 0 0 0, []),
  (.iconst 4, 1, oI 4, []),
  (.newarray .int, 2, oN 0 0 0, [128]),
  (.putfield 39, 3, oN 2 9 2, [87]),
  (.return_, 1, oN 0 0 0, [])]
theorem B_Things_init_0_ok : okB M_Things_init 0 B_Things_init_0 79 = true := by decide +kernel
def B_Things_addClosed_0 : List IT := [(.aload_n 0, 1, oN 0 0 0, []),
  (.getfield 46, 3, oN 2 11 0, [91]),
  (.bipush 6, 2, oI 6, []),
  (.if_icmp .lt 5, 3, oN 11 0 0, []),
  (.iconst 0, 1, oI 0, []),
  (.ireturn, 1, oN 0 0 0, [])]
theorem B_Things_addClosed_0_ok : okB M_Things_addClosed 0 B_Things_addClosed_0 11 = true := by decide +kernel
def B_Things_addClosed_11 : List IT := [(.aload_n 0, 1, oN 0 0 0, []),
  (.getfield 21, 3, oN 2 3 2, [79]),
  (.aload_n 0, 1, oN 0 0 0, []),
  (.getfield 46, 3, oN 2 11 0, [91]),
  (.iload_n 1, 1, oN 1 0 0, []),
  (.iastore, 1, oN 0 0 0, []),
  (.aload_n 0, 1, oN 0 0 0, []),
  (.getfield 24, 3, oN 2 4 2, [80]),
  (.aload_n 0, 1, oN 0 0 0, []),
  (.getfield 46, 3, oN 2 11 0, [91]),
  (.iload_n 2, 1, oN 2 0 0, []),
  (.iastore, 1, oN 0 0 0, []),
  (.aload_n 0, 1, oN 0 0 0, []),
  (.getfield 27, 3, oN 2 5 2, [81]),
  (.aload_n 0, 1, oN 0 0 0, []),
  (.getfield 46, 3, oN 2 11 0, [91]),
  (.iload_n 3, 1, oN 3 0 0, []),
  (.iastore, 1, oN 0 0 0, []),
  (.aload_n 0, 1, oN 0 0 0, []),
  (.getfield 30, 3, oN 2 6 2, [82]),
  (.aload_n 0, 1, oN 0 0 0, []),
  (.getfield 46, 3, oN 2 11 0, [91]),
  (.iload 4, 2, oN 4 0 0, []),
  (.iastore, 1, oN 0 0 0, []),
  (.aload_n 0, 1, oN 0 0 0, []),
  (.dup, 1, oN 0 0 0, []),
  (.getfield 46, 3, oN 2 11 0, [91]),
  (.iconst 1, 1, oI 1, []),
  (.iadd, 1, oN 0 0 0, []),
  (.putfield 46, 3, oN 2 11 0, [91]),
  (.iconst 1, 1, oI 1, []),
  (.ireturn, 1, oN 0 0 0, [])]
theorem B_Things_addClosed_11_ok : okB M_Things_addClosed 11 B_Things_addClosed_11 64 = true := by decide +kernel
def B_Things_addLight_0 : List IT := [(.aload_n 0, 1, oN 0 0 0, []),
  (.getfield 42, 3, oN 2 10 0, [89]),
  (.iconst 4, 1, oI 4, []),
  (.if_icmp .lt 5, 3, oN 10 0 0, []),
  (.iconst 0, 1, oI 0, []),
  (.ireturn, 1, oN 0 0 0, [])]
theorem B_Things_addLight_0_ok : okB M_Things_addLight 0 B_Things_addLight_0 10 = true := by decide +kernel
def B_Things_addLight_10 : List IT := [(.aload_n 0, 1, oN 0 0 0, []),
  (.getfield 9, 3, oN 2 0 2, [76]),
  (.aload_n 0, 1, oN 0 0 0, []),
  (.getfield 42, 3, oN 2 10 0, [89]),
  (.iload_n 1, 1, oN 1 0 0, []),
  (.iastore, 1, oN 0 0 0, []),
  (.aload_n 0, 1, oN 0 0 0, []),
  (.getfield 15, 3, oN 2 1 2, [77]),
  (.aload_n 0, 1, oN 0 0 0, []),
  (.getfield 42, 3, oN 2 10 0, [89]),
  (.iload_n 2, 1, oN 2 0 0, []),
  (.iastore, 1, oN 0 0 0, []),
  (.aload_n 0, 1, oN 0 0 0, []),
  (.getfield 18, 3, oN 2 2 2, [78]),
  (.aload_n 0, 1, oN 0 0 0, []),
  (.getfield 42, 3, oN 2 10 0, [89]),
  (.iload_n 3, 1, oN 3 0 0, []),
  (.iastore, 1, oN 0 0 0, []),
  (.aload_n 0, 1, oN 0 0 0, []),
  (.dup, 1, oN 0 0 0, []),
  (.getfield 42, 3, oN 2 10 0, [89]),
  (.iconst 1, 1, oI 1, []),
  (.iadd, 1, oN 0 0 0, []),
  (.putfield 42, 3, oN 2 10 0, [89]),
  (.iconst 1, 1, oI 1, []),
  (.ireturn, 1, oN 0 0 0, [])]
theorem B_Things_addLight_10_ok : okB M_Things_addLight 10 B_Things_addLight_10 52 = true := by decide +kernel
def B_Things_addLine_0 : List IT := [(.aload_n 0, 1, oN 0 0 0, []),
  (.getfield 52, 3, oN 2 13 0, [96]),
  (.iconst 4, 1, oI 4, []),
  (.if_icmp .lt 5, 3, oN 10 0 0, []),
  (.iconst (-1), 1, oI (-1), []),
  (.ireturn, 1, oN 0 0 0, [])]
theorem B_Things_addLine_0_ok : okB M_Things_addLine 0 B_Things_addLine_0 10 = true := by decide +kernel
def B_Things_addLine_10 : List IT := [(.aload_n 0, 1, oN 0 0 0, []),
  (.getfield 39, 3, oN 2 9 2, [87]),
  (.aload_n 0, 1, oN 0 0 0, []),
  (.getfield 52, 3, oN 2 13 0, [96]),
  (.iload_n 1, 1, oN 1 0 0, []),
  (.iastore, 1, oN 0 0 0, []),
  (.aload_n 0, 1, oN 0 0 0, []),
  (.dup, 1, oN 0 0 0, []),
  (.getfield 52, 3, oN 2 13 0, [96]),
  (.iconst 1, 1, oI 1, []),
  (.iadd, 1, oN 0 0 0, []),
  (.putfield 52, 3, oN 2 13 0, [96]),
  (.aload_n 0, 1, oN 0 0 0, []),
  (.getfield 52, 3, oN 2 13 0, [96]),
  (.iconst 1, 1, oI 1, []),
  (.isub, 1, oN 0 0 0, []),
  (.ireturn, 1, oN 0 0 0, [])]
theorem B_Things_addLine_10_ok : okB M_Things_addLine 10 B_Things_addLine_10 37 = true := by decide +kernel
def B_Things_addStop_0 : List IT := [(.aload_n 0, 1, oN 0 0 0, []),
  (.getfield 49, 3, oN 2 12 0, [93]),
  (.iconst 4, 1, oI 4, []),
  (.if_icmp .lt 5, 3, oN 10 0 0, []),
  (.iconst 0, 1, oI 0, []),
  (.ireturn, 1, oN 0 0 0, [])]
theorem B_Things_addStop_0_ok : okB M_Things_addStop 0 B_Things_addStop_0 10 = true := by decide +kernel
def B_Things_addStop_10 : List IT := [(.aload_n 0, 1, oN 0 0 0, []),
  (.getfield 33, 3, oN 2 7 2, [83]),
  (.aload_n 0, 1, oN 0 0 0, []),
  (.getfield 49, 3, oN 2 12 0, [93]),
  (.iload_n 1, 1, oN 1 0 0, []),
  (.iastore, 1, oN 0 0 0, []),
  (.aload_n 0, 1, oN 0 0 0, []),
  (.getfield 36, 3, oN 2 8 2, [85]),
  (.aload_n 0, 1, oN 0 0 0, []),
  (.getfield 49, 3, oN 2 12 0, [93]),
  (.iload_n 2, 1, oN 2 0 0, []),
  (.iastore, 1, oN 0 0 0, []),
  (.aload_n 0, 1, oN 0 0 0, []),
  (.dup, 1, oN 0 0 0, []),
  (.getfield 49, 3, oN 2 12 0, [93]),
  (.iconst 1, 1, oI 1, []),
  (.iadd, 1, oN 0 0 0, []),
  (.putfield 49, 3, oN 2 12 0, [93]),
  (.iconst 1, 1, oI 1, []),
  (.ireturn, 1, oN 0 0 0, [])]
theorem B_Things_addStop_10_ok : okB M_Things_addStop 10 B_Things_addStop_10 42 = true := by decide +kernel
def B_Things_isClosed_0 : List IT := [(.aload_n 0, 1, oN 0 0 0, []),
  (.getfield 21, 3, oN 2 3 2, [79]),
  (.iload_n 1, 1, oN 1 0 0, []),
  (.iaload, 1, oN 0 0 0, []),
  (.iload_n 2, 1, oN 2 0 0, []),
  (.if_icmp .ne 27, 3, oN 34 0 0, []),
  (.aload_n 0, 1, oN 0 0 0, []),
  (.getfield 27, 3, oN 2 5 2, [81]),
  (.iload_n 1, 1, oN 1 0 0, []),
  (.iaload, 1, oN 0 0 0, []),
  (.iload_n 3, 1, oN 3 0 0, []),
  (.if_icmp .gt 17, 3, oN 34 0 0, []),
  (.iload_n 3, 1, oN 3 0 0, []),
  (.aload_n 0, 1, oN 0 0 0, []),
  (.getfield 30, 3, oN 2 6 2, [82]),
  (.iload_n 1, 1, oN 1 0 0, []),
  (.iaload, 1, oN 0 0 0, []),
  (.if_icmp .ge 7, 3, oN 34 0 0, []),
  (.iconst 1, 1, oI 1, []),
  (.goto 4, 3, oN 35 0 0, [])]
theorem B_Things_isClosed_0_ok : okB M_Things_isClosed 0 B_Things_isClosed_0 34 = true := by decide +kernel
def B_Things_isClosed_34 : List IT := [(.iconst 0, 1, oI 0, [])]
theorem B_Things_isClosed_34_ok : okB M_Things_isClosed 34 B_Things_isClosed_34 35 = true := by decide +kernel
def B_Things_isClosed_35 : List IT := [(.ireturn, 1, oN 0 0 0, [])]
theorem B_Things_isClosed_35_ok : okB M_Things_isClosed 35 B_Things_isClosed_35 36 = true := by decide +kernel
def B_Things_isRed_0 : List IT := [(.aload_n 0, 1, oN 0 0 0, []),
  (.getfield 18, 3, oN 2 2 2, [78]),
  (.iload_n 1, 1, oN 1 0 0, []),
  (.iaload, 1, oN 0 0 0, []),
  (.istore_n 3, 1, oN 3 0 0, []),
  (.iload_n 3, 1, oN 3 0 0, []),
  (.ifCond .le 19, 3, oN 27 0 0, []),
  (.iload_n 2, 1, oN 2 0 0, []),
  (.iload_n 3, 1, oN 3 0 0, []),
  (.irem, 1, oN 0 0 0, []),
  (.aload_n 0, 1, oN 0 0 0, []),
  (.getfield 15, 3, oN 2 1 2, [77]),
  (.iload_n 1, 1, oN 1 0 0, []),
  (.iaload, 1, oN 0 0 0, []),
  (.if_icmp .ge 7, 3, oN 27 0 0, []),
  (.iconst 1, 1, oI 1, []),
  (.goto 4, 3, oN 28 0 0, [])]
theorem B_Things_isRed_0_ok : okB M_Things_isRed 0 B_Things_isRed_0 27 = true := by decide +kernel
def B_Things_isRed_27 : List IT := [(.iconst 0, 1, oI 0, [])]
theorem B_Things_isRed_27_ok : okB M_Things_isRed 27 B_Things_isRed_27 28 = true := by decide +kernel
def B_Things_isRed_28 : List IT := [(.ireturn, 1, oN 0 0 0, [])]
theorem B_Things_isRed_28_ok : okB M_Things_isRed 28 B_Things_isRed_28 29 = true := by decide +kernel
def B_Things_nearestForAll_0 : List IT := [(.iload 4, 2, oN 4 0 0, []),
  (.istore 5, 2, oN 5 0 0, []),
  (.iconst 0, 1, oI 0, []),
  (.istore 6, 2, oN 6 0 0, [])]
theorem B_Things_nearestForAll_0_ok : okB M_Things_nearestForAll 0 B_Things_nearestForAll_0 7 = true := by decide +kernel
def B_Things_nearestForAll_7 : List IT := [(.iload 6, 2, oN 6 0 0, []),
  (.aload_n 0, 1, oN 0 0 0, []),
  (.getfield 42, 3, oN 2 10 0, [89]),
  (.if_icmp .ge 46, 3, oN 59 0 0, []),
  (.aload_n 0, 1, oN 0 0 0, []),
  (.getfield 9, 3, oN 2 0 2, [76]),
  (.iload 6, 2, oN 6 0 0, []),
  (.iaload, 1, oN 0 0 0, []),
  (.iload_n 2, 1, oN 2 0 0, []),
  (.isub, 1, oN 0 0 0, []),
  (.istore 7, 2, oN 7 0 0, []),
  (.iload 7, 2, oN 7 0 0, []),
  (.ifCond .lt 24, 3, oN 53 0 0, []),
  (.iload 7, 2, oN 7 0 0, []),
  (.iload 5, 2, oN 5 0 0, []),
  (.if_icmp .ge 17, 3, oN 53 0 0, []),
  (.aload_n 0, 1, oN 0 0 0, []),
  (.iload 6, 2, oN 6 0 0, []),
  (.iload_n 3, 1, oN 3 0 0, []),
  (.invokevirtual 55, 3, oM M_Things_isRed 3 2, [43, 419, 421, 5]),
  (.ifCond .eq 7, 3, oN 53 0 0, []),
  (.iload 7, 2, oN 7 0 0, []),
  (.istore 5, 2, oN 5 0 0, [])]
theorem B_Things_nearestForAll_7_ok : okB M_Things_nearestForAll 7 B_Things_nearestForAll_7 53 = true := by decide +kernel
def B_Things_nearestForAll_53 : List IT := [(.iinc 6 1, 3, oJ 6 1, []),
  (.goto (-49), 3, oN 7 0 0, [])]
theorem B_Things_nearestForAll_53_ok : okB M_Things_nearestForAll 53 B_Things_nearestForAll_53 59 = true := by decide +kernel
def B_Things_nearestForAll_59 : List IT := [(.iconst 0, 1, oI 0, []),
  (.istore 6, 2, oN 6 0 0, [])]
theorem B_Things_nearestForAll_59_ok : okB M_Things_nearestForAll 59 B_Things_nearestForAll_59 62 = true := by decide +kernel
def B_Things_nearestForAll_62 : List IT := [(.iload 6, 2, oN 6 0 0, []),
  (.aload_n 0, 1, oN 0 0 0, []),
  (.getfield 46, 3, oN 2 11 0, [91]),
  (.if_icmp .ge 47, 3, oN 115 0 0, []),
  (.aload_n 0, 1, oN 0 0 0, []),
  (.getfield 24, 3, oN 2 4 2, [80]),
  (.iload 6, 2, oN 6 0 0, []),
  (.iaload, 1, oN 0 0 0, []),
  (.iload_n 2, 1, oN 2 0 0, []),
  (.isub, 1, oN 0 0 0, []),
  (.istore 7, 2, oN 7 0 0, []),
  (.iload 7, 2, oN 7 0 0, []),
  (.ifCond .lt 25, 3, oN 109 0 0, []),
  (.iload 7, 2, oN 7 0 0, []),
  (.iload 5, 2, oN 5 0 0, []),
  (.if_icmp .ge 18, 3, oN 109 0 0, []),
  (.aload_n 0, 1, oN 0 0 0, []),
  (.iload 6, 2, oN 6 0 0, []),
  (.iload_n 1, 1, oN 1 0 0, []),
  (.iload_n 3, 1, oN 3 0 0, []),
  (.invokevirtual 59, 3, oM M_Things_isClosed 4 2, [43, 423, 425, 6]),
  (.ifCond .eq 7, 3, oN 109 0 0, []),
  (.iload 7, 2, oN 7 0 0, []),
  (.istore 5, 2, oN 5 0 0, [])]
theorem B_Things_nearestForAll_62_ok : okB M_Things_nearestForAll 62 B_Things_nearestForAll_62 109 = true := by decide +kernel
def B_Things_nearestForAll_109 : List IT := [(.iinc 6 1, 3, oJ 6 1, []),
  (.goto (-50), 3, oN 62 0 0, [])]
theorem B_Things_nearestForAll_109_ok : okB M_Things_nearestForAll 109 B_Things_nearestForAll_109 115 = true := by decide +kernel
def B_Things_nearestForAll_115 : List IT := [(.iload 5, 2, oN 5 0 0, []),
  (.ireturn, 1, oN 0 0 0, [])]
theorem B_Things_nearestForAll_115_ok : okB M_Things_nearestForAll 115 B_Things_nearestForAll_115 118 = true := by decide +kernel
end
section
/-! the rules by which simp walks a stretch -/
section Rules2
variable {x : XT} {g : GT} {y : MI × Nat × Nat × Nat × Nat × Nat × (Option Value → AH → Prop)} {is : List IT} {pe : Nat} {K : KT} {ls : List (Option Value)} {st : List Value} {h : AH} {l : Nat} {ps : List Nat}
theorem q_nil : wp x [] pe K ls st h = K pe ls st h := id rfl
theorem q_iconst {n : Int} {v : Int32} : wp x ((.iconst n, l, oI v, ps) :: is) pe K ls st h = wp x is pe K ls (.int v :: st) h := id rfl
theorem q_bipush {n : Int} {v : Int32} : wp x ((.bipush n, l, oI v, ps) :: is) pe K ls st h = wp x is pe K ls (.int v :: st) h := id rfl
theorem q_sipush {n : Int} {v : Int32} : wp x ((.sipush n, l, oI v, ps) :: is) pe K ls st h = wp x is pe K ls (.int v :: st) h := id rfl
theorem q_ldc {n : Nat} {v : Int32} : wp x ((.ldc n, l, oI v, ps) :: is) pe K ls st h = wp x is pe K ls (.int v :: st) h := id rfl
theorem q_lconst {n : Fin 2} {v : Int64} : wp x ((.lconst n, l, oL v, ps) :: is) pe K ls st h = wp x is pe K ls (.long v :: st) h := id rfl
theorem q_ldc2 {n : Nat} {v : Int64} : wp x ((.ldc2_w n, l, oL v, ps) :: is) pe K ls st h = wp x is pe K ls (.long v :: st) h := id rfl
theorem q_null : wp x ((.aconst_null, l, oN 0 0 0, ps) :: is) pe K ls st h = wp x is pe K ls (.null :: st) h := id rfl
theorem q_iload {n i : Nat} : wp x ((.iload n, l, oN i 0 0, ps) :: is) pe K ls st h = e_i (lgt ls i) (fun v => wp x is pe K ls (.int v :: st) h) := id rfl
theorem q_iload_n {n : Fin 4} {i : Nat} : wp x ((.iload_n n, l, oN i 0 0, ps) :: is) pe K ls st h = e_i (lgt ls i) (fun v => wp x is pe K ls (.int v :: st) h) := id rfl
theorem q_lload {n i : Nat} : wp x ((.lload n, l, oN i 0 0, ps) :: is) pe K ls st h = e_l (lgt ls i) (fun v => wp x is pe K ls (.long v :: st) h) := id rfl
theorem q_lload_n {n : Fin 4} {i : Nat} : wp x ((.lload_n n, l, oN i 0 0, ps) :: is) pe K ls st h = e_l (lgt ls i) (fun v => wp x is pe K ls (.long v :: st) h) := id rfl
theorem q_aload {n i : Nat} : wp x ((.aload n, l, oN i 0 0, ps) :: is) pe K ls st h = e_a (lgt ls i) (fun v => wp x is pe K ls (v :: st) h) := id rfl
theorem q_aload_n {n : Fin 4} {i : Nat} : wp x ((.aload_n n, l, oN i 0 0, ps) :: is) pe K ls st h = e_a (lgt ls i) (fun v => wp x is pe K ls (v :: st) h) := id rfl
theorem q_e_i_int {v : Int32} {f : Int32 → Prop} : e_i (some (.int v)) f = f v := id rfl
theorem q_e_l_long {v : Int64} {f : Int64 → Prop} : e_l (some (.long v)) f = f v := id rfl
theorem q_e_a_ref {v : Nat} {f : Value → Prop} : e_a (some (.ref v)) f = f (.ref v) := id rfl
theorem q_e_a_null {f : Value → Prop} : e_a (some .null) f = f .null := id rfl
theorem q_istore {n i : Nat} {v : Int32} : wp x ((.istore n, l, oN i 0 0, ps) :: is) pe K ls (.int v :: st) h = wp x is pe K (lst (.int v) i ls) st h := id rfl
theorem q_istore_n {n : Fin 4} {i : Nat} {v : Int32} : wp x ((.istore_n n, l, oN i 0 0, ps) :: is) pe K ls (.int v :: st) h = wp x is pe K (lst (.int v) i ls) st h := id rfl
theorem q_lstore {n i : Nat} {v : Int64} : wp x ((.lstore n, l, oN i 0 0, ps) :: is) pe K ls (.long v :: st) h = wp x is pe K (lst2 (.long v) i ls) st h := id rfl
theorem q_lstore_n {n : Fin 4} {i : Nat} {v : Int64} : wp x ((.lstore_n n, l, oN i 0 0, ps) :: is) pe K ls (.long v :: st) h = wp x is pe K (lst2 (.long v) i ls) st h := id rfl
theorem q_astore {n i a : Nat} : wp x ((.astore n, l, oN i 0 0, ps) :: is) pe K ls (.ref a :: st) h = wp x is pe K (lst (.ref a) i ls) st h := id rfl
theorem q_astore_n {n : Fin 4} {i a : Nat} : wp x ((.astore_n n, l, oN i 0 0, ps) :: is) pe K ls (.ref a :: st) h = wp x is pe K (lst (.ref a) i ls) st h := id rfl
theorem q_iinc {n i : Nat} {m : Int} {u : Int32} : wp x ((.iinc n m, l, oJ i u, ps) :: is) pe K ls st h = e_i (lgt ls i) (fun v => wp x is pe K (lst (.int (v + u)) i ls) st h) := id rfl
theorem q_iadd {o : LK} {a b : Int32} : wp x ((.iadd, l, o, ps) :: is) pe K ls (.int b :: .int a :: st) h = wp x is pe K ls (.int (a + b) :: st) h := id rfl
theorem q_isub {o : LK} {a b : Int32} : wp x ((.isub, l, o, ps) :: is) pe K ls (.int b :: .int a :: st) h = wp x is pe K ls (.int (a - b) :: st) h := id rfl
theorem q_imul {o : LK} {a b : Int32} : wp x ((.imul, l, o, ps) :: is) pe K ls (.int b :: .int a :: st) h = wp x is pe K ls (.int (a * b) :: st) h := id rfl
theorem q_iand {o : LK} {a b : Int32} : wp x ((.iand, l, o, ps) :: is) pe K ls (.int b :: .int a :: st) h = wp x is pe K ls (.int (a &&& b) :: st) h := id rfl
theorem q_idiv {o : LK} {a b : Int32} : wp x ((.idiv, l, o, ps) :: is) pe K ls (.int b :: .int a :: st) h = (¬ b = 0 ∧ wp x is pe K ls (.int (a / b) :: st) h) := id rfl
theorem q_irem {o : LK} {a b : Int32} : wp x ((.irem, l, o, ps) :: is) pe K ls (.int b :: .int a :: st) h = (¬ b = 0 ∧ wp x is pe K ls (.int (a - a / b * b) :: st) h) := id rfl
theorem q_ineg {o : LK} {a : Int32} : wp x ((.ineg, l, o, ps) :: is) pe K ls (.int a :: st) h = wp x is pe K ls (.int (-a) :: st) h := id rfl
theorem q_ladd {o : LK} {a b : Int64} : wp x ((.ladd, l, o, ps) :: is) pe K ls (.long b :: .long a :: st) h = wp x is pe K ls (.long (a + b) :: st) h := id rfl
theorem q_lsub {o : LK} {a b : Int64} : wp x ((.lsub, l, o, ps) :: is) pe K ls (.long b :: .long a :: st) h = wp x is pe K ls (.long (a - b) :: st) h := id rfl
theorem q_lmul {o : LK} {a b : Int64} : wp x ((.lmul, l, o, ps) :: is) pe K ls (.long b :: .long a :: st) h = wp x is pe K ls (.long (a * b) :: st) h := id rfl
theorem q_land {o : LK} {a b : Int64} : wp x ((.land, l, o, ps) :: is) pe K ls (.long b :: .long a :: st) h = wp x is pe K ls (.long (a &&& b) :: st) h := id rfl
theorem q_ldiv {o : LK} {a b : Int64} : wp x ((.ldiv, l, o, ps) :: is) pe K ls (.long b :: .long a :: st) h = (¬ b = 0 ∧ wp x is pe K ls (.long (a / b) :: st) h) := id rfl
theorem q_lrem {o : LK} {a b : Int64} : wp x ((.lrem, l, o, ps) :: is) pe K ls (.long b :: .long a :: st) h = (¬ b = 0 ∧ wp x is pe K ls (.long (a - a / b * b) :: st) h) := id rfl
theorem q_i2l {o : LK} {a : Int32} : wp x ((.i2l, l, o, ps) :: is) pe K ls (.int a :: st) h = wp x is pe K ls (.long a.toInt64 :: st) h := id rfl
theorem q_l2i {o : LK} {a : Int64} : wp x ((.l2i, l, o, ps) :: is) pe K ls (.long a :: st) h = wp x is pe K ls (.int a.toInt32 :: st) h := id rfl
theorem q_dup {o : LK} {v : Value} : wp x ((.dup, l, o, ps) :: is) pe K ls (v :: st) h = (v.category = 1 ∧ wp x is pe K ls (v :: v :: st) h) := id rfl
theorem q_pop {o : LK} {v : Value} : wp x ((.pop, l, o, ps) :: is) pe K ls (v :: st) h = (v.category = 1 ∧ wp x is pe K ls st h) := id rfl
theorem q_dup2 {o : LK} {a b : Value} : wp x ((.dup2, l, o, ps) :: is) pe K ls (a :: b :: st) h = (a.category = 1 ∧ b.category = 1 ∧ wp x is pe K ls (a :: b :: a :: b :: st) h) := id rfl
theorem q_dup_x1 {o : LK} {a b : Value} : wp x ((.dup_x1, l, o, ps) :: is) pe K ls (a :: b :: st) h = (a.category = 1 ∧ b.category = 1 ∧ wp x is pe K ls (a :: b :: a :: st) h) := id rfl
theorem q_cat_int {v : Int32} : (Value.int v).category = 1 := id rfl
theorem q_cat_ref {v : Nat} : (Value.ref v).category = 1 := id rfl
theorem q_cat_null : Value.null.category = 1 := id rfl
theorem q_cat_long {v : Int64} : (Value.long v).category = 2 := id rfl
theorem q_goto {off : Int} {t : Nat} : wp x ((.goto off, l, oN t 0 0, ps) :: is) pe K ls st h = K t ls st h := id rfl
theorem q_if_eq {off : Int} {t : Nat} {v : Int32} : wp x ((.ifCond .eq off, l, oN t 0 0, ps) :: is) pe K ls (.int v :: st) h = e_br (v = 0) (K t ls st h) (wp x is pe K ls st h) := id rfl
theorem q_if_ne {off : Int} {t : Nat} {v : Int32} : wp x ((.ifCond .ne off, l, oN t 0 0, ps) :: is) pe K ls (.int v :: st) h = e_br (v = 0) (wp x is pe K ls st h) (K t ls st h) := id rfl
theorem q_if_lt {off : Int} {t : Nat} {v : Int32} : wp x ((.ifCond .lt off, l, oN t 0 0, ps) :: is) pe K ls (.int v :: st) h = e_br (v < 0) (K t ls st h) (wp x is pe K ls st h) := id rfl
theorem q_if_ge {off : Int} {t : Nat} {v : Int32} : wp x ((.ifCond .ge off, l, oN t 0 0, ps) :: is) pe K ls (.int v :: st) h = e_br (v < 0) (wp x is pe K ls st h) (K t ls st h) := id rfl
theorem q_if_gt {off : Int} {t : Nat} {v : Int32} : wp x ((.ifCond .gt off, l, oN t 0 0, ps) :: is) pe K ls (.int v :: st) h = e_br (0 < v) (K t ls st h) (wp x is pe K ls st h) := id rfl
theorem q_if_le {off : Int} {t : Nat} {v : Int32} : wp x ((.ifCond .le off, l, oN t 0 0, ps) :: is) pe K ls (.int v :: st) h = e_br (0 < v) (wp x is pe K ls st h) (K t ls st h) := id rfl
theorem q_icmp_eq {off : Int} {t : Nat} {a b : Int32} : wp x ((.if_icmp .eq off, l, oN t 0 0, ps) :: is) pe K ls (.int b :: .int a :: st) h = e_br (a = b) (K t ls st h) (wp x is pe K ls st h) := id rfl
theorem q_icmp_ne {off : Int} {t : Nat} {a b : Int32} : wp x ((.if_icmp .ne off, l, oN t 0 0, ps) :: is) pe K ls (.int b :: .int a :: st) h = e_br (a = b) (wp x is pe K ls st h) (K t ls st h) := id rfl
theorem q_icmp_lt {off : Int} {t : Nat} {a b : Int32} : wp x ((.if_icmp .lt off, l, oN t 0 0, ps) :: is) pe K ls (.int b :: .int a :: st) h = e_br (a < b) (K t ls st h) (wp x is pe K ls st h) := id rfl
theorem q_icmp_ge {off : Int} {t : Nat} {a b : Int32} : wp x ((.if_icmp .ge off, l, oN t 0 0, ps) :: is) pe K ls (.int b :: .int a :: st) h = e_br (a < b) (wp x is pe K ls st h) (K t ls st h) := id rfl
theorem q_icmp_gt {off : Int} {t : Nat} {a b : Int32} : wp x ((.if_icmp .gt off, l, oN t 0 0, ps) :: is) pe K ls (.int b :: .int a :: st) h = e_br (b < a) (K t ls st h) (wp x is pe K ls st h) := id rfl
theorem q_icmp_le {off : Int} {t : Nat} {a b : Int32} : wp x ((.if_icmp .le off, l, oN t 0 0, ps) :: is) pe K ls (.int b :: .int a :: st) h = e_br (b < a) (wp x is pe K ls st h) (K t ls st h) := id rfl
theorem q_ifnullN {off : Int} {t : Nat} : wp x ((.ifnull off, l, oN t 0 0, ps) :: is) pe K ls (.null :: st) h = K t ls st h := id rfl
theorem q_ifnull {off : Int} {t a : Nat} : wp x ((.ifnull off, l, oN t 0 0, ps) :: is) pe K ls (.ref a :: st) h = wp x is pe K ls st h := id rfl
theorem q_ifnonnullN {off : Int} {t : Nat} : wp x ((.ifnonnull off, l, oN t 0 0, ps) :: is) pe K ls (.null :: st) h = wp x is pe K ls st h := id rfl
theorem q_ifnonnull {off : Int} {t a : Nat} : wp x ((.ifnonnull off, l, oN t 0 0, ps) :: is) pe K ls (.ref a :: st) h = K t ls st h := id rfl
theorem q_table {d lo hi : Int} {offs : Array Int} {t : Nat} {cs : List (Int32 × Nat)} {v : Int32} : wp x ((.tableswitch d lo hi offs, l, oS t cs, ps) :: is) pe K ls (.int v :: st) h = e_sw cs t v (fun t => K t ls st h) := id rfl
theorem q_lookup {d : Int} {qs : Array (Int × Int)} {t : Nat} {cs : List (Int32 × Nat)} {v : Int32} : wp x ((.lookupswitch d qs, l, oS t cs, ps) :: is) pe K ls (.int v :: st) h = e_sw cs t v (fun t => K t ls st h) := id rfl
theorem q_e_sw_nil {v : Int32} {d : Nat} {f : Nat → Prop} : e_sw [] d v f = f d := id rfl
theorem q_e_sw_cons {v k : Int32} {d t : Nat} {r : List (Int32 × Nat)} {f : Nat → Prop} : e_sw ((k, t) :: r) d v f = ((v = k → f t) ∧ (¬ v = k → e_sw r d v f)) := id rfl
variable {n z : Nat} {S : Nat → Nat × Nat} {I : Nat → Nat → Int32} {J : Nat → Nat → Int64} {R : Nat → Nat → Option Nat} {k c j co : Nat}
theorem q_getf {i : Nat} : wp (g, y) ((.getfield i, l, oN c j co, ps) :: is) pe K ls (.ref (gB g + k) :: st) (n, z, S, I, J, R) = (S k = (0, c + 1) ∧ wp (g, y) is pe K ls (cval co (gB g) I J R k j :: st) (n, z, S, I, J, R)) :=
  ex_add (p := fun k => S k = (0, c + 1) ∧ wp (g, y) is pe K ls (cval co (gB g) I J R k j :: st) (n, z, S, I, J, R))
theorem q_putI {i : Nat} {v : Int32} : wp (g, y) ((.putfield i, l, oN c j 0, ps) :: is) pe K ls (.int v :: .ref (gB g + k) :: st) (n, z, S, I, J, R) = (S k = (0, c + 1) ∧ wp (g, y) is pe K ls st (n, z, S, va_up I k (va_up (I k) j v), J, R)) :=
  propext ⟨fun ⟨_, q, e, h⟩ => by
    have e3 : k = q := Nat.add_left_cancel (show gB g + k = gB g + q from e)
    subst e3
    exact h, fun h => ⟨rfl, k, rfl, h⟩⟩
theorem q_putJ {i : Nat} {v : Int64} : wp (g, y) ((.putfield i, l, oN c j 1, ps) :: is) pe K ls (.long v :: .ref (gB g + k) :: st) (n, z, S, I, J, R) = (S k = (0, c + 1) ∧ wp (g, y) is pe K ls st (n, z, S, I, va_up J k (va_up (J k) j v), R)) :=
  propext ⟨fun ⟨_, q, e, h⟩ => by
    have e3 : k = q := Nat.add_left_cancel (show gB g + k = gB g + q from e)
    subst e3
    exact h, fun h => ⟨rfl, k, rfl, h⟩⟩
theorem q_putR {i q : Nat} : wp (g, y) ((.putfield i, l, oN c j 2, ps) :: is) pe K ls (.ref (gB g + q) :: .ref (gB g + k) :: st) (n, z, S, I, J, R) = (S k = (0, c + 1) ∧ wp (g, y) is pe K ls st (n, z, S, I, J, va_up R k (va_up (R k) j (some q)))) :=
  propext ⟨fun ⟨_, k', q', e1, e2, h1, h2⟩ => by
    have e3 : k = k' := Nat.add_left_cancel (show gB g + k = gB g + k' from e1)
    have e4 : q = q' := Nat.add_left_cancel (show gB g + q = gB g + q' from e2)
    subst e3; subst e4
    exact ⟨h1, h2⟩, fun ⟨h1, h2⟩ => ⟨rfl, k, q, rfl, rfl, h1, h2⟩⟩
theorem q_iald {j : Int32} : wp (g, y) ((.iaload, l, oN 0 0 0, ps) :: is) pe K ls (.int j :: .ref (gB g + k) :: st) (n, z, S, I, J, R) = ((S k).1 = 1 ∧ vp_in j (S k).2 ∧ wp (g, y) is pe K ls (.int (I k j.toNatClampNeg) :: st) (n, z, S, I, J, R)) :=
  ex_add (p := fun k => (S k).1 = 1 ∧ vp_in j (S k).2 ∧ wp (g, y) is pe K ls (.int (I k j.toNatClampNeg) :: st) (n, z, S, I, J, R))
theorem q_sld {j : Int32} : wp (g, y) ((.iaload, l, oN 1 0 0, ps) :: is) pe K ls (.int j :: .ref (gS g) :: st) h = (vp_in j (gN g) ∧ wp (g, y) is pe K ls (.int (gX g j.toNatClampNeg) :: st) h) :=
  propext ⟨fun q => q.2, fun q => ⟨rfl, q⟩⟩
theorem q_slen : wp (g, y) ((.arraylength, l, oN 1 0 0, ps) :: is) pe K ls (.ref (gS g) :: st) h = wp (g, y) is pe K ls (.int (nI (gN g)) :: st) h :=
  propext ⟨fun q => q.2, fun q => ⟨rfl, q⟩⟩
theorem q_alen : wp (g, y) ((.arraylength, l, oN 0 0 0, ps) :: is) pe K ls (.ref (gB g + k) :: st) (n, z, S, I, J, R) = (¬ (S k).1 = 0 ∧ wp (g, y) is pe K ls (.int (nI (S k).2) :: st) (n, z, S, I, J, R)) :=
  ex_add (p := fun k => ¬ (S k).1 = 0 ∧ wp (g, y) is pe K ls (.int (nI (S k).2) :: st) (n, z, S, I, J, R))
theorem q_iast {o : LK} {j v : Int32} : wp (g, y) ((.iastore, l, o, ps) :: is) pe K ls (.int v :: .int j :: .ref (gB g + k) :: st) (n, z, S, I, J, R) = ((S k).1 = 1 ∧ vp_in j (S k).2 ∧ wp (g, y) is pe K ls st (n, z, S, va_up I k (va_up (I k) j.toNatClampNeg v), J, R)) :=
  ex_add (p := fun k => (S k).1 = 1 ∧ vp_in j (S k).2 ∧ wp (g, y) is pe K ls st (n, z, S, va_up I k (va_up (I k) j.toNatClampNeg v), J, R))
theorem q_bald {o : LK} {j : Int32} : wp (g, y) ((.baload, l, o, ps) :: is) pe K ls (.int j :: .ref (gB g + k) :: st) (n, z, S, I, J, R) = ((S k).1 = 3 ∧ vp_in j (S k).2 ∧ wp (g, y) is pe K ls (.int (I k j.toNatClampNeg) :: st) (n, z, S, I, J, R)) :=
  ex_add (p := fun k => (S k).1 = 3 ∧ vp_in j (S k).2 ∧ wp (g, y) is pe K ls (.int (I k j.toNatClampNeg) :: st) (n, z, S, I, J, R))
theorem q_bast {o : LK} {j v : Int32} : wp (g, y) ((.bastore, l, o, ps) :: is) pe K ls (.int v :: .int j :: .ref (gB g + k) :: st) (n, z, S, I, J, R) = ((S k).1 = 3 ∧ vp_in j (S k).2 ∧ narrow .boolean (.int v) = .int v ∧ wp (g, y) is pe K ls st (n, z, S, va_up I k (va_up (I k) j.toNatClampNeg v), J, R)) :=
  ex_add (p := fun k => (S k).1 = 3 ∧ vp_in j (S k).2 ∧ narrow .boolean (.int v) = .int v ∧ wp (g, y) is pe K ls st (n, z, S, va_up I k (va_up (I k) j.toNatClampNeg v), J, R))
theorem q_aald {t : Nat} {j : Int32} : wp (g, y) ((.aaload, l, oN t 0 0, ps) :: is) pe K ls (.int j :: .ref (gB g + k) :: st) (n, z, S, I, J, R) = ((S k).1 = t + 1 ∧ vp_in j (S k).2 ∧ wp (g, y) is pe K ls (rv (gB g) (R k j.toNatClampNeg) :: st) (n, z, S, I, J, R)) :=
  ex_add (p := fun k => (S k).1 = t + 1 ∧ vp_in j (S k).2 ∧ wp (g, y) is pe K ls (rv (gB g) (R k j.toNatClampNeg) :: st) (n, z, S, I, J, R))
theorem q_aast {t q : Nat} {j : Int32} : wp (g, y) ((.aastore, l, oN t c 0, ps) :: is) pe K ls (.ref (gB g + q) :: .int j :: .ref (gB g + k) :: st) (n, z, S, I, J, R) = ((S k).1 = t + 1 ∧ S q = (0, c + 1) ∧ vp_in j (S k).2 ∧ wp (g, y) is pe K ls st (n, z, S, I, J, va_up R k (va_up (R k) j.toNatClampNeg (some q)))) :=
  propext ⟨fun ⟨k', q', e1, e2, h1⟩ => by
    have e3 : k = k' := Nat.add_left_cancel (show gB g + k = gB g + k' from e1)
    have e4 : q = q' := Nat.add_left_cancel (show gB g + q = gB g + q' from e2)
    subst e3; subst e4
    exact h1, fun h1 => ⟨k, q, rfl, rfl, h1⟩⟩
variable {mi : MI} {d n0 z0 mc ms : Nat} {Q : Option Value → AH → Prop}
theorem q_newa {t : ArrayType} {v : Int32} : wp (g, mi, d, n0, z0, mc, ms, Q) ((.newarray t, l, oN c 0 0, ps) :: is) pe K ls (.int v :: st) (n, z, S, I, J, R) = (¬ v < 0 ∧ v.toNatClampNeg ≤ 100000 ∧ n + 1 ≤ n0 + mc ∧ z + v.toNatClampNeg ≤ z0 + ms ∧ wp (g, mi, d, n0, z0, mc, ms, Q) is pe K ls (.ref (gB g + n) :: st) (n + 1, z + v.toNatClampNeg, va_up S n (c + 1, v.toNatClampNeg), va_up I n (fun _ => 0), J, R)) := id rfl
theorem q_newq {i t : Nat} {v : Int32} : wp (g, mi, d, n0, z0, mc, ms, Q) ((.anewarray i, l, oN t 0 0, ps) :: is) pe K ls (.int v :: st) (n, z, S, I, J, R) = (¬ v < 0 ∧ v.toNatClampNeg ≤ 100000 ∧ n + 1 ≤ n0 + mc ∧ z + v.toNatClampNeg ≤ z0 + ms ∧ wp (g, mi, d, n0, z0, mc, ms, Q) is pe K ls (.ref (gB g + n) :: st) (n + 1, z + v.toNatClampNeg, va_up S n (t + 1, v.toNatClampNeg), I, J, va_up R n (fun _ => none))) := id rfl
theorem q_new {i N : Nat} : wp (g, mi, d, n0, z0, mc, ms, Q) ((.new i, l, oN c N 0, ps) :: is) pe K ls st (n, z, S, I, J, R) = (n + 1 ≤ n0 + mc ∧ z + N ≤ z0 + ms ∧ wp (g, mi, d, n0, z0, mc, ms, Q) is pe K ls (.ref (gB g + n) :: st) (n + 1, z + N, va_up S n (0, c + 1), va_up I n (fun _ => 0), va_up J n (fun _ => 0), va_up R n (fun _ => none))) := id rfl
theorem q_objInit {i a : Nat} : wp (g, mi, d, n0, z0, mc, ms, Q) ((.invokespecial i, l, oN 0 0 1, ps) :: is) pe K ls (.ref a :: st) h = (1 ≤ d ∧ rs st ≤ 8 ∧ wp (g, mi, d, n0, z0, mc, ms, Q) is pe K ls st h) := id rfl
theorem q_max {i : Nat} {a b : Int32} : wp (g, mi, d, n0, z0, mc, ms, Q) ((.invokestatic i, l, oN 0 0 1, ps) :: is) pe K ls (.int b :: .int a :: st) h = (1 ≤ d ∧ rs st ≤ 8 ∧ wp (g, mi, d, n0, z0, mc, ms, Q) is pe K ls (.int (if a < b then b else a) :: st) h) := id rfl
theorem q_min {i : Nat} {a b : Int32} : wp (g, mi, d, n0, z0, mc, ms, Q) ((.invokestatic i, l, oN 0 0 2, ps) :: is) pe K ls (.int b :: .int a :: st) h = (1 ≤ d ∧ rs st ≤ 8 ∧ wp (g, mi, d, n0, z0, mc, ms, Q) is pe K ls (.int (if b < a then b else a) :: st) h) := id rfl
theorem q_copy {i k0 : Nat} {cnt sp dp : Int32} : wp (g, mi, d, n0, z0, mc, ms, Q) ((.invokestatic i, l, oN 0 0 3, ps) :: is) pe K ls (.int cnt :: .int dp :: .ref (gB g + k) :: .int sp :: .ref (gB g + k0) :: st) (n, z, S, I, J, R) = ((S k).1 = 1 ∧ (S k0).1 = 1 ∧ ¬ sp < 0 ∧ ¬ dp < 0 ∧ ¬ cnt < 0 ∧ sp.toNatClampNeg + cnt.toNatClampNeg ≤ (S k0).2 ∧ dp.toNatClampNeg + cnt.toNatClampNeg ≤ (S k).2 ∧ 1 ≤ d ∧ rs st ≤ 8 ∧
    wp (g, mi, d, n0, z0, mc, ms, Q) is pe K ls st (n, z, S, va_up I k (va_cpy (I k0) (I k) sp.toNatClampNeg dp.toNatClampNeg cnt.toNatClampNeg), J, R)) :=
  propext ⟨fun ⟨k', q', e1, e2, h1⟩ => by
    have e3 : k = k' := Nat.add_left_cancel (show gB g + k = gB g + k' from e1)
    have e4 : k0 = q' := Nat.add_left_cancel (show gB g + k0 = gB g + q' from e2)
    subst e3; subst e4
    exact h1, fun h1 => ⟨k, k0, rfl, rfl, h1⟩⟩
theorem q_callS0 {i : Nat} {m : MI} : wp (g, mi, d, n0, z0, mc, ms, Q) ((.invokestatic i, l, oM m 0 0, ps) :: is) pe K ls (st) h = call g d n0 z0 mc ms m [] st h (fun st' h' => wp (g, mi, d, n0, z0, mc, ms, Q) is pe K ls st' h') := id <| call_of (nA := 0) (st := st) (F := fun ls' st' h' => wp (g, mi, d, n0, z0, mc, ms, Q) is pe K ls' st' h') rfl rfl (by simp)
theorem q_callV0 {i : Nat} {m : MI} : wp (g, mi, d, n0, z0, mc, ms, Q) ((.invokevirtual i, l, oM m 1 c, ps) :: is) pe K ls (.ref (gB g + k) :: st) (n, z, S, I, J, R) = (S k = (0, c + 1) ∧ call g d n0 z0 mc ms m [.ref (gB g + k)] st (n, z, S, I, J, R) (fun st' h' => wp (g, mi, d, n0, z0, mc, ms, Q) is pe K ls st' h')) :=
  congr (congrArg And (ex_add (B := gB g) (k := k) (p := fun k => S k = (0, c + 1)))) (call_of (nA := 1) (st := .ref (gB g + k) :: st) (F := fun ls' st' h' => wp (g, mi, d, n0, z0, mc, ms, Q) is pe K ls' st' h') rfl rfl (by simp))
theorem q_callI0 {i a : Nat} {m : MI} : wp (g, mi, d, n0, z0, mc, ms, Q) ((.invokespecial i, l, oM m 1 0, ps) :: is) pe K ls (.ref a :: st) h = call g d n0 z0 mc ms m [.ref a] st h (fun st' h' => wp (g, mi, d, n0, z0, mc, ms, Q) is pe K ls st' h') := id <| call_of (nA := 1) (st := .ref a :: st) (F := fun ls' st' h' => wp (g, mi, d, n0, z0, mc, ms, Q) is pe K ls' st' h') rfl rfl (by simp)
theorem q_callS1 {i : Nat} {m : MI} {v0 : Value} : wp (g, mi, d, n0, z0, mc, ms, Q) ((.invokestatic i, l, oM m 1 0, ps) :: is) pe K ls (v0 :: st) h = call g d n0 z0 mc ms m [v0] st h (fun st' h' => wp (g, mi, d, n0, z0, mc, ms, Q) is pe K ls st' h') := id <| call_of (nA := 1) (st := v0 :: st) (F := fun ls' st' h' => wp (g, mi, d, n0, z0, mc, ms, Q) is pe K ls' st' h') rfl rfl (by simp)
theorem q_callV1 {i : Nat} {m : MI} {v0 : Value} : wp (g, mi, d, n0, z0, mc, ms, Q) ((.invokevirtual i, l, oM m 2 c, ps) :: is) pe K ls (v0 :: .ref (gB g + k) :: st) (n, z, S, I, J, R) = (S k = (0, c + 1) ∧ call g d n0 z0 mc ms m [.ref (gB g + k), v0] st (n, z, S, I, J, R) (fun st' h' => wp (g, mi, d, n0, z0, mc, ms, Q) is pe K ls st' h')) :=
  congr (congrArg And (ex_add (B := gB g) (k := k) (p := fun k => S k = (0, c + 1)))) (call_of (nA := 2) (st := v0 :: .ref (gB g + k) :: st) (F := fun ls' st' h' => wp (g, mi, d, n0, z0, mc, ms, Q) is pe K ls' st' h') rfl rfl (by simp))
theorem q_callI1 {i a : Nat} {m : MI} {v0 : Value} : wp (g, mi, d, n0, z0, mc, ms, Q) ((.invokespecial i, l, oM m 2 0, ps) :: is) pe K ls (v0 :: .ref a :: st) h = call g d n0 z0 mc ms m [.ref a, v0] st h (fun st' h' => wp (g, mi, d, n0, z0, mc, ms, Q) is pe K ls st' h') := id <| call_of (nA := 2) (st := v0 :: .ref a :: st) (F := fun ls' st' h' => wp (g, mi, d, n0, z0, mc, ms, Q) is pe K ls' st' h') rfl rfl (by simp)
theorem q_callS2 {i : Nat} {m : MI} {v0 v1 : Value} : wp (g, mi, d, n0, z0, mc, ms, Q) ((.invokestatic i, l, oM m 2 0, ps) :: is) pe K ls (v1 :: v0 :: st) h = call g d n0 z0 mc ms m [v0, v1] st h (fun st' h' => wp (g, mi, d, n0, z0, mc, ms, Q) is pe K ls st' h') := id <| call_of (nA := 2) (st := v1 :: v0 :: st) (F := fun ls' st' h' => wp (g, mi, d, n0, z0, mc, ms, Q) is pe K ls' st' h') rfl rfl (by simp)
theorem q_callV2 {i : Nat} {m : MI} {v0 v1 : Value} : wp (g, mi, d, n0, z0, mc, ms, Q) ((.invokevirtual i, l, oM m 3 c, ps) :: is) pe K ls (v1 :: v0 :: .ref (gB g + k) :: st) (n, z, S, I, J, R) = (S k = (0, c + 1) ∧ call g d n0 z0 mc ms m [.ref (gB g + k), v0, v1] st (n, z, S, I, J, R) (fun st' h' => wp (g, mi, d, n0, z0, mc, ms, Q) is pe K ls st' h')) :=
  congr (congrArg And (ex_add (B := gB g) (k := k) (p := fun k => S k = (0, c + 1)))) (call_of (nA := 3) (st := v1 :: v0 :: .ref (gB g + k) :: st) (F := fun ls' st' h' => wp (g, mi, d, n0, z0, mc, ms, Q) is pe K ls' st' h') rfl rfl (by simp))
theorem q_callI2 {i a : Nat} {m : MI} {v0 v1 : Value} : wp (g, mi, d, n0, z0, mc, ms, Q) ((.invokespecial i, l, oM m 3 0, ps) :: is) pe K ls (v1 :: v0 :: .ref a :: st) h = call g d n0 z0 mc ms m [.ref a, v0, v1] st h (fun st' h' => wp (g, mi, d, n0, z0, mc, ms, Q) is pe K ls st' h') := id <| call_of (nA := 3) (st := v1 :: v0 :: .ref a :: st) (F := fun ls' st' h' => wp (g, mi, d, n0, z0, mc, ms, Q) is pe K ls' st' h') rfl rfl (by simp)
theorem q_callS3 {i : Nat} {m : MI} {v0 v1 v2 : Value} : wp (g, mi, d, n0, z0, mc, ms, Q) ((.invokestatic i, l, oM m 3 0, ps) :: is) pe K ls (v2 :: v1 :: v0 :: st) h = call g d n0 z0 mc ms m [v0, v1, v2] st h (fun st' h' => wp (g, mi, d, n0, z0, mc, ms, Q) is pe K ls st' h') := id <| call_of (nA := 3) (st := v2 :: v1 :: v0 :: st) (F := fun ls' st' h' => wp (g, mi, d, n0, z0, mc, ms, Q) is pe K ls' st' h') rfl rfl (by simp)
theorem q_callV3 {i : Nat} {m : MI} {v0 v1 v2 : Value} : wp (g, mi, d, n0, z0, mc, ms, Q) ((.invokevirtual i, l, oM m 4 c, ps) :: is) pe K ls (v2 :: v1 :: v0 :: .ref (gB g + k) :: st) (n, z, S, I, J, R) = (S k = (0, c + 1) ∧ call g d n0 z0 mc ms m [.ref (gB g + k), v0, v1, v2] st (n, z, S, I, J, R) (fun st' h' => wp (g, mi, d, n0, z0, mc, ms, Q) is pe K ls st' h')) :=
  congr (congrArg And (ex_add (B := gB g) (k := k) (p := fun k => S k = (0, c + 1)))) (call_of (nA := 4) (st := v2 :: v1 :: v0 :: .ref (gB g + k) :: st) (F := fun ls' st' h' => wp (g, mi, d, n0, z0, mc, ms, Q) is pe K ls' st' h') rfl rfl (by simp))
theorem q_callI3 {i a : Nat} {m : MI} {v0 v1 v2 : Value} : wp (g, mi, d, n0, z0, mc, ms, Q) ((.invokespecial i, l, oM m 4 0, ps) :: is) pe K ls (v2 :: v1 :: v0 :: .ref a :: st) h = call g d n0 z0 mc ms m [.ref a, v0, v1, v2] st h (fun st' h' => wp (g, mi, d, n0, z0, mc, ms, Q) is pe K ls st' h') := id <| call_of (nA := 4) (st := v2 :: v1 :: v0 :: .ref a :: st) (F := fun ls' st' h' => wp (g, mi, d, n0, z0, mc, ms, Q) is pe K ls' st' h') rfl rfl (by simp)
theorem q_callS4 {i : Nat} {m : MI} {v0 v1 v2 v3 : Value} : wp (g, mi, d, n0, z0, mc, ms, Q) ((.invokestatic i, l, oM m 4 0, ps) :: is) pe K ls (v3 :: v2 :: v1 :: v0 :: st) h = call g d n0 z0 mc ms m [v0, v1, v2, v3] st h (fun st' h' => wp (g, mi, d, n0, z0, mc, ms, Q) is pe K ls st' h') := id <| call_of (nA := 4) (st := v3 :: v2 :: v1 :: v0 :: st) (F := fun ls' st' h' => wp (g, mi, d, n0, z0, mc, ms, Q) is pe K ls' st' h') rfl rfl (by simp)
theorem q_callV4 {i : Nat} {m : MI} {v0 v1 v2 v3 : Value} : wp (g, mi, d, n0, z0, mc, ms, Q) ((.invokevirtual i, l, oM m 5 c, ps) :: is) pe K ls (v3 :: v2 :: v1 :: v0 :: .ref (gB g + k) :: st) (n, z, S, I, J, R) = (S k = (0, c + 1) ∧ call g d n0 z0 mc ms m [.ref (gB g + k), v0, v1, v2, v3] st (n, z, S, I, J, R) (fun st' h' => wp (g, mi, d, n0, z0, mc, ms, Q) is pe K ls st' h')) :=
  congr (congrArg And (ex_add (B := gB g) (k := k) (p := fun k => S k = (0, c + 1)))) (call_of (nA := 5) (st := v3 :: v2 :: v1 :: v0 :: .ref (gB g + k) :: st) (F := fun ls' st' h' => wp (g, mi, d, n0, z0, mc, ms, Q) is pe K ls' st' h') rfl rfl (by simp))
theorem q_callI4 {i a : Nat} {m : MI} {v0 v1 v2 v3 : Value} : wp (g, mi, d, n0, z0, mc, ms, Q) ((.invokespecial i, l, oM m 5 0, ps) :: is) pe K ls (v3 :: v2 :: v1 :: v0 :: .ref a :: st) h = call g d n0 z0 mc ms m [.ref a, v0, v1, v2, v3] st h (fun st' h' => wp (g, mi, d, n0, z0, mc, ms, Q) is pe K ls st' h') := id <| call_of (nA := 5) (st := v3 :: v2 :: v1 :: v0 :: .ref a :: st) (F := fun ls' st' h' => wp (g, mi, d, n0, z0, mc, ms, Q) is pe K ls' st' h') rfl rfl (by simp)
theorem q_callS5 {i : Nat} {m : MI} {v0 v1 v2 v3 v4 : Value} : wp (g, mi, d, n0, z0, mc, ms, Q) ((.invokestatic i, l, oM m 5 0, ps) :: is) pe K ls (v4 :: v3 :: v2 :: v1 :: v0 :: st) h = call g d n0 z0 mc ms m [v0, v1, v2, v3, v4] st h (fun st' h' => wp (g, mi, d, n0, z0, mc, ms, Q) is pe K ls st' h') := id <| call_of (nA := 5) (st := v4 :: v3 :: v2 :: v1 :: v0 :: st) (F := fun ls' st' h' => wp (g, mi, d, n0, z0, mc, ms, Q) is pe K ls' st' h') rfl rfl (by simp)
theorem q_callV5 {i : Nat} {m : MI} {v0 v1 v2 v3 v4 : Value} : wp (g, mi, d, n0, z0, mc, ms, Q) ((.invokevirtual i, l, oM m 6 c, ps) :: is) pe K ls (v4 :: v3 :: v2 :: v1 :: v0 :: .ref (gB g + k) :: st) (n, z, S, I, J, R) = (S k = (0, c + 1) ∧ call g d n0 z0 mc ms m [.ref (gB g + k), v0, v1, v2, v3, v4] st (n, z, S, I, J, R) (fun st' h' => wp (g, mi, d, n0, z0, mc, ms, Q) is pe K ls st' h')) :=
  congr (congrArg And (ex_add (B := gB g) (k := k) (p := fun k => S k = (0, c + 1)))) (call_of (nA := 6) (st := v4 :: v3 :: v2 :: v1 :: v0 :: .ref (gB g + k) :: st) (F := fun ls' st' h' => wp (g, mi, d, n0, z0, mc, ms, Q) is pe K ls' st' h') rfl rfl (by simp))
theorem q_callI5 {i a : Nat} {m : MI} {v0 v1 v2 v3 v4 : Value} : wp (g, mi, d, n0, z0, mc, ms, Q) ((.invokespecial i, l, oM m 6 0, ps) :: is) pe K ls (v4 :: v3 :: v2 :: v1 :: v0 :: .ref a :: st) h = call g d n0 z0 mc ms m [.ref a, v0, v1, v2, v3, v4] st h (fun st' h' => wp (g, mi, d, n0, z0, mc, ms, Q) is pe K ls st' h') := id <| call_of (nA := 6) (st := v4 :: v3 :: v2 :: v1 :: v0 :: .ref a :: st) (F := fun ls' st' h' => wp (g, mi, d, n0, z0, mc, ms, Q) is pe K ls' st' h') rfl rfl (by simp)
theorem q_callS6 {i : Nat} {m : MI} {v0 v1 v2 v3 v4 v5 : Value} : wp (g, mi, d, n0, z0, mc, ms, Q) ((.invokestatic i, l, oM m 6 0, ps) :: is) pe K ls (v5 :: v4 :: v3 :: v2 :: v1 :: v0 :: st) h = call g d n0 z0 mc ms m [v0, v1, v2, v3, v4, v5] st h (fun st' h' => wp (g, mi, d, n0, z0, mc, ms, Q) is pe K ls st' h') := id <| call_of (nA := 6) (st := v5 :: v4 :: v3 :: v2 :: v1 :: v0 :: st) (F := fun ls' st' h' => wp (g, mi, d, n0, z0, mc, ms, Q) is pe K ls' st' h') rfl rfl (by simp)
theorem q_callV6 {i : Nat} {m : MI} {v0 v1 v2 v3 v4 v5 : Value} : wp (g, mi, d, n0, z0, mc, ms, Q) ((.invokevirtual i, l, oM m 7 c, ps) :: is) pe K ls (v5 :: v4 :: v3 :: v2 :: v1 :: v0 :: .ref (gB g + k) :: st) (n, z, S, I, J, R) = (S k = (0, c + 1) ∧ call g d n0 z0 mc ms m [.ref (gB g + k), v0, v1, v2, v3, v4, v5] st (n, z, S, I, J, R) (fun st' h' => wp (g, mi, d, n0, z0, mc, ms, Q) is pe K ls st' h')) :=
  congr (congrArg And (ex_add (B := gB g) (k := k) (p := fun k => S k = (0, c + 1)))) (call_of (nA := 7) (st := v5 :: v4 :: v3 :: v2 :: v1 :: v0 :: .ref (gB g + k) :: st) (F := fun ls' st' h' => wp (g, mi, d, n0, z0, mc, ms, Q) is pe K ls' st' h') rfl rfl (by simp))
theorem q_callI6 {i a : Nat} {m : MI} {v0 v1 v2 v3 v4 v5 : Value} : wp (g, mi, d, n0, z0, mc, ms, Q) ((.invokespecial i, l, oM m 7 0, ps) :: is) pe K ls (v5 :: v4 :: v3 :: v2 :: v1 :: v0 :: .ref a :: st) h = call g d n0 z0 mc ms m [.ref a, v0, v1, v2, v3, v4, v5] st h (fun st' h' => wp (g, mi, d, n0, z0, mc, ms, Q) is pe K ls st' h') := id <| call_of (nA := 7) (st := v5 :: v4 :: v3 :: v2 :: v1 :: v0 :: .ref a :: st) (F := fun ls' st' h' => wp (g, mi, d, n0, z0, mc, ms, Q) is pe K ls' st' h') rfl rfl (by simp)
theorem q_callS7 {i : Nat} {m : MI} {v0 v1 v2 v3 v4 v5 v6 : Value} : wp (g, mi, d, n0, z0, mc, ms, Q) ((.invokestatic i, l, oM m 7 0, ps) :: is) pe K ls (v6 :: v5 :: v4 :: v3 :: v2 :: v1 :: v0 :: st) h = call g d n0 z0 mc ms m [v0, v1, v2, v3, v4, v5, v6] st h (fun st' h' => wp (g, mi, d, n0, z0, mc, ms, Q) is pe K ls st' h') := id <| call_of (nA := 7) (st := v6 :: v5 :: v4 :: v3 :: v2 :: v1 :: v0 :: st) (F := fun ls' st' h' => wp (g, mi, d, n0, z0, mc, ms, Q) is pe K ls' st' h') rfl rfl (by simp)
theorem q_callV7 {i : Nat} {m : MI} {v0 v1 v2 v3 v4 v5 v6 : Value} : wp (g, mi, d, n0, z0, mc, ms, Q) ((.invokevirtual i, l, oM m 8 c, ps) :: is) pe K ls (v6 :: v5 :: v4 :: v3 :: v2 :: v1 :: v0 :: .ref (gB g + k) :: st) (n, z, S, I, J, R) = (S k = (0, c + 1) ∧ call g d n0 z0 mc ms m [.ref (gB g + k), v0, v1, v2, v3, v4, v5, v6] st (n, z, S, I, J, R) (fun st' h' => wp (g, mi, d, n0, z0, mc, ms, Q) is pe K ls st' h')) :=
  congr (congrArg And (ex_add (B := gB g) (k := k) (p := fun k => S k = (0, c + 1)))) (call_of (nA := 8) (st := v6 :: v5 :: v4 :: v3 :: v2 :: v1 :: v0 :: .ref (gB g + k) :: st) (F := fun ls' st' h' => wp (g, mi, d, n0, z0, mc, ms, Q) is pe K ls' st' h') rfl rfl (by simp))
theorem q_callI7 {i a : Nat} {m : MI} {v0 v1 v2 v3 v4 v5 v6 : Value} : wp (g, mi, d, n0, z0, mc, ms, Q) ((.invokespecial i, l, oM m 8 0, ps) :: is) pe K ls (v6 :: v5 :: v4 :: v3 :: v2 :: v1 :: v0 :: .ref a :: st) h = call g d n0 z0 mc ms m [.ref a, v0, v1, v2, v3, v4, v5, v6] st h (fun st' h' => wp (g, mi, d, n0, z0, mc, ms, Q) is pe K ls st' h') := id <| call_of (nA := 8) (st := v6 :: v5 :: v4 :: v3 :: v2 :: v1 :: v0 :: .ref a :: st) (F := fun ls' st' h' => wp (g, mi, d, n0, z0, mc, ms, Q) is pe K ls' st' h') rfl rfl (by simp)
theorem q_callS8 {i : Nat} {m : MI} {v0 v1 v2 v3 v4 v5 v6 v7 : Value} : wp (g, mi, d, n0, z0, mc, ms, Q) ((.invokestatic i, l, oM m 8 0, ps) :: is) pe K ls (v7 :: v6 :: v5 :: v4 :: v3 :: v2 :: v1 :: v0 :: st) h = call g d n0 z0 mc ms m [v0, v1, v2, v3, v4, v5, v6, v7] st h (fun st' h' => wp (g, mi, d, n0, z0, mc, ms, Q) is pe K ls st' h') := id <| call_of (nA := 8) (st := v7 :: v6 :: v5 :: v4 :: v3 :: v2 :: v1 :: v0 :: st) (F := fun ls' st' h' => wp (g, mi, d, n0, z0, mc, ms, Q) is pe K ls' st' h') rfl rfl (by simp)
theorem q_callV8 {i : Nat} {m : MI} {v0 v1 v2 v3 v4 v5 v6 v7 : Value} : wp (g, mi, d, n0, z0, mc, ms, Q) ((.invokevirtual i, l, oM m 9 c, ps) :: is) pe K ls (v7 :: v6 :: v5 :: v4 :: v3 :: v2 :: v1 :: v0 :: .ref (gB g + k) :: st) (n, z, S, I, J, R) = (S k = (0, c + 1) ∧ call g d n0 z0 mc ms m [.ref (gB g + k), v0, v1, v2, v3, v4, v5, v6, v7] st (n, z, S, I, J, R) (fun st' h' => wp (g, mi, d, n0, z0, mc, ms, Q) is pe K ls st' h')) :=
  congr (congrArg And (ex_add (B := gB g) (k := k) (p := fun k => S k = (0, c + 1)))) (call_of (nA := 9) (st := v7 :: v6 :: v5 :: v4 :: v3 :: v2 :: v1 :: v0 :: .ref (gB g + k) :: st) (F := fun ls' st' h' => wp (g, mi, d, n0, z0, mc, ms, Q) is pe K ls' st' h') rfl rfl (by simp))
theorem q_callI8 {i a : Nat} {m : MI} {v0 v1 v2 v3 v4 v5 v6 v7 : Value} : wp (g, mi, d, n0, z0, mc, ms, Q) ((.invokespecial i, l, oM m 9 0, ps) :: is) pe K ls (v7 :: v6 :: v5 :: v4 :: v3 :: v2 :: v1 :: v0 :: .ref a :: st) h = call g d n0 z0 mc ms m [.ref a, v0, v1, v2, v3, v4, v5, v6, v7] st h (fun st' h' => wp (g, mi, d, n0, z0, mc, ms, Q) is pe K ls st' h') := id <| call_of (nA := 9) (st := v7 :: v6 :: v5 :: v4 :: v3 :: v2 :: v1 :: v0 :: .ref a :: st) (F := fun ls' st' h' => wp (g, mi, d, n0, z0, mc, ms, Q) is pe K ls' st' h') rfl rfl (by simp)
theorem q_iret {o : LK} {v : Int32} {a : MethodName} {b : ByteArray} {m : Nat} {rt : FieldType} : wp (g, (a, b, m, some rt), d, n0, z0, mc, ms, Q) ((.ireturn, l, o, ps) :: is) pe K ls [.int v] (n, z, S, I, J, R) = (narrow rt (.int v) = .int v ∧ n = n0 + mc ∧ z = z0 + ms ∧ Q (some (.int v)) (n, z, S, I, J, R)) := id rfl
theorem q_lret {o : LK} {v : Int64} {a : MethodName} {b : ByteArray} {m : Nat} : wp (g, (a, b, m, some .long), d, n0, z0, mc, ms, Q) ((.lreturn, l, o, ps) :: is) pe K ls [.long v] (n, z, S, I, J, R) = (n = n0 + mc ∧ z = z0 + ms ∧ Q (some (.long v)) (n, z, S, I, J, R)) := propext ⟨fun q => q.2, fun q => ⟨rfl, q⟩⟩
theorem q_vret {o : LK} {a : MethodName} {b : ByteArray} {m : Nat} : wp (g, (a, b, m, none), d, n0, z0, mc, ms, Q) ((.return_, l, o, ps) :: is) pe K ls [] (n, z, S, I, J, R) = (n = n0 + mc ∧ z = z0 + ms ∧ Q none (n, z, S, I, J, R)) := propext ⟨fun q => q.2, fun q => ⟨rfl, q⟩⟩
theorem q_na_int {v : Int32} : (narrow .int (.int v) = .int v) = True := eq_true (id rfl)
end Rules2
theorem q_lgt_z (o : Option Value) (t : List (Option Value)) : lgt (o :: t) 0 = o := id rfl
theorem q_lgt_s (o : Option Value) (t : List (Option Value)) (i : Nat) : lgt (o :: t) (i + 1) = lgt t i := id rfl
theorem q_lst0 (v : Value) (a : Option Value) (t : List (Option Value)) : lst v 0 (a :: t) = some v :: t := id rfl
theorem q_lst1 (v : Value) (a b : Option Value) (t : List (Option Value)) : lst v 1 (a :: b :: t) = lclr a :: some v :: t := id rfl
theorem q_lstS (v : Value) (i : Nat) (a : Option Value) (t : List (Option Value)) : lst v (i + 2) (a :: t) = a :: lst v (i + 1) t := id rfl
theorem q_lst20 (v : Value) (a b : Option Value) (t : List (Option Value)) : lst2 v 0 (a :: b :: t) = some v :: none :: t := id rfl
theorem q_lst21 (v : Value) (a b c : Option Value) (t : List (Option Value)) : lst2 v 1 (a :: b :: c :: t) = lclr a :: some v :: none :: t := id rfl
theorem q_lst2S (v : Value) (i : Nat) (a : Option Value) (t : List (Option Value)) : lst2 v (i + 2) (a :: t) = a :: lst2 v (i + 1) t := id rfl
theorem q_clr_i (v : Int32) : lclr (some (.int v)) = some (.int v) := id rfl
theorem q_clr_r (v : Nat) : lclr (some (.ref v)) = some (.ref v) := id rfl
theorem q_clr_n : lclr (some .null) = some .null := id rfl
theorem q_clr_0 : lclr none = none := id rfl
theorem q_clr_l (v : Int64) : lclr (some (.long v)) = none := id rfl
theorem q_cv_i (B : Nat) (I : Nat → Nat → Int32) (J : Nat → Nat → Int64) (R : Nat → Nat → Option Nat) (k j : Nat) : cval 0 B I J R k j = .int (I k j) := id rfl
theorem q_cv_l (B : Nat) (I : Nat → Nat → Int32) (J : Nat → Nat → Int64) (R : Nat → Nat → Option Nat) (k j : Nat) : cval 1 B I J R k j = .long (J k j) := id rfl
theorem q_cv_r (B : Nat) (I : Nat → Nat → Int32) (J : Nat → Nat → Int64) (R : Nat → Nat → Option Nat) (k j : Nat) : cval 2 B I J R k j = rv B (R k j) := id rfl
theorem q_rv_s (B q : Nat) : rv B (some q) = .ref (B + q) := id rfl
theorem q_rv_n (B : Nat) : rv B none = .null := id rfl
theorem q_toL_s (v : Value) (r : List Value) : (some v).toList ++ r = v :: r := id rfl
theorem q_toL_n (r : List Value) : (none : Option Value).toList ++ r = r := id rfl
end
section
/-! the shape of the heap behind the two constructors: the class's cells 0 .. 32, the reference's 33 .. 46 -/
def ShC (S : Nat → Nat × Nat) (R : Nat → Nat → Option Nat) : Prop := (S 0 = (0, 1) ∧ S 1 = (0, 2) ∧ S 2 = (0, 3) ∧ S 3 = (1, 4) ∧ S 4 = (1, 4) ∧ S 5 = (1, 4) ∧ S 6 = (1, 6) ∧ S 7 = (1, 6) ∧ S 8 = (1, 6) ∧ S 9 = (1, 6) ∧ S 10 = (1, 4) ∧ S 11 = (1, 4) ∧ S 12 = (1, 4) ∧ S 13 = (0, 4) ∧ S 14 = (0, 5) ∧ S 15 = (1, 60) ∧ S 16 = (1, 60) ∧ S 17 = (1, 60) ∧ S 18 = (1, 60) ∧ S 19 = (1, 60) ∧ S 20 = (1, 60) ∧ S 21 = (1, 60) ∧ S 22 = (1, 60) ∧ S 23 = (1, 60) ∧ S 24 = (1, 60) ∧ S 25 = (1, 60) ∧ S 26 = (1, 240) ∧ S 27 = (0, 6) ∧ S 28 = (1, 180) ∧ S 29 = (1, 3) ∧ S 30 = (1, 3) ∧ S 31 = (1, 12) ∧ S 32 = (2, 2)) ∧ R 0 3 = some 1 ∧ R 0 4 = some 2 ∧ R 0 5 = some 13 ∧ R 0 6 = some 32 ∧ R 1 0 = some 2 ∧ R 1 1 = some 13 ∧ R 1 2 = some 14 ∧ R 1 3 = some 27 ∧ R 2 0 = some 3 ∧ R 2 1 = some 4 ∧ R 2 2 = some 5 ∧ R 2 3 = some 6 ∧ R 2 4 = some 7 ∧ R 2 5 = some 8 ∧ R 2 6 = some 9 ∧ R 2 7 = some 10 ∧ R 2 8 = some 11 ∧ R 2 9 = some 12 ∧ R 13 0 = some 14 ∧ R 13 1 = some 27 ∧ R 13 2 = some 30 ∧ R 13 3 = some 31 ∧ R 14 0 = some 15 ∧ R 14 1 = some 16 ∧ R 14 2 = some 17 ∧ R 14 3 = some 18 ∧ R 14 4 = some 19 ∧ R 14 5 = some 20 ∧ R 14 6 = some 21 ∧ R 14 7 = some 22 ∧ R 14 8 = some 23 ∧ R 14 9 = some 24 ∧ R 14 10 = some 25 ∧ R 14 11 = some 26 ∧ R 27 0 = some 28 ∧ R 27 1 = some 29
def ShM (S : Nat → Nat × Nat) (R : Nat → Nat → Option Nat) : Prop := (S 33 = (0, 7) ∧ S 34 = (1, 3900) ∧ S 35 = (3, 2) ∧ S 36 = (1, 4) ∧ S 37 = (1, 4) ∧ S 38 = (1, 4) ∧ S 39 = (1, 6) ∧ S 40 = (1, 6) ∧ S 41 = (1, 6) ∧ S 42 = (1, 6) ∧ S 43 = (1, 4) ∧ S 44 = (1, 4) ∧ S 45 = (1, 4) ∧ S 46 = (1, 60)) ∧ R 33 3 = some 34 ∧ R 33 4 = some 35 ∧ R 33 6 = some 36 ∧ R 33 7 = some 37 ∧ R 33 8 = some 38 ∧ R 33 10 = some 39 ∧ R 33 11 = some 40 ∧ R 33 12 = some 41 ∧ R 33 13 = some 42 ∧ R 33 15 = some 43 ∧ R 33 16 = some 44 ∧ R 33 18 = some 45 ∧ R 33 19 = some 46
theorem cn_go {g : GT} {mi : MI} {d mc ms n z : Nat} {S : Nat → Nat × Nat} {I : Nat → Nat → Int32} {J : Nat → Nat → Int64} {R : Nat → Nat → Option Nat} {as : List Value} {ls : List (Option Value)} {Q : Option Value → AH → Prop} (hco : Cond.code mi.1 mi.2.1 mi.2.2.1 mi.2.2.2 ∈ ktb) (hpl : plainName mi.1.cls = true) (hle : Nat.ble (ent as).length mi.2.2.1 = true) (hls : entN as mi.2.2.1 = ls) (kk : Go (g, mi, d, n, z, mc, ms, Q) 0 ls [] (n, z, S, I, J, R)) : Cn g mi d mc ms as (n, z, S, I, J, R) Q :=
  cn_of hco hpl (Nat.le_of_ble_eq_true hle) (by rw [hls]; exact kk)
end
section
/-! the reference's small methods -/
def bI (p : Prop) [Decidable p] : Int32 := if p then 1 else 0
theorem bI_t {p : Prop} [Decidable p] (h : p) : bI p = 1 := if_pos h
theorem bI_f {p : Prop} [Decidable p] (h : ¬ p) : bI p = 0 := if_neg h
theorem na_b (p : Prop) [Decidable p] : narrow .boolean (.int (bI p)) = .int (bI p) := by
  unfold bI
  split <;> rfl
theorem na_b1 : (narrow .boolean (.int 1) = .int 1) = True := eq_true rfl
theorem na_b0 : (narrow .boolean (.int 0) = .int 0) = True := eq_true rfl
theorem ixc (i p : Nat) : (20 : Int32) + 20 * nI i + nI p = nI (20 + 20 * i + p) := by
  rw [← nI_add, ← nI_add, ← pk_mul]
  rfl
theorem ixc' {i p : Nat} (hi : i < 60) (hp : p < 20) : 20 + 20 * i + p < 3900 := by omega
/-- a loop: from its end back to its begin -/
theorem go_loop {P : Nat → Prop} (N : Nat) (hN : P N) (hs : ∀ k, k < N → P (k + 1) → P k) : P 0 := by
  have h : ∀ m, m ≤ N → P (N - m) := by
    intro m
    induction m with
    | zero => intro _; exact hN
    | succ m ih =>
      intro hm
      have e : N - (m + 1) + 1 = N - m := by omega
      exact hs _ (by omega) (by rw [e]; exact ih (by omega))
  have := h N (Nat.le_refl N)
  rwa [Nat.sub_self] at this
section
variable {g : GT} {n z : Nat} {S : Nat → Nat × Nat} {I : Nat → Nat → Int32} {J : Nat → Nat → Int64} {R : Nat → Nat → Option Nat}
set_option maxRecDepth 100000 in
set_option maxHeartbeats 4000000 in
theorem c_within {v a b : Int32} : Cn g M_M_within 0 0 0 [.int v, .int a, .int b] (n, z, S, I, J, R) (Is (some (.int (bI (a ≤ v ∧ v ≤ b)))) (n, z, S, I, J, R)) := by
  refine cn_go (ls := [some (.int v), some (.int a), some (.int b)]) kc_M_within (by decide) rfl rfl ?_
  refine go_wp B_M_within_0_ok ?_
  simp only [B_M_within_0, ↓q_nil, ↓q_iconst, ↓q_bipush, ↓q_sipush, ↓q_ldc, ↓q_lconst, ↓q_ldc2, ↓q_null, ↓q_iload, ↓q_iload_n, ↓q_lload, ↓q_lload_n, ↓q_aload, ↓q_aload_n, ↓q_istore, ↓q_istore_n, ↓q_lstore, ↓q_lstore_n, ↓q_astore, ↓q_astore_n, ↓q_iinc, ↓q_iadd, ↓q_isub, ↓q_imul, ↓q_iand, ↓q_idiv, ↓q_irem, ↓q_ineg, ↓q_ladd, ↓q_lsub, ↓q_lmul, ↓q_land, ↓q_ldiv, ↓q_lrem, ↓q_i2l, ↓q_l2i, ↓q_dup, ↓q_pop, ↓q_dup2, ↓q_dup_x1, ↓q_goto, ↓q_if_eq, ↓q_if_ne, ↓q_if_lt, ↓q_if_ge, ↓q_if_gt, ↓q_if_le, ↓q_icmp_eq, ↓q_icmp_ne, ↓q_icmp_lt, ↓q_icmp_ge, ↓q_icmp_gt, ↓q_icmp_le, ↓q_ifnullN, ↓q_ifnull, ↓q_ifnonnullN, ↓q_ifnonnull, ↓q_table, ↓q_lookup, ↓q_getf, ↓q_putI, ↓q_putJ, ↓q_putR, ↓q_iald, ↓q_sld, ↓q_slen, ↓q_alen, ↓q_iast, ↓q_bald, ↓q_bast, ↓q_aald, ↓q_aast, ↓q_newa, ↓q_newq, ↓q_new, ↓q_objInit, ↓q_max, ↓q_min, ↓q_copy, ↓q_callS0, ↓q_callV0, ↓q_callI0, ↓q_callS1, ↓q_callV1, ↓q_callI1, ↓q_callS2, ↓q_callV2, ↓q_callI2, ↓q_callS3, ↓q_callV3, ↓q_callI3, ↓q_callS4, ↓q_callV4, ↓q_callI4, ↓q_callS5, ↓q_callV5, ↓q_callI5, ↓q_callS6, ↓q_callV6, ↓q_callI6, ↓q_callS7, ↓q_callV7, ↓q_callI7, ↓q_callS8, ↓q_callV8, ↓q_callI8, ↓q_iret, ↓q_lret, ↓q_vret, q_e_i_int, q_e_l_long, q_e_a_ref, q_e_a_null, q_cat_int, q_cat_ref, q_cat_null, q_cat_long, q_na_int, q_lgt_z, q_lgt_s, q_lst0, q_lst1, q_lstS, q_lst20, q_lst21, q_lst2S, q_clr_i, q_clr_r, q_clr_n, q_clr_0, q_clr_l, q_cv_i, q_cv_l, q_cv_r, q_rv_s, q_rv_n, q_toL_s, q_toL_n, true_and, and_true, Nat.reduceAdd]
  refine ⟨fun h => ?_, fun h => ⟨fun h2 => ?_, fun h2 => ?_⟩⟩
  · refine go_wp B_M_within_14_ok ?_
    simp only [B_M_within_14, ↓q_nil, ↓q_iconst, ↓q_bipush, ↓q_sipush, ↓q_ldc, ↓q_lconst, ↓q_ldc2, ↓q_null, ↓q_iload, ↓q_iload_n, ↓q_lload, ↓q_lload_n, ↓q_aload, ↓q_aload_n, ↓q_istore, ↓q_istore_n, ↓q_lstore, ↓q_lstore_n, ↓q_astore, ↓q_astore_n, ↓q_iinc, ↓q_iadd, ↓q_isub, ↓q_imul, ↓q_iand, ↓q_idiv, ↓q_irem, ↓q_ineg, ↓q_ladd, ↓q_lsub, ↓q_lmul, ↓q_land, ↓q_ldiv, ↓q_lrem, ↓q_i2l, ↓q_l2i, ↓q_dup, ↓q_pop, ↓q_dup2, ↓q_dup_x1, ↓q_goto, ↓q_if_eq, ↓q_if_ne, ↓q_if_lt, ↓q_if_ge, ↓q_if_gt, ↓q_if_le, ↓q_icmp_eq, ↓q_icmp_ne, ↓q_icmp_lt, ↓q_icmp_ge, ↓q_icmp_gt, ↓q_icmp_le, ↓q_ifnullN, ↓q_ifnull, ↓q_ifnonnullN, ↓q_ifnonnull, ↓q_table, ↓q_lookup, ↓q_getf, ↓q_putI, ↓q_putJ, ↓q_putR, ↓q_iald, ↓q_sld, ↓q_slen, ↓q_alen, ↓q_iast, ↓q_bald, ↓q_bast, ↓q_aald, ↓q_aast, ↓q_newa, ↓q_newq, ↓q_new, ↓q_objInit, ↓q_max, ↓q_min, ↓q_copy, ↓q_callS0, ↓q_callV0, ↓q_callI0, ↓q_callS1, ↓q_callV1, ↓q_callI1, ↓q_callS2, ↓q_callV2, ↓q_callI2, ↓q_callS3, ↓q_callV3, ↓q_callI3, ↓q_callS4, ↓q_callV4, ↓q_callI4, ↓q_callS5, ↓q_callV5, ↓q_callI5, ↓q_callS6, ↓q_callV6, ↓q_callI6, ↓q_callS7, ↓q_callV7, ↓q_callI7, ↓q_callS8, ↓q_callV8, ↓q_callI8, ↓q_iret, ↓q_lret, ↓q_vret, q_e_i_int, q_e_l_long, q_e_a_ref, q_e_a_null, q_cat_int, q_cat_ref, q_cat_null, q_cat_long, q_na_int, q_lgt_z, q_lgt_s, q_lst0, q_lst1, q_lstS, q_lst20, q_lst21, q_lst2S, q_clr_i, q_clr_r, q_clr_n, q_clr_0, q_clr_l, q_cv_i, q_cv_l, q_cv_r, q_rv_s, q_rv_n, q_toL_s, q_toL_n, true_and, and_true, Nat.reduceAdd]
    refine go_wp B_M_within_15_ok ?_
    simp only [B_M_within_15, ↓q_nil, ↓q_iconst, ↓q_bipush, ↓q_sipush, ↓q_ldc, ↓q_lconst, ↓q_ldc2, ↓q_null, ↓q_iload, ↓q_iload_n, ↓q_lload, ↓q_lload_n, ↓q_aload, ↓q_aload_n, ↓q_istore, ↓q_istore_n, ↓q_lstore, ↓q_lstore_n, ↓q_astore, ↓q_astore_n, ↓q_iinc, ↓q_iadd, ↓q_isub, ↓q_imul, ↓q_iand, ↓q_idiv, ↓q_irem, ↓q_ineg, ↓q_ladd, ↓q_lsub, ↓q_lmul, ↓q_land, ↓q_ldiv, ↓q_lrem, ↓q_i2l, ↓q_l2i, ↓q_dup, ↓q_pop, ↓q_dup2, ↓q_dup_x1, ↓q_goto, ↓q_if_eq, ↓q_if_ne, ↓q_if_lt, ↓q_if_ge, ↓q_if_gt, ↓q_if_le, ↓q_icmp_eq, ↓q_icmp_ne, ↓q_icmp_lt, ↓q_icmp_ge, ↓q_icmp_gt, ↓q_icmp_le, ↓q_ifnullN, ↓q_ifnull, ↓q_ifnonnullN, ↓q_ifnonnull, ↓q_table, ↓q_lookup, ↓q_getf, ↓q_putI, ↓q_putJ, ↓q_putR, ↓q_iald, ↓q_sld, ↓q_slen, ↓q_alen, ↓q_iast, ↓q_bald, ↓q_bast, ↓q_aald, ↓q_aast, ↓q_newa, ↓q_newq, ↓q_new, ↓q_objInit, ↓q_max, ↓q_min, ↓q_copy, ↓q_callS0, ↓q_callV0, ↓q_callI0, ↓q_callS1, ↓q_callV1, ↓q_callI1, ↓q_callS2, ↓q_callV2, ↓q_callI2, ↓q_callS3, ↓q_callV3, ↓q_callI3, ↓q_callS4, ↓q_callV4, ↓q_callI4, ↓q_callS5, ↓q_callV5, ↓q_callI5, ↓q_callS6, ↓q_callV6, ↓q_callI6, ↓q_callS7, ↓q_callV7, ↓q_callI7, ↓q_callS8, ↓q_callV8, ↓q_callI8, ↓q_iret, ↓q_lret, ↓q_vret, q_e_i_int, q_e_l_long, q_e_a_ref, q_e_a_null, q_cat_int, q_cat_ref, q_cat_null, q_cat_long, q_na_int, q_lgt_z, q_lgt_s, q_lst0, q_lst1, q_lstS, q_lst20, q_lst21, q_lst2S, q_clr_i, q_clr_r, q_clr_n, q_clr_0, q_clr_l, q_cv_i, q_cv_l, q_cv_r, q_rv_s, q_rv_n, q_toL_s, q_toL_n, true_and, and_true, Nat.reduceAdd, na_b0, bI_f (show ¬ (a ≤ v ∧ v ≤ b) from fun q => Int32.not_lt.mpr q.1 h)]
    exact ⟨rfl, rfl, rfl, rfl⟩
  · refine go_wp B_M_within_14_ok ?_
    simp only [B_M_within_14, ↓q_nil, ↓q_iconst, ↓q_bipush, ↓q_sipush, ↓q_ldc, ↓q_lconst, ↓q_ldc2, ↓q_null, ↓q_iload, ↓q_iload_n, ↓q_lload, ↓q_lload_n, ↓q_aload, ↓q_aload_n, ↓q_istore, ↓q_istore_n, ↓q_lstore, ↓q_lstore_n, ↓q_astore, ↓q_astore_n, ↓q_iinc, ↓q_iadd, ↓q_isub, ↓q_imul, ↓q_iand, ↓q_idiv, ↓q_irem, ↓q_ineg, ↓q_ladd, ↓q_lsub, ↓q_lmul, ↓q_land, ↓q_ldiv, ↓q_lrem, ↓q_i2l, ↓q_l2i, ↓q_dup, ↓q_pop, ↓q_dup2, ↓q_dup_x1, ↓q_goto, ↓q_if_eq, ↓q_if_ne, ↓q_if_lt, ↓q_if_ge, ↓q_if_gt, ↓q_if_le, ↓q_icmp_eq, ↓q_icmp_ne, ↓q_icmp_lt, ↓q_icmp_ge, ↓q_icmp_gt, ↓q_icmp_le, ↓q_ifnullN, ↓q_ifnull, ↓q_ifnonnullN, ↓q_ifnonnull, ↓q_table, ↓q_lookup, ↓q_getf, ↓q_putI, ↓q_putJ, ↓q_putR, ↓q_iald, ↓q_sld, ↓q_slen, ↓q_alen, ↓q_iast, ↓q_bald, ↓q_bast, ↓q_aald, ↓q_aast, ↓q_newa, ↓q_newq, ↓q_new, ↓q_objInit, ↓q_max, ↓q_min, ↓q_copy, ↓q_callS0, ↓q_callV0, ↓q_callI0, ↓q_callS1, ↓q_callV1, ↓q_callI1, ↓q_callS2, ↓q_callV2, ↓q_callI2, ↓q_callS3, ↓q_callV3, ↓q_callI3, ↓q_callS4, ↓q_callV4, ↓q_callI4, ↓q_callS5, ↓q_callV5, ↓q_callI5, ↓q_callS6, ↓q_callV6, ↓q_callI6, ↓q_callS7, ↓q_callV7, ↓q_callI7, ↓q_callS8, ↓q_callV8, ↓q_callI8, ↓q_iret, ↓q_lret, ↓q_vret, q_e_i_int, q_e_l_long, q_e_a_ref, q_e_a_null, q_cat_int, q_cat_ref, q_cat_null, q_cat_long, q_na_int, q_lgt_z, q_lgt_s, q_lst0, q_lst1, q_lstS, q_lst20, q_lst21, q_lst2S, q_clr_i, q_clr_r, q_clr_n, q_clr_0, q_clr_l, q_cv_i, q_cv_l, q_cv_r, q_rv_s, q_rv_n, q_toL_s, q_toL_n, true_and, and_true, Nat.reduceAdd]
    refine go_wp B_M_within_15_ok ?_
    simp only [B_M_within_15, ↓q_nil, ↓q_iconst, ↓q_bipush, ↓q_sipush, ↓q_ldc, ↓q_lconst, ↓q_ldc2, ↓q_null, ↓q_iload, ↓q_iload_n, ↓q_lload, ↓q_lload_n, ↓q_aload, ↓q_aload_n, ↓q_istore, ↓q_istore_n, ↓q_lstore, ↓q_lstore_n, ↓q_astore, ↓q_astore_n, ↓q_iinc, ↓q_iadd, ↓q_isub, ↓q_imul, ↓q_iand, ↓q_idiv, ↓q_irem, ↓q_ineg, ↓q_ladd, ↓q_lsub, ↓q_lmul, ↓q_land, ↓q_ldiv, ↓q_lrem, ↓q_i2l, ↓q_l2i, ↓q_dup, ↓q_pop, ↓q_dup2, ↓q_dup_x1, ↓q_goto, ↓q_if_eq, ↓q_if_ne, ↓q_if_lt, ↓q_if_ge, ↓q_if_gt, ↓q_if_le, ↓q_icmp_eq, ↓q_icmp_ne, ↓q_icmp_lt, ↓q_icmp_ge, ↓q_icmp_gt, ↓q_icmp_le, ↓q_ifnullN, ↓q_ifnull, ↓q_ifnonnullN, ↓q_ifnonnull, ↓q_table, ↓q_lookup, ↓q_getf, ↓q_putI, ↓q_putJ, ↓q_putR, ↓q_iald, ↓q_sld, ↓q_slen, ↓q_alen, ↓q_iast, ↓q_bald, ↓q_bast, ↓q_aald, ↓q_aast, ↓q_newa, ↓q_newq, ↓q_new, ↓q_objInit, ↓q_max, ↓q_min, ↓q_copy, ↓q_callS0, ↓q_callV0, ↓q_callI0, ↓q_callS1, ↓q_callV1, ↓q_callI1, ↓q_callS2, ↓q_callV2, ↓q_callI2, ↓q_callS3, ↓q_callV3, ↓q_callI3, ↓q_callS4, ↓q_callV4, ↓q_callI4, ↓q_callS5, ↓q_callV5, ↓q_callI5, ↓q_callS6, ↓q_callV6, ↓q_callI6, ↓q_callS7, ↓q_callV7, ↓q_callI7, ↓q_callS8, ↓q_callV8, ↓q_callI8, ↓q_iret, ↓q_lret, ↓q_vret, q_e_i_int, q_e_l_long, q_e_a_ref, q_e_a_null, q_cat_int, q_cat_ref, q_cat_null, q_cat_long, q_na_int, q_lgt_z, q_lgt_s, q_lst0, q_lst1, q_lstS, q_lst20, q_lst21, q_lst2S, q_clr_i, q_clr_r, q_clr_n, q_clr_0, q_clr_l, q_cv_i, q_cv_l, q_cv_r, q_rv_s, q_rv_n, q_toL_s, q_toL_n, true_and, and_true, Nat.reduceAdd, na_b0, bI_f (show ¬ (a ≤ v ∧ v ≤ b) from fun q => Int32.not_lt.mpr q.2 h2)]
    exact ⟨rfl, rfl, rfl, rfl⟩
  · refine go_wp B_M_within_15_ok ?_
    simp only [B_M_within_15, ↓q_nil, ↓q_iconst, ↓q_bipush, ↓q_sipush, ↓q_ldc, ↓q_lconst, ↓q_ldc2, ↓q_null, ↓q_iload, ↓q_iload_n, ↓q_lload, ↓q_lload_n, ↓q_aload, ↓q_aload_n, ↓q_istore, ↓q_istore_n, ↓q_lstore, ↓q_lstore_n, ↓q_astore, ↓q_astore_n, ↓q_iinc, ↓q_iadd, ↓q_isub, ↓q_imul, ↓q_iand, ↓q_idiv, ↓q_irem, ↓q_ineg, ↓q_ladd, ↓q_lsub, ↓q_lmul, ↓q_land, ↓q_ldiv, ↓q_lrem, ↓q_i2l, ↓q_l2i, ↓q_dup, ↓q_pop, ↓q_dup2, ↓q_dup_x1, ↓q_goto, ↓q_if_eq, ↓q_if_ne, ↓q_if_lt, ↓q_if_ge, ↓q_if_gt, ↓q_if_le, ↓q_icmp_eq, ↓q_icmp_ne, ↓q_icmp_lt, ↓q_icmp_ge, ↓q_icmp_gt, ↓q_icmp_le, ↓q_ifnullN, ↓q_ifnull, ↓q_ifnonnullN, ↓q_ifnonnull, ↓q_table, ↓q_lookup, ↓q_getf, ↓q_putI, ↓q_putJ, ↓q_putR, ↓q_iald, ↓q_sld, ↓q_slen, ↓q_alen, ↓q_iast, ↓q_bald, ↓q_bast, ↓q_aald, ↓q_aast, ↓q_newa, ↓q_newq, ↓q_new, ↓q_objInit, ↓q_max, ↓q_min, ↓q_copy, ↓q_callS0, ↓q_callV0, ↓q_callI0, ↓q_callS1, ↓q_callV1, ↓q_callI1, ↓q_callS2, ↓q_callV2, ↓q_callI2, ↓q_callS3, ↓q_callV3, ↓q_callI3, ↓q_callS4, ↓q_callV4, ↓q_callI4, ↓q_callS5, ↓q_callV5, ↓q_callI5, ↓q_callS6, ↓q_callV6, ↓q_callI6, ↓q_callS7, ↓q_callV7, ↓q_callI7, ↓q_callS8, ↓q_callV8, ↓q_callI8, ↓q_iret, ↓q_lret, ↓q_vret, q_e_i_int, q_e_l_long, q_e_a_ref, q_e_a_null, q_cat_int, q_cat_ref, q_cat_null, q_cat_long, q_na_int, q_lgt_z, q_lgt_s, q_lst0, q_lst1, q_lstS, q_lst20, q_lst21, q_lst2S, q_clr_i, q_clr_r, q_clr_n, q_clr_0, q_clr_l, q_cv_i, q_cv_l, q_cv_r, q_rv_s, q_rv_n, q_toL_s, q_toL_n, true_and, and_true, Nat.reduceAdd, na_b1, bI_t (show a ≤ v ∧ v ≤ b from ⟨Int32.not_lt.mp h, Int32.not_lt.mp h2⟩)]
    exact ⟨rfl, rfl, rfl, rfl⟩
theorem vp_c {i p : Nat} (hi : i < 60) (hp : p < 20) : vp_in (nI (20 + 20 * i + p)) 3900 := vp_in_nI (ixc' hi hp) (by decide)
theorem cl_c {i p : Nat} (hi : i < 60) (hp : p < 20) : (nI (20 + 20 * i + p)).toNatClampNeg = 20 + 20 * i + p := nI_clamp (by omega)
set_option maxRecDepth 100000 in
set_option maxHeartbeats 4000000 in
theorem c_of (hs : ShM S R) {i p : Nat} (hi : i < 60) (hp : p < 20) : Cn g M_M_of 0 0 0 [.ref (gB g + 33), .int (nI i), .int (nI p)] (n, z, S, I, J, R) (Is (some (.int (I 34 (20 + 20 * i + p)))) (n, z, S, I, J, R)) := by
  obtain ⟨⟨s33, s34, s35, s36, s37, s38, s39, s40, s41, s42, s43, s44, s45, s46⟩, r33_3, r33_4, r33_6, r33_7, r33_8, r33_10, r33_11, r33_12, r33_13, r33_15, r33_16, r33_18, r33_19⟩ := hs
  refine cn_go (ls := [some (.ref (gB g + 33)), some (.int (nI i)), some (.int (nI p))]) kc_M_of (by decide) rfl rfl ?_
  refine go_wp B_M_of_0_ok ?_
  simp only [B_M_of_0, ↓q_nil, ↓q_iconst, ↓q_bipush, ↓q_sipush, ↓q_ldc, ↓q_lconst, ↓q_ldc2, ↓q_null, ↓q_iload, ↓q_iload_n, ↓q_lload, ↓q_lload_n, ↓q_aload, ↓q_aload_n, ↓q_istore, ↓q_istore_n, ↓q_lstore, ↓q_lstore_n, ↓q_astore, ↓q_astore_n, ↓q_iinc, ↓q_iadd, ↓q_isub, ↓q_imul, ↓q_iand, ↓q_idiv, ↓q_irem, ↓q_ineg, ↓q_ladd, ↓q_lsub, ↓q_lmul, ↓q_land, ↓q_ldiv, ↓q_lrem, ↓q_i2l, ↓q_l2i, ↓q_dup, ↓q_pop, ↓q_dup2, ↓q_dup_x1, ↓q_goto, ↓q_if_eq, ↓q_if_ne, ↓q_if_lt, ↓q_if_ge, ↓q_if_gt, ↓q_if_le, ↓q_icmp_eq, ↓q_icmp_ne, ↓q_icmp_lt, ↓q_icmp_ge, ↓q_icmp_gt, ↓q_icmp_le, ↓q_ifnullN, ↓q_ifnull, ↓q_ifnonnullN, ↓q_ifnonnull, ↓q_table, ↓q_lookup, ↓q_getf, ↓q_putI, ↓q_putJ, ↓q_putR, ↓q_iald, ↓q_sld, ↓q_slen, ↓q_alen, ↓q_iast, ↓q_bald, ↓q_bast, ↓q_aald, ↓q_aast, ↓q_newa, ↓q_newq, ↓q_new, ↓q_objInit, ↓q_max, ↓q_min, ↓q_copy, ↓q_callS0, ↓q_callV0, ↓q_callI0, ↓q_callS1, ↓q_callV1, ↓q_callI1, ↓q_callS2, ↓q_callV2, ↓q_callI2, ↓q_callS3, ↓q_callV3, ↓q_callI3, ↓q_callS4, ↓q_callV4, ↓q_callI4, ↓q_callS5, ↓q_callV5, ↓q_callI5, ↓q_callS6, ↓q_callV6, ↓q_callI6, ↓q_callS7, ↓q_callV7, ↓q_callI7, ↓q_callS8, ↓q_callV8, ↓q_callI8, ↓q_iret, ↓q_lret, ↓q_vret, q_e_i_int, q_e_l_long, q_e_a_ref, q_e_a_null, q_cat_int, q_cat_ref, q_cat_null, q_cat_long, q_na_int, q_lgt_z, q_lgt_s, q_lst0, q_lst1, q_lstS, q_lst20, q_lst21, q_lst2S, q_clr_i, q_clr_r, q_clr_n, q_clr_0, q_clr_l, q_cv_i, q_cv_l, q_cv_r, q_rv_s, q_rv_n, q_toL_s, q_toL_n, true_and, and_true, Nat.reduceAdd, s33, s34, s35, s36, s37, s38, s39, s40, s41, s42, s43, s44, s45, s46, r33_3, r33_4, r33_6, r33_7, r33_8, r33_10, r33_11, r33_12, r33_13, r33_15, r33_16, r33_18, r33_19, ixc, cl_c hi hp]
  exact ⟨vp_c hi hp, rfl, rfl, rfl, rfl⟩
set_option maxRecDepth 100000 in
set_option maxHeartbeats 4000000 in
theorem c_put (hs : ShM S R) {i p : Nat} {v : Int32} (hi : i < 60) (hp : p < 20) : Cn g M_M_put 0 0 0 [.ref (gB g + 33), .int (nI i), .int (nI p), .int v] (n, z, S, I, J, R) (Is none (n, z, S, va_up I 34 (va_up (I 34) (20 + 20 * i + p) v), J, R)) := by
  obtain ⟨⟨s33, s34, s35, s36, s37, s38, s39, s40, s41, s42, s43, s44, s45, s46⟩, r33_3, r33_4, r33_6, r33_7, r33_8, r33_10, r33_11, r33_12, r33_13, r33_15, r33_16, r33_18, r33_19⟩ := hs
  refine cn_go (ls := [some (.ref (gB g + 33)), some (.int (nI i)), some (.int (nI p)), some (.int v)]) kc_M_put (by decide) rfl rfl ?_
  refine go_wp B_M_put_0_ok ?_
  simp only [B_M_put_0, ↓q_nil, ↓q_iconst, ↓q_bipush, ↓q_sipush, ↓q_ldc, ↓q_lconst, ↓q_ldc2, ↓q_null, ↓q_iload, ↓q_iload_n, ↓q_lload, ↓q_lload_n, ↓q_aload, ↓q_aload_n, ↓q_istore, ↓q_istore_n, ↓q_lstore, ↓q_lstore_n, ↓q_astore, ↓q_astore_n, ↓q_iinc, ↓q_iadd, ↓q_isub, ↓q_imul, ↓q_iand, ↓q_idiv, ↓q_irem, ↓q_ineg, ↓q_ladd, ↓q_lsub, ↓q_lmul, ↓q_land, ↓q_ldiv, ↓q_lrem, ↓q_i2l, ↓q_l2i, ↓q_dup, ↓q_pop, ↓q_dup2, ↓q_dup_x1, ↓q_goto, ↓q_if_eq, ↓q_if_ne, ↓q_if_lt, ↓q_if_ge, ↓q_if_gt, ↓q_if_le, ↓q_icmp_eq, ↓q_icmp_ne, ↓q_icmp_lt, ↓q_icmp_ge, ↓q_icmp_gt, ↓q_icmp_le, ↓q_ifnullN, ↓q_ifnull, ↓q_ifnonnullN, ↓q_ifnonnull, ↓q_table, ↓q_lookup, ↓q_getf, ↓q_putI, ↓q_putJ, ↓q_putR, ↓q_iald, ↓q_sld, ↓q_slen, ↓q_alen, ↓q_iast, ↓q_bald, ↓q_bast, ↓q_aald, ↓q_aast, ↓q_newa, ↓q_newq, ↓q_new, ↓q_objInit, ↓q_max, ↓q_min, ↓q_copy, ↓q_callS0, ↓q_callV0, ↓q_callI0, ↓q_callS1, ↓q_callV1, ↓q_callI1, ↓q_callS2, ↓q_callV2, ↓q_callI2, ↓q_callS3, ↓q_callV3, ↓q_callI3, ↓q_callS4, ↓q_callV4, ↓q_callI4, ↓q_callS5, ↓q_callV5, ↓q_callI5, ↓q_callS6, ↓q_callV6, ↓q_callI6, ↓q_callS7, ↓q_callV7, ↓q_callI7, ↓q_callS8, ↓q_callV8, ↓q_callI8, ↓q_iret, ↓q_lret, ↓q_vret, q_e_i_int, q_e_l_long, q_e_a_ref, q_e_a_null, q_cat_int, q_cat_ref, q_cat_null, q_cat_long, q_na_int, q_lgt_z, q_lgt_s, q_lst0, q_lst1, q_lstS, q_lst20, q_lst21, q_lst2S, q_clr_i, q_clr_r, q_clr_n, q_clr_0, q_clr_l, q_cv_i, q_cv_l, q_cv_r, q_rv_s, q_rv_n, q_toL_s, q_toL_n, true_and, and_true, Nat.reduceAdd, s33, s34, s35, s36, s37, s38, s39, s40, s41, s42, s43, s44, s45, s46, r33_3, r33_4, r33_6, r33_7, r33_8, r33_10, r33_11, r33_12, r33_13, r33_15, r33_16, r33_18, r33_19, ixc, cl_c hi hp]
  exact ⟨vp_c hi hp, rfl, rfl, rfl, rfl⟩
set_option maxRecDepth 100000 in
set_option maxHeartbeats 4000000 in
theorem c_cars (hs : ShM S R) : Cn g M_M_cars 0 0 0 [.ref (gB g + 33)] (n, z, S, I, J, R) (Is (some (.int (I 34 0))) (n, z, S, I, J, R)) := by
  obtain ⟨⟨s33, s34, s35, s36, s37, s38, s39, s40, s41, s42, s43, s44, s45, s46⟩, r33_3, r33_4, r33_6, r33_7, r33_8, r33_10, r33_11, r33_12, r33_13, r33_15, r33_16, r33_18, r33_19⟩ := hs
  refine cn_go (ls := [some (.ref (gB g + 33))]) kc_M_cars (by decide) rfl rfl ?_
  refine go_wp B_M_cars_0_ok ?_
  simp only [B_M_cars_0, ↓q_nil, ↓q_iconst, ↓q_bipush, ↓q_sipush, ↓q_ldc, ↓q_lconst, ↓q_ldc2, ↓q_null, ↓q_iload, ↓q_iload_n, ↓q_lload, ↓q_lload_n, ↓q_aload, ↓q_aload_n, ↓q_istore, ↓q_istore_n, ↓q_lstore, ↓q_lstore_n, ↓q_astore, ↓q_astore_n, ↓q_iinc, ↓q_iadd, ↓q_isub, ↓q_imul, ↓q_iand, ↓q_idiv, ↓q_irem, ↓q_ineg, ↓q_ladd, ↓q_lsub, ↓q_lmul, ↓q_land, ↓q_ldiv, ↓q_lrem, ↓q_i2l, ↓q_l2i, ↓q_dup, ↓q_pop, ↓q_dup2, ↓q_dup_x1, ↓q_goto, ↓q_if_eq, ↓q_if_ne, ↓q_if_lt, ↓q_if_ge, ↓q_if_gt, ↓q_if_le, ↓q_icmp_eq, ↓q_icmp_ne, ↓q_icmp_lt, ↓q_icmp_ge, ↓q_icmp_gt, ↓q_icmp_le, ↓q_ifnullN, ↓q_ifnull, ↓q_ifnonnullN, ↓q_ifnonnull, ↓q_table, ↓q_lookup, ↓q_getf, ↓q_putI, ↓q_putJ, ↓q_putR, ↓q_iald, ↓q_sld, ↓q_slen, ↓q_alen, ↓q_iast, ↓q_bald, ↓q_bast, ↓q_aald, ↓q_aast, ↓q_newa, ↓q_newq, ↓q_new, ↓q_objInit, ↓q_max, ↓q_min, ↓q_copy, ↓q_callS0, ↓q_callV0, ↓q_callI0, ↓q_callS1, ↓q_callV1, ↓q_callI1, ↓q_callS2, ↓q_callV2, ↓q_callI2, ↓q_callS3, ↓q_callV3, ↓q_callI3, ↓q_callS4, ↓q_callV4, ↓q_callI4, ↓q_callS5, ↓q_callV5, ↓q_callI5, ↓q_callS6, ↓q_callV6, ↓q_callI6, ↓q_callS7, ↓q_callV7, ↓q_callI7, ↓q_callS8, ↓q_callV8, ↓q_callI8, ↓q_iret, ↓q_lret, ↓q_vret, q_e_i_int, q_e_l_long, q_e_a_ref, q_e_a_null, q_cat_int, q_cat_ref, q_cat_null, q_cat_long, q_na_int, q_lgt_z, q_lgt_s, q_lst0, q_lst1, q_lstS, q_lst20, q_lst21, q_lst2S, q_clr_i, q_clr_r, q_clr_n, q_clr_0, q_clr_l, q_cv_i, q_cv_l, q_cv_r, q_rv_s, q_rv_n, q_toL_s, q_toL_n, true_and, and_true, Nat.reduceAdd, s33, s34, s35, s36, s37, s38, s39, s40, s41, s42, s43, s44, s45, s46, r33_3, r33_4, r33_6, r33_7, r33_8, r33_10, r33_11, r33_12, r33_13, r33_15, r33_16, r33_18, r33_19]
  exact ⟨vp_in_iff.mpr (by decide), rfl, rfl, rfl, rfl⟩
set_option maxRecDepth 100000 in
set_option maxHeartbeats 4000000 in
theorem c_now (hs : ShM S R) : Cn g M_M_now 0 0 0 [.ref (gB g + 33)] (n, z, S, I, J, R) (Is (some (.int (I 34 1))) (n, z, S, I, J, R)) := by
  obtain ⟨⟨s33, s34, s35, s36, s37, s38, s39, s40, s41, s42, s43, s44, s45, s46⟩, r33_3, r33_4, r33_6, r33_7, r33_8, r33_10, r33_11, r33_12, r33_13, r33_15, r33_16, r33_18, r33_19⟩ := hs
  refine cn_go (ls := [some (.ref (gB g + 33))]) kc_M_now (by decide) rfl rfl ?_
  refine go_wp B_M_now_0_ok ?_
  simp only [B_M_now_0, ↓q_nil, ↓q_iconst, ↓q_bipush, ↓q_sipush, ↓q_ldc, ↓q_lconst, ↓q_ldc2, ↓q_null, ↓q_iload, ↓q_iload_n, ↓q_lload, ↓q_lload_n, ↓q_aload, ↓q_aload_n, ↓q_istore, ↓q_istore_n, ↓q_lstore, ↓q_lstore_n, ↓q_astore, ↓q_astore_n, ↓q_iinc, ↓q_iadd, ↓q_isub, ↓q_imul, ↓q_iand, ↓q_idiv, ↓q_irem, ↓q_ineg, ↓q_ladd, ↓q_lsub, ↓q_lmul, ↓q_land, ↓q_ldiv, ↓q_lrem, ↓q_i2l, ↓q_l2i, ↓q_dup, ↓q_pop, ↓q_dup2, ↓q_dup_x1, ↓q_goto, ↓q_if_eq, ↓q_if_ne, ↓q_if_lt, ↓q_if_ge, ↓q_if_gt, ↓q_if_le, ↓q_icmp_eq, ↓q_icmp_ne, ↓q_icmp_lt, ↓q_icmp_ge, ↓q_icmp_gt, ↓q_icmp_le, ↓q_ifnullN, ↓q_ifnull, ↓q_ifnonnullN, ↓q_ifnonnull, ↓q_table, ↓q_lookup, ↓q_getf, ↓q_putI, ↓q_putJ, ↓q_putR, ↓q_iald, ↓q_sld, ↓q_slen, ↓q_alen, ↓q_iast, ↓q_bald, ↓q_bast, ↓q_aald, ↓q_aast, ↓q_newa, ↓q_newq, ↓q_new, ↓q_objInit, ↓q_max, ↓q_min, ↓q_copy, ↓q_callS0, ↓q_callV0, ↓q_callI0, ↓q_callS1, ↓q_callV1, ↓q_callI1, ↓q_callS2, ↓q_callV2, ↓q_callI2, ↓q_callS3, ↓q_callV3, ↓q_callI3, ↓q_callS4, ↓q_callV4, ↓q_callI4, ↓q_callS5, ↓q_callV5, ↓q_callI5, ↓q_callS6, ↓q_callV6, ↓q_callI6, ↓q_callS7, ↓q_callV7, ↓q_callI7, ↓q_callS8, ↓q_callV8, ↓q_callI8, ↓q_iret, ↓q_lret, ↓q_vret, q_e_i_int, q_e_l_long, q_e_a_ref, q_e_a_null, q_cat_int, q_cat_ref, q_cat_null, q_cat_long, q_na_int, q_lgt_z, q_lgt_s, q_lst0, q_lst1, q_lstS, q_lst20, q_lst21, q_lst2S, q_clr_i, q_clr_r, q_clr_n, q_clr_0, q_clr_l, q_cv_i, q_cv_l, q_cv_r, q_rv_s, q_rv_n, q_toL_s, q_toL_n, true_and, and_true, Nat.reduceAdd, s33, s34, s35, s36, s37, s38, s39, s40, s41, s42, s43, s44, s45, s46, r33_3, r33_4, r33_6, r33_7, r33_8, r33_10, r33_11, r33_12, r33_13, r33_15, r33_16, r33_18, r33_19]
  exact ⟨vp_in_iff.mpr (by decide), rfl, rfl, rfl, rfl⟩
end
end
section
/-! the reference's small methods, second half; a car's part p of the cells c: pt c p i -/
abbrev pt (c : Nat → Int32) (p i : Nat) : Int32 := c (20 + 20 * i + p)
abbrev rr (c : Nat → Int32) (i : Nat) : Int32 := pt c 3 i - pt c 8 i
def lsr (a b : Int32) : Int32 := if a < b then a else b
def alw (g : Int32) : Int32 := if g < 200 then 0 else (g - 200) / 10
section
variable {g : GT} {n z : Nat} {S : Nat → Nat × Nat} {I : Nat → Nat → Int32} {J : Nat → Nat → Int64} {R : Nat → Nat → Option Nat}
set_option maxRecDepth 100000 in set_option maxHeartbeats 4000000 in
theorem c_rear (hs : ShM S R) {i : Nat} (hi : i < 60) : Cn g M_M_rear 1 0 0 [.ref (gB g + 33), .int (nI i)] (n, z, S, I, J, R) (Is (some (.int (rr (I 34) i))) (n, z, S, I, J, R)) := by
  have hs' := hs; obtain ⟨⟨s33, s34, s35, s36, s37, s38, s39, s40, s41, s42, s43, s44, s45, s46⟩, r33_3, r33_4, r33_6, r33_7, r33_8, r33_10, r33_11, r33_12, r33_13, r33_15, r33_16, r33_18, r33_19⟩ := hs'
  refine cn_go (ls := [some (.ref (gB g + 33)), some (.int (nI i))]) kc_M_rear (by decide) rfl rfl ?_
  refine go_wp B_M_rear_0_ok ?_; simp only [B_M_rear_0, ↓q_nil, ↓q_iconst, ↓q_bipush, ↓q_sipush, ↓q_ldc, ↓q_lconst, ↓q_ldc2, ↓q_null, ↓q_iload, ↓q_iload_n, ↓q_lload, ↓q_lload_n, ↓q_aload, ↓q_aload_n, ↓q_istore, ↓q_istore_n, ↓q_lstore, ↓q_lstore_n, ↓q_astore, ↓q_astore_n, ↓q_iinc, ↓q_iadd, ↓q_isub, ↓q_imul, ↓q_iand, ↓q_idiv, ↓q_irem, ↓q_ineg, ↓q_ladd, ↓q_lsub, ↓q_lmul, ↓q_land, ↓q_ldiv, ↓q_lrem, ↓q_i2l, ↓q_l2i, ↓q_dup, ↓q_pop, ↓q_dup2, ↓q_dup_x1, ↓q_goto, ↓q_if_eq, ↓q_if_ne, ↓q_if_lt, ↓q_if_ge, ↓q_if_gt, ↓q_if_le, ↓q_icmp_eq, ↓q_icmp_ne, ↓q_icmp_lt, ↓q_icmp_ge, ↓q_icmp_gt, ↓q_icmp_le, ↓q_ifnullN, ↓q_ifnull, ↓q_ifnonnullN, ↓q_ifnonnull, ↓q_table, ↓q_lookup, ↓q_getf, ↓q_putI, ↓q_putJ, ↓q_putR, ↓q_iald, ↓q_sld, ↓q_slen, ↓q_alen, ↓q_iast, ↓q_bald, ↓q_bast, ↓q_aald, ↓q_aast, ↓q_newa, ↓q_newq, ↓q_new, ↓q_objInit, ↓q_max, ↓q_min, ↓q_copy, ↓q_callS0, ↓q_callV0, ↓q_callI0, ↓q_callS1, ↓q_callV1, ↓q_callI1, ↓q_callS2, ↓q_callV2, ↓q_callI2, ↓q_callS3, ↓q_callV3, ↓q_callI3, ↓q_callS4, ↓q_callV4, ↓q_callI4, ↓q_callS5, ↓q_callV5, ↓q_callI5, ↓q_callS6, ↓q_callV6, ↓q_callI6, ↓q_callS7, ↓q_callV7, ↓q_callI7, ↓q_callS8, ↓q_callV8, ↓q_callI8, ↓q_iret, ↓q_lret, ↓q_vret, q_e_i_int, q_e_l_long, q_e_a_ref, q_e_a_null, q_cat_int, q_cat_ref, q_cat_null, q_cat_long, q_na_int, q_lgt_z, q_lgt_s, q_lst0, q_lst1, q_lstS, q_lst20, q_lst21, q_lst2S, q_clr_i, q_clr_r, q_clr_n, q_clr_0, q_clr_l, q_cv_i, q_cv_l, q_cv_r, q_rv_s, q_rv_n, q_toL_s, q_toL_n, true_and, and_true, Nat.reduceAdd, s33, s34, s35, s36, s37, s38, s39, s40, s41, s42, s43, s44, s45, s46, r33_3, r33_4, r33_6, r33_7, r33_8, r33_10, r33_11, r33_12, r33_13, r33_15, r33_16, r33_18, r33_19]
  refine call_ro (c_of hs (p := 3) hi (by decide)) (by decide) rfl (Nat.le_refl _) (Nat.le_refl _) ?_
  simp only [↓q_nil, ↓q_iconst, ↓q_bipush, ↓q_sipush, ↓q_ldc, ↓q_lconst, ↓q_ldc2, ↓q_null, ↓q_iload, ↓q_iload_n, ↓q_lload, ↓q_lload_n, ↓q_aload, ↓q_aload_n, ↓q_istore, ↓q_istore_n, ↓q_lstore, ↓q_lstore_n, ↓q_astore, ↓q_astore_n, ↓q_iinc, ↓q_iadd, ↓q_isub, ↓q_imul, ↓q_iand, ↓q_idiv, ↓q_irem, ↓q_ineg, ↓q_ladd, ↓q_lsub, ↓q_lmul, ↓q_land, ↓q_ldiv, ↓q_lrem, ↓q_i2l, ↓q_l2i, ↓q_dup, ↓q_pop, ↓q_dup2, ↓q_dup_x1, ↓q_goto, ↓q_if_eq, ↓q_if_ne, ↓q_if_lt, ↓q_if_ge, ↓q_if_gt, ↓q_if_le, ↓q_icmp_eq, ↓q_icmp_ne, ↓q_icmp_lt, ↓q_icmp_ge, ↓q_icmp_gt, ↓q_icmp_le, ↓q_ifnullN, ↓q_ifnull, ↓q_ifnonnullN, ↓q_ifnonnull, ↓q_table, ↓q_lookup, ↓q_getf, ↓q_putI, ↓q_putJ, ↓q_putR, ↓q_iald, ↓q_sld, ↓q_slen, ↓q_alen, ↓q_iast, ↓q_bald, ↓q_bast, ↓q_aald, ↓q_aast, ↓q_newa, ↓q_newq, ↓q_new, ↓q_objInit, ↓q_max, ↓q_min, ↓q_copy, ↓q_callS0, ↓q_callV0, ↓q_callI0, ↓q_callS1, ↓q_callV1, ↓q_callI1, ↓q_callS2, ↓q_callV2, ↓q_callI2, ↓q_callS3, ↓q_callV3, ↓q_callI3, ↓q_callS4, ↓q_callV4, ↓q_callI4, ↓q_callS5, ↓q_callV5, ↓q_callI5, ↓q_callS6, ↓q_callV6, ↓q_callI6, ↓q_callS7, ↓q_callV7, ↓q_callI7, ↓q_callS8, ↓q_callV8, ↓q_callI8, ↓q_iret, ↓q_lret, ↓q_vret, q_e_i_int, q_e_l_long, q_e_a_ref, q_e_a_null, q_cat_int, q_cat_ref, q_cat_null, q_cat_long, q_na_int, q_lgt_z, q_lgt_s, q_lst0, q_lst1, q_lstS, q_lst20, q_lst21, q_lst2S, q_clr_i, q_clr_r, q_clr_n, q_clr_0, q_clr_l, q_cv_i, q_cv_l, q_cv_r, q_rv_s, q_rv_n, q_toL_s, q_toL_n, true_and, and_true, Nat.reduceAdd, s33, s34, s35, s36, s37, s38, s39, s40, s41, s42, s43, s44, s45, s46, r33_3, r33_4, r33_6, r33_7, r33_8, r33_10, r33_11, r33_12, r33_13, r33_15, r33_16, r33_18, r33_19]
  refine call_ro (c_of hs (p := 8) hi (by decide)) (by decide) rfl (Nat.le_refl _) (Nat.le_refl _) ?_
  simp only [↓q_nil, ↓q_iconst, ↓q_bipush, ↓q_sipush, ↓q_ldc, ↓q_lconst, ↓q_ldc2, ↓q_null, ↓q_iload, ↓q_iload_n, ↓q_lload, ↓q_lload_n, ↓q_aload, ↓q_aload_n, ↓q_istore, ↓q_istore_n, ↓q_lstore, ↓q_lstore_n, ↓q_astore, ↓q_astore_n, ↓q_iinc, ↓q_iadd, ↓q_isub, ↓q_imul, ↓q_iand, ↓q_idiv, ↓q_irem, ↓q_ineg, ↓q_ladd, ↓q_lsub, ↓q_lmul, ↓q_land, ↓q_ldiv, ↓q_lrem, ↓q_i2l, ↓q_l2i, ↓q_dup, ↓q_pop, ↓q_dup2, ↓q_dup_x1, ↓q_goto, ↓q_if_eq, ↓q_if_ne, ↓q_if_lt, ↓q_if_ge, ↓q_if_gt, ↓q_if_le, ↓q_icmp_eq, ↓q_icmp_ne, ↓q_icmp_lt, ↓q_icmp_ge, ↓q_icmp_gt, ↓q_icmp_le, ↓q_ifnullN, ↓q_ifnull, ↓q_ifnonnullN, ↓q_ifnonnull, ↓q_table, ↓q_lookup, ↓q_getf, ↓q_putI, ↓q_putJ, ↓q_putR, ↓q_iald, ↓q_sld, ↓q_slen, ↓q_alen, ↓q_iast, ↓q_bald, ↓q_bast, ↓q_aald, ↓q_aast, ↓q_newa, ↓q_newq, ↓q_new, ↓q_objInit, ↓q_max, ↓q_min, ↓q_copy, ↓q_callS0, ↓q_callV0, ↓q_callI0, ↓q_callS1, ↓q_callV1, ↓q_callI1, ↓q_callS2, ↓q_callV2, ↓q_callI2, ↓q_callS3, ↓q_callV3, ↓q_callI3, ↓q_callS4, ↓q_callV4, ↓q_callI4, ↓q_callS5, ↓q_callV5, ↓q_callI5, ↓q_callS6, ↓q_callV6, ↓q_callI6, ↓q_callS7, ↓q_callV7, ↓q_callI7, ↓q_callS8, ↓q_callV8, ↓q_callI8, ↓q_iret, ↓q_lret, ↓q_vret, q_e_i_int, q_e_l_long, q_e_a_ref, q_e_a_null, q_cat_int, q_cat_ref, q_cat_null, q_cat_long, q_na_int, q_lgt_z, q_lgt_s, q_lst0, q_lst1, q_lstS, q_lst20, q_lst21, q_lst2S, q_clr_i, q_clr_r, q_clr_n, q_clr_0, q_clr_l, q_cv_i, q_cv_l, q_cv_r, q_rv_s, q_rv_n, q_toL_s, q_toL_n, true_and, and_true, Nat.reduceAdd, s33, s34, s35, s36, s37, s38, s39, s40, s41, s42, s43, s44, s45, s46, r33_3, r33_4, r33_6, r33_7, r33_8, r33_10, r33_11, r33_12, r33_13, r33_15, r33_16, r33_18, r33_19]
  exact ⟨rfl, rfl, rfl, rfl⟩
set_option maxRecDepth 100000 in set_option maxHeartbeats 4000000 in
theorem c_isOn (hs : ShM S R) {i : Nat} {l : Int32} (hi : i < 60) : Cn g M_M_isOn 1 0 0 [.ref (gB g + 33), .int (nI i), .int l] (n, z, S, I, J, R) (Is (some (.int (bI (pt (I 34) 2 i = 1 ∧ pt (I 34) 1 i = l)))) (n, z, S, I, J, R)) := by
  have hs' := hs; obtain ⟨⟨s33, s34, s35, s36, s37, s38, s39, s40, s41, s42, s43, s44, s45, s46⟩, r33_3, r33_4, r33_6, r33_7, r33_8, r33_10, r33_11, r33_12, r33_13, r33_15, r33_16, r33_18, r33_19⟩ := hs'
  refine cn_go (ls := [some (.ref (gB g + 33)), some (.int (nI i)), some (.int l)]) kc_M_isOn (by decide) rfl rfl ?_
  refine go_wp B_M_isOn_0_ok ?_; simp only [B_M_isOn_0, ↓q_nil, ↓q_iconst, ↓q_bipush, ↓q_sipush, ↓q_ldc, ↓q_lconst, ↓q_ldc2, ↓q_null, ↓q_iload, ↓q_iload_n, ↓q_lload, ↓q_lload_n, ↓q_aload, ↓q_aload_n, ↓q_istore, ↓q_istore_n, ↓q_lstore, ↓q_lstore_n, ↓q_astore, ↓q_astore_n, ↓q_iinc, ↓q_iadd, ↓q_isub, ↓q_imul, ↓q_iand, ↓q_idiv, ↓q_irem, ↓q_ineg, ↓q_ladd, ↓q_lsub, ↓q_lmul, ↓q_land, ↓q_ldiv, ↓q_lrem, ↓q_i2l, ↓q_l2i, ↓q_dup, ↓q_pop, ↓q_dup2, ↓q_dup_x1, ↓q_goto, ↓q_if_eq, ↓q_if_ne, ↓q_if_lt, ↓q_if_ge, ↓q_if_gt, ↓q_if_le, ↓q_icmp_eq, ↓q_icmp_ne, ↓q_icmp_lt, ↓q_icmp_ge, ↓q_icmp_gt, ↓q_icmp_le, ↓q_ifnullN, ↓q_ifnull, ↓q_ifnonnullN, ↓q_ifnonnull, ↓q_table, ↓q_lookup, ↓q_getf, ↓q_putI, ↓q_putJ, ↓q_putR, ↓q_iald, ↓q_sld, ↓q_slen, ↓q_alen, ↓q_iast, ↓q_bald, ↓q_bast, ↓q_aald, ↓q_aast, ↓q_newa, ↓q_newq, ↓q_new, ↓q_objInit, ↓q_max, ↓q_min, ↓q_copy, ↓q_callS0, ↓q_callV0, ↓q_callI0, ↓q_callS1, ↓q_callV1, ↓q_callI1, ↓q_callS2, ↓q_callV2, ↓q_callI2, ↓q_callS3, ↓q_callV3, ↓q_callI3, ↓q_callS4, ↓q_callV4, ↓q_callI4, ↓q_callS5, ↓q_callV5, ↓q_callI5, ↓q_callS6, ↓q_callV6, ↓q_callI6, ↓q_callS7, ↓q_callV7, ↓q_callI7, ↓q_callS8, ↓q_callV8, ↓q_callI8, ↓q_iret, ↓q_lret, ↓q_vret, q_e_i_int, q_e_l_long, q_e_a_ref, q_e_a_null, q_cat_int, q_cat_ref, q_cat_null, q_cat_long, q_na_int, q_lgt_z, q_lgt_s, q_lst0, q_lst1, q_lstS, q_lst20, q_lst21, q_lst2S, q_clr_i, q_clr_r, q_clr_n, q_clr_0, q_clr_l, q_cv_i, q_cv_l, q_cv_r, q_rv_s, q_rv_n, q_toL_s, q_toL_n, true_and, and_true, Nat.reduceAdd, s33, s34, s35, s36, s37, s38, s39, s40, s41, s42, s43, s44, s45, s46, r33_3, r33_4, r33_6, r33_7, r33_8, r33_10, r33_11, r33_12, r33_13, r33_15, r33_16, r33_18, r33_19]
  refine call_ro (c_of hs (p := 2) hi (by decide)) (by decide) rfl (Nat.le_refl _) (Nat.le_refl _) ?_
  simp only [↓q_nil, ↓q_iconst, ↓q_bipush, ↓q_sipush, ↓q_ldc, ↓q_lconst, ↓q_ldc2, ↓q_null, ↓q_iload, ↓q_iload_n, ↓q_lload, ↓q_lload_n, ↓q_aload, ↓q_aload_n, ↓q_istore, ↓q_istore_n, ↓q_lstore, ↓q_lstore_n, ↓q_astore, ↓q_astore_n, ↓q_iinc, ↓q_iadd, ↓q_isub, ↓q_imul, ↓q_iand, ↓q_idiv, ↓q_irem, ↓q_ineg, ↓q_ladd, ↓q_lsub, ↓q_lmul, ↓q_land, ↓q_ldiv, ↓q_lrem, ↓q_i2l, ↓q_l2i, ↓q_dup, ↓q_pop, ↓q_dup2, ↓q_dup_x1, ↓q_goto, ↓q_if_eq, ↓q_if_ne, ↓q_if_lt, ↓q_if_ge, ↓q_if_gt, ↓q_if_le, ↓q_icmp_eq, ↓q_icmp_ne, ↓q_icmp_lt, ↓q_icmp_ge, ↓q_icmp_gt, ↓q_icmp_le, ↓q_ifnullN, ↓q_ifnull, ↓q_ifnonnullN, ↓q_ifnonnull, ↓q_table, ↓q_lookup, ↓q_getf, ↓q_putI, ↓q_putJ, ↓q_putR, ↓q_iald, ↓q_sld, ↓q_slen, ↓q_alen, ↓q_iast, ↓q_bald, ↓q_bast, ↓q_aald, ↓q_aast, ↓q_newa, ↓q_newq, ↓q_new, ↓q_objInit, ↓q_max, ↓q_min, ↓q_copy, ↓q_callS0, ↓q_callV0, ↓q_callI0, ↓q_callS1, ↓q_callV1, ↓q_callI1, ↓q_callS2, ↓q_callV2, ↓q_callI2, ↓q_callS3, ↓q_callV3, ↓q_callI3, ↓q_callS4, ↓q_callV4, ↓q_callI4, ↓q_callS5, ↓q_callV5, ↓q_callI5, ↓q_callS6, ↓q_callV6, ↓q_callI6, ↓q_callS7, ↓q_callV7, ↓q_callI7, ↓q_callS8, ↓q_callV8, ↓q_callI8, ↓q_iret, ↓q_lret, ↓q_vret, q_e_i_int, q_e_l_long, q_e_a_ref, q_e_a_null, q_cat_int, q_cat_ref, q_cat_null, q_cat_long, q_na_int, q_lgt_z, q_lgt_s, q_lst0, q_lst1, q_lstS, q_lst20, q_lst21, q_lst2S, q_clr_i, q_clr_r, q_clr_n, q_clr_0, q_clr_l, q_cv_i, q_cv_l, q_cv_r, q_rv_s, q_rv_n, q_toL_s, q_toL_n, true_and, and_true, Nat.reduceAdd, s33, s34, s35, s36, s37, s38, s39, s40, s41, s42, s43, s44, s45, s46, r33_3, r33_4, r33_6, r33_7, r33_8, r33_10, r33_11, r33_12, r33_13, r33_15, r33_16, r33_18, r33_19]
  refine ⟨fun h1 => ?_, fun h1 => ?_⟩
  · refine call_ro (c_of hs (p := 1) hi (by decide)) (by decide) rfl (Nat.le_refl _) (Nat.le_refl _) ?_
    simp only [↓q_nil, ↓q_iconst, ↓q_bipush, ↓q_sipush, ↓q_ldc, ↓q_lconst, ↓q_ldc2, ↓q_null, ↓q_iload, ↓q_iload_n, ↓q_lload, ↓q_lload_n, ↓q_aload, ↓q_aload_n, ↓q_istore, ↓q_istore_n, ↓q_lstore, ↓q_lstore_n, ↓q_astore, ↓q_astore_n, ↓q_iinc, ↓q_iadd, ↓q_isub, ↓q_imul, ↓q_iand, ↓q_idiv, ↓q_irem, ↓q_ineg, ↓q_ladd, ↓q_lsub, ↓q_lmul, ↓q_land, ↓q_ldiv, ↓q_lrem, ↓q_i2l, ↓q_l2i, ↓q_dup, ↓q_pop, ↓q_dup2, ↓q_dup_x1, ↓q_goto, ↓q_if_eq, ↓q_if_ne, ↓q_if_lt, ↓q_if_ge, ↓q_if_gt, ↓q_if_le, ↓q_icmp_eq, ↓q_icmp_ne, ↓q_icmp_lt, ↓q_icmp_ge, ↓q_icmp_gt, ↓q_icmp_le, ↓q_ifnullN, ↓q_ifnull, ↓q_ifnonnullN, ↓q_ifnonnull, ↓q_table, ↓q_lookup, ↓q_getf, ↓q_putI, ↓q_putJ, ↓q_putR, ↓q_iald, ↓q_sld, ↓q_slen, ↓q_alen, ↓q_iast, ↓q_bald, ↓q_bast, ↓q_aald, ↓q_aast, ↓q_newa, ↓q_newq, ↓q_new, ↓q_objInit, ↓q_max, ↓q_min, ↓q_copy, ↓q_callS0, ↓q_callV0, ↓q_callI0, ↓q_callS1, ↓q_callV1, ↓q_callI1, ↓q_callS2, ↓q_callV2, ↓q_callI2, ↓q_callS3, ↓q_callV3, ↓q_callI3, ↓q_callS4, ↓q_callV4, ↓q_callI4, ↓q_callS5, ↓q_callV5, ↓q_callI5, ↓q_callS6, ↓q_callV6, ↓q_callI6, ↓q_callS7, ↓q_callV7, ↓q_callI7, ↓q_callS8, ↓q_callV8, ↓q_callI8, ↓q_iret, ↓q_lret, ↓q_vret, q_e_i_int, q_e_l_long, q_e_a_ref, q_e_a_null, q_cat_int, q_cat_ref, q_cat_null, q_cat_long, q_na_int, q_lgt_z, q_lgt_s, q_lst0, q_lst1, q_lstS, q_lst20, q_lst21, q_lst2S, q_clr_i, q_clr_r, q_clr_n, q_clr_0, q_clr_l, q_cv_i, q_cv_l, q_cv_r, q_rv_s, q_rv_n, q_toL_s, q_toL_n, true_and, and_true, Nat.reduceAdd, s33, s34, s35, s36, s37, s38, s39, s40, s41, s42, s43, s44, s45, s46, r33_3, r33_4, r33_6, r33_7, r33_8, r33_10, r33_11, r33_12, r33_13, r33_15, r33_16, r33_18, r33_19]
    refine ⟨fun h2 => ?_, fun h2 => ?_⟩
    · refine go_wp B_M_isOn_25_ok ?_; simp only [B_M_isOn_25, ↓q_nil, ↓q_iconst, ↓q_bipush, ↓q_sipush, ↓q_ldc, ↓q_lconst, ↓q_ldc2, ↓q_null, ↓q_iload, ↓q_iload_n, ↓q_lload, ↓q_lload_n, ↓q_aload, ↓q_aload_n, ↓q_istore, ↓q_istore_n, ↓q_lstore, ↓q_lstore_n, ↓q_astore, ↓q_astore_n, ↓q_iinc, ↓q_iadd, ↓q_isub, ↓q_imul, ↓q_iand, ↓q_idiv, ↓q_irem, ↓q_ineg, ↓q_ladd, ↓q_lsub, ↓q_lmul, ↓q_land, ↓q_ldiv, ↓q_lrem, ↓q_i2l, ↓q_l2i, ↓q_dup, ↓q_pop, ↓q_dup2, ↓q_dup_x1, ↓q_goto, ↓q_if_eq, ↓q_if_ne, ↓q_if_lt, ↓q_if_ge, ↓q_if_gt, ↓q_if_le, ↓q_icmp_eq, ↓q_icmp_ne, ↓q_icmp_lt, ↓q_icmp_ge, ↓q_icmp_gt, ↓q_icmp_le, ↓q_ifnullN, ↓q_ifnull, ↓q_ifnonnullN, ↓q_ifnonnull, ↓q_table, ↓q_lookup, ↓q_getf, ↓q_putI, ↓q_putJ, ↓q_putR, ↓q_iald, ↓q_sld, ↓q_slen, ↓q_alen, ↓q_iast, ↓q_bald, ↓q_bast, ↓q_aald, ↓q_aast, ↓q_newa, ↓q_newq, ↓q_new, ↓q_objInit, ↓q_max, ↓q_min, ↓q_copy, ↓q_callS0, ↓q_callV0, ↓q_callI0, ↓q_callS1, ↓q_callV1, ↓q_callI1, ↓q_callS2, ↓q_callV2, ↓q_callI2, ↓q_callS3, ↓q_callV3, ↓q_callI3, ↓q_callS4, ↓q_callV4, ↓q_callI4, ↓q_callS5, ↓q_callV5, ↓q_callI5, ↓q_callS6, ↓q_callV6, ↓q_callI6, ↓q_callS7, ↓q_callV7, ↓q_callI7, ↓q_callS8, ↓q_callV8, ↓q_callI8, ↓q_iret, ↓q_lret, ↓q_vret, q_e_i_int, q_e_l_long, q_e_a_ref, q_e_a_null, q_cat_int, q_cat_ref, q_cat_null, q_cat_long, q_na_int, q_lgt_z, q_lgt_s, q_lst0, q_lst1, q_lstS, q_lst20, q_lst21, q_lst2S, q_clr_i, q_clr_r, q_clr_n, q_clr_0, q_clr_l, q_cv_i, q_cv_l, q_cv_r, q_rv_s, q_rv_n, q_toL_s, q_toL_n, true_and, and_true, Nat.reduceAdd, s33, s34, s35, s36, s37, s38, s39, s40, s41, s42, s43, s44, s45, s46, r33_3, r33_4, r33_6, r33_7, r33_8, r33_10, r33_11, r33_12, r33_13, r33_15, r33_16, r33_18, r33_19, na_b1, bI_t (show pt (I 34) 2 i = 1 ∧ pt (I 34) 1 i = l from ⟨h1, h2⟩)]
      exact ⟨rfl, rfl, rfl, rfl⟩
    · refine go_wp B_M_isOn_24_ok ?_; simp only [B_M_isOn_24, ↓q_nil, ↓q_iconst, ↓q_bipush, ↓q_sipush, ↓q_ldc, ↓q_lconst, ↓q_ldc2, ↓q_null, ↓q_iload, ↓q_iload_n, ↓q_lload, ↓q_lload_n, ↓q_aload, ↓q_aload_n, ↓q_istore, ↓q_istore_n, ↓q_lstore, ↓q_lstore_n, ↓q_astore, ↓q_astore_n, ↓q_iinc, ↓q_iadd, ↓q_isub, ↓q_imul, ↓q_iand, ↓q_idiv, ↓q_irem, ↓q_ineg, ↓q_ladd, ↓q_lsub, ↓q_lmul, ↓q_land, ↓q_ldiv, ↓q_lrem, ↓q_i2l, ↓q_l2i, ↓q_dup, ↓q_pop, ↓q_dup2, ↓q_dup_x1, ↓q_goto, ↓q_if_eq, ↓q_if_ne, ↓q_if_lt, ↓q_if_ge, ↓q_if_gt, ↓q_if_le, ↓q_icmp_eq, ↓q_icmp_ne, ↓q_icmp_lt, ↓q_icmp_ge, ↓q_icmp_gt, ↓q_icmp_le, ↓q_ifnullN, ↓q_ifnull, ↓q_ifnonnullN, ↓q_ifnonnull, ↓q_table, ↓q_lookup, ↓q_getf, ↓q_putI, ↓q_putJ, ↓q_putR, ↓q_iald, ↓q_sld, ↓q_slen, ↓q_alen, ↓q_iast, ↓q_bald, ↓q_bast, ↓q_aald, ↓q_aast, ↓q_newa, ↓q_newq, ↓q_new, ↓q_objInit, ↓q_max, ↓q_min, ↓q_copy, ↓q_callS0, ↓q_callV0, ↓q_callI0, ↓q_callS1, ↓q_callV1, ↓q_callI1, ↓q_callS2, ↓q_callV2, ↓q_callI2, ↓q_callS3, ↓q_callV3, ↓q_callI3, ↓q_callS4, ↓q_callV4, ↓q_callI4, ↓q_callS5, ↓q_callV5, ↓q_callI5, ↓q_callS6, ↓q_callV6, ↓q_callI6, ↓q_callS7, ↓q_callV7, ↓q_callI7, ↓q_callS8, ↓q_callV8, ↓q_callI8, ↓q_iret, ↓q_lret, ↓q_vret, q_e_i_int, q_e_l_long, q_e_a_ref, q_e_a_null, q_cat_int, q_cat_ref, q_cat_null, q_cat_long, q_na_int, q_lgt_z, q_lgt_s, q_lst0, q_lst1, q_lstS, q_lst20, q_lst21, q_lst2S, q_clr_i, q_clr_r, q_clr_n, q_clr_0, q_clr_l, q_cv_i, q_cv_l, q_cv_r, q_rv_s, q_rv_n, q_toL_s, q_toL_n, true_and, and_true, Nat.reduceAdd, s33, s34, s35, s36, s37, s38, s39, s40, s41, s42, s43, s44, s45, s46, r33_3, r33_4, r33_6, r33_7, r33_8, r33_10, r33_11, r33_12, r33_13, r33_15, r33_16, r33_18, r33_19]
      refine go_wp B_M_isOn_25_ok ?_; simp only [B_M_isOn_25, ↓q_nil, ↓q_iconst, ↓q_bipush, ↓q_sipush, ↓q_ldc, ↓q_lconst, ↓q_ldc2, ↓q_null, ↓q_iload, ↓q_iload_n, ↓q_lload, ↓q_lload_n, ↓q_aload, ↓q_aload_n, ↓q_istore, ↓q_istore_n, ↓q_lstore, ↓q_lstore_n, ↓q_astore, ↓q_astore_n, ↓q_iinc, ↓q_iadd, ↓q_isub, ↓q_imul, ↓q_iand, ↓q_idiv, ↓q_irem, ↓q_ineg, ↓q_ladd, ↓q_lsub, ↓q_lmul, ↓q_land, ↓q_ldiv, ↓q_lrem, ↓q_i2l, ↓q_l2i, ↓q_dup, ↓q_pop, ↓q_dup2, ↓q_dup_x1, ↓q_goto, ↓q_if_eq, ↓q_if_ne, ↓q_if_lt, ↓q_if_ge, ↓q_if_gt, ↓q_if_le, ↓q_icmp_eq, ↓q_icmp_ne, ↓q_icmp_lt, ↓q_icmp_ge, ↓q_icmp_gt, ↓q_icmp_le, ↓q_ifnullN, ↓q_ifnull, ↓q_ifnonnullN, ↓q_ifnonnull, ↓q_table, ↓q_lookup, ↓q_getf, ↓q_putI, ↓q_putJ, ↓q_putR, ↓q_iald, ↓q_sld, ↓q_slen, ↓q_alen, ↓q_iast, ↓q_bald, ↓q_bast, ↓q_aald, ↓q_aast, ↓q_newa, ↓q_newq, ↓q_new, ↓q_objInit, ↓q_max, ↓q_min, ↓q_copy, ↓q_callS0, ↓q_callV0, ↓q_callI0, ↓q_callS1, ↓q_callV1, ↓q_callI1, ↓q_callS2, ↓q_callV2, ↓q_callI2, ↓q_callS3, ↓q_callV3, ↓q_callI3, ↓q_callS4, ↓q_callV4, ↓q_callI4, ↓q_callS5, ↓q_callV5, ↓q_callI5, ↓q_callS6, ↓q_callV6, ↓q_callI6, ↓q_callS7, ↓q_callV7, ↓q_callI7, ↓q_callS8, ↓q_callV8, ↓q_callI8, ↓q_iret, ↓q_lret, ↓q_vret, q_e_i_int, q_e_l_long, q_e_a_ref, q_e_a_null, q_cat_int, q_cat_ref, q_cat_null, q_cat_long, q_na_int, q_lgt_z, q_lgt_s, q_lst0, q_lst1, q_lstS, q_lst20, q_lst21, q_lst2S, q_clr_i, q_clr_r, q_clr_n, q_clr_0, q_clr_l, q_cv_i, q_cv_l, q_cv_r, q_rv_s, q_rv_n, q_toL_s, q_toL_n, true_and, and_true, Nat.reduceAdd, s33, s34, s35, s36, s37, s38, s39, s40, s41, s42, s43, s44, s45, s46, r33_3, r33_4, r33_6, r33_7, r33_8, r33_10, r33_11, r33_12, r33_13, r33_15, r33_16, r33_18, r33_19, na_b0, bI_f (show ¬ (pt (I 34) 2 i = 1 ∧ pt (I 34) 1 i = l) from fun q => h2 q.2)]
      exact ⟨rfl, rfl, rfl, rfl⟩
  · refine go_wp B_M_isOn_24_ok ?_; simp only [B_M_isOn_24, ↓q_nil, ↓q_iconst, ↓q_bipush, ↓q_sipush, ↓q_ldc, ↓q_lconst, ↓q_ldc2, ↓q_null, ↓q_iload, ↓q_iload_n, ↓q_lload, ↓q_lload_n, ↓q_aload, ↓q_aload_n, ↓q_istore, ↓q_istore_n, ↓q_lstore, ↓q_lstore_n, ↓q_astore, ↓q_astore_n, ↓q_iinc, ↓q_iadd, ↓q_isub, ↓q_imul, ↓q_iand, ↓q_idiv, ↓q_irem, ↓q_ineg, ↓q_ladd, ↓q_lsub, ↓q_lmul, ↓q_land, ↓q_ldiv, ↓q_lrem, ↓q_i2l, ↓q_l2i, ↓q_dup, ↓q_pop, ↓q_dup2, ↓q_dup_x1, ↓q_goto, ↓q_if_eq, ↓q_if_ne, ↓q_if_lt, ↓q_if_ge, ↓q_if_gt, ↓q_if_le, ↓q_icmp_eq, ↓q_icmp_ne, ↓q_icmp_lt, ↓q_icmp_ge, ↓q_icmp_gt, ↓q_icmp_le, ↓q_ifnullN, ↓q_ifnull, ↓q_ifnonnullN, ↓q_ifnonnull, ↓q_table, ↓q_lookup, ↓q_getf, ↓q_putI, ↓q_putJ, ↓q_putR, ↓q_iald, ↓q_sld, ↓q_slen, ↓q_alen, ↓q_iast, ↓q_bald, ↓q_bast, ↓q_aald, ↓q_aast, ↓q_newa, ↓q_newq, ↓q_new, ↓q_objInit, ↓q_max, ↓q_min, ↓q_copy, ↓q_callS0, ↓q_callV0, ↓q_callI0, ↓q_callS1, ↓q_callV1, ↓q_callI1, ↓q_callS2, ↓q_callV2, ↓q_callI2, ↓q_callS3, ↓q_callV3, ↓q_callI3, ↓q_callS4, ↓q_callV4, ↓q_callI4, ↓q_callS5, ↓q_callV5, ↓q_callI5, ↓q_callS6, ↓q_callV6, ↓q_callI6, ↓q_callS7, ↓q_callV7, ↓q_callI7, ↓q_callS8, ↓q_callV8, ↓q_callI8, ↓q_iret, ↓q_lret, ↓q_vret, q_e_i_int, q_e_l_long, q_e_a_ref, q_e_a_null, q_cat_int, q_cat_ref, q_cat_null, q_cat_long, q_na_int, q_lgt_z, q_lgt_s, q_lst0, q_lst1, q_lstS, q_lst20, q_lst21, q_lst2S, q_clr_i, q_clr_r, q_clr_n, q_clr_0, q_clr_l, q_cv_i, q_cv_l, q_cv_r, q_rv_s, q_rv_n, q_toL_s, q_toL_n, true_and, and_true, Nat.reduceAdd, s33, s34, s35, s36, s37, s38, s39, s40, s41, s42, s43, s44, s45, s46, r33_3, r33_4, r33_6, r33_7, r33_8, r33_10, r33_11, r33_12, r33_13, r33_15, r33_16, r33_18, r33_19]
    refine go_wp B_M_isOn_25_ok ?_; simp only [B_M_isOn_25, ↓q_nil, ↓q_iconst, ↓q_bipush, ↓q_sipush, ↓q_ldc, ↓q_lconst, ↓q_ldc2, ↓q_null, ↓q_iload, ↓q_iload_n, ↓q_lload, ↓q_lload_n, ↓q_aload, ↓q_aload_n, ↓q_istore, ↓q_istore_n, ↓q_lstore, ↓q_lstore_n, ↓q_astore, ↓q_astore_n, ↓q_iinc, ↓q_iadd, ↓q_isub, ↓q_imul, ↓q_iand, ↓q_idiv, ↓q_irem, ↓q_ineg, ↓q_ladd, ↓q_lsub, ↓q_lmul, ↓q_land, ↓q_ldiv, ↓q_lrem, ↓q_i2l, ↓q_l2i, ↓q_dup, ↓q_pop, ↓q_dup2, ↓q_dup_x1, ↓q_goto, ↓q_if_eq, ↓q_if_ne, ↓q_if_lt, ↓q_if_ge, ↓q_if_gt, ↓q_if_le, ↓q_icmp_eq, ↓q_icmp_ne, ↓q_icmp_lt, ↓q_icmp_ge, ↓q_icmp_gt, ↓q_icmp_le, ↓q_ifnullN, ↓q_ifnull, ↓q_ifnonnullN, ↓q_ifnonnull, ↓q_table, ↓q_lookup, ↓q_getf, ↓q_putI, ↓q_putJ, ↓q_putR, ↓q_iald, ↓q_sld, ↓q_slen, ↓q_alen, ↓q_iast, ↓q_bald, ↓q_bast, ↓q_aald, ↓q_aast, ↓q_newa, ↓q_newq, ↓q_new, ↓q_objInit, ↓q_max, ↓q_min, ↓q_copy, ↓q_callS0, ↓q_callV0, ↓q_callI0, ↓q_callS1, ↓q_callV1, ↓q_callI1, ↓q_callS2, ↓q_callV2, ↓q_callI2, ↓q_callS3, ↓q_callV3, ↓q_callI3, ↓q_callS4, ↓q_callV4, ↓q_callI4, ↓q_callS5, ↓q_callV5, ↓q_callI5, ↓q_callS6, ↓q_callV6, ↓q_callI6, ↓q_callS7, ↓q_callV7, ↓q_callI7, ↓q_callS8, ↓q_callV8, ↓q_callI8, ↓q_iret, ↓q_lret, ↓q_vret, q_e_i_int, q_e_l_long, q_e_a_ref, q_e_a_null, q_cat_int, q_cat_ref, q_cat_null, q_cat_long, q_na_int, q_lgt_z, q_lgt_s, q_lst0, q_lst1, q_lstS, q_lst20, q_lst21, q_lst2S, q_clr_i, q_clr_r, q_clr_n, q_clr_0, q_clr_l, q_cv_i, q_cv_l, q_cv_r, q_rv_s, q_rv_n, q_toL_s, q_toL_n, true_and, and_true, Nat.reduceAdd, s33, s34, s35, s36, s37, s38, s39, s40, s41, s42, s43, s44, s45, s46, r33_3, r33_4, r33_6, r33_7, r33_8, r33_10, r33_11, r33_12, r33_13, r33_15, r33_16, r33_18, r33_19, na_b0, bI_f (show ¬ (pt (I 34) 2 i = 1 ∧ pt (I 34) 1 i = l) from fun q => h1 q.1)]
    exact ⟨rfl, rfl, rfl, rfl⟩
set_option maxRecDepth 100000 in set_option maxHeartbeats 4000000 in
theorem c_isPlace (hs : ShM S R) {p : Int32} : Cn g M_M_isPlace 1 0 0 [.ref (gB g + 33), .int p] (n, z, S, I, J, R) (Is (some (.int (bI (0 ≤ p ∧ p ≤ I 33 2)))) (n, z, S, I, J, R)) := by
  have hs' := hs; obtain ⟨⟨s33, s34, s35, s36, s37, s38, s39, s40, s41, s42, s43, s44, s45, s46⟩, r33_3, r33_4, r33_6, r33_7, r33_8, r33_10, r33_11, r33_12, r33_13, r33_15, r33_16, r33_18, r33_19⟩ := hs'
  refine cn_go (ls := [some (.ref (gB g + 33)), some (.int p)]) kc_M_isPlace (by decide) rfl rfl ?_
  refine go_wp B_M_isPlace_0_ok ?_; simp only [B_M_isPlace_0, ↓q_nil, ↓q_iconst, ↓q_bipush, ↓q_sipush, ↓q_ldc, ↓q_lconst, ↓q_ldc2, ↓q_null, ↓q_iload, ↓q_iload_n, ↓q_lload, ↓q_lload_n, ↓q_aload, ↓q_aload_n, ↓q_istore, ↓q_istore_n, ↓q_lstore, ↓q_lstore_n, ↓q_astore, ↓q_astore_n, ↓q_iinc, ↓q_iadd, ↓q_isub, ↓q_imul, ↓q_iand, ↓q_idiv, ↓q_irem, ↓q_ineg, ↓q_ladd, ↓q_lsub, ↓q_lmul, ↓q_land, ↓q_ldiv, ↓q_lrem, ↓q_i2l, ↓q_l2i, ↓q_dup, ↓q_pop, ↓q_dup2, ↓q_dup_x1, ↓q_goto, ↓q_if_eq, ↓q_if_ne, ↓q_if_lt, ↓q_if_ge, ↓q_if_gt, ↓q_if_le, ↓q_icmp_eq, ↓q_icmp_ne, ↓q_icmp_lt, ↓q_icmp_ge, ↓q_icmp_gt, ↓q_icmp_le, ↓q_ifnullN, ↓q_ifnull, ↓q_ifnonnullN, ↓q_ifnonnull, ↓q_table, ↓q_lookup, ↓q_getf, ↓q_putI, ↓q_putJ, ↓q_putR, ↓q_iald, ↓q_sld, ↓q_slen, ↓q_alen, ↓q_iast, ↓q_bald, ↓q_bast, ↓q_aald, ↓q_aast, ↓q_newa, ↓q_newq, ↓q_new, ↓q_objInit, ↓q_max, ↓q_min, ↓q_copy, ↓q_callS0, ↓q_callV0, ↓q_callI0, ↓q_callS1, ↓q_callV1, ↓q_callI1, ↓q_callS2, ↓q_callV2, ↓q_callI2, ↓q_callS3, ↓q_callV3, ↓q_callI3, ↓q_callS4, ↓q_callV4, ↓q_callI4, ↓q_callS5, ↓q_callV5, ↓q_callI5, ↓q_callS6, ↓q_callV6, ↓q_callI6, ↓q_callS7, ↓q_callV7, ↓q_callI7, ↓q_callS8, ↓q_callV8, ↓q_callI8, ↓q_iret, ↓q_lret, ↓q_vret, q_e_i_int, q_e_l_long, q_e_a_ref, q_e_a_null, q_cat_int, q_cat_ref, q_cat_null, q_cat_long, q_na_int, q_lgt_z, q_lgt_s, q_lst0, q_lst1, q_lstS, q_lst20, q_lst21, q_lst2S, q_clr_i, q_clr_r, q_clr_n, q_clr_0, q_clr_l, q_cv_i, q_cv_l, q_cv_r, q_rv_s, q_rv_n, q_toL_s, q_toL_n, true_and, and_true, Nat.reduceAdd, s33, s34, s35, s36, s37, s38, s39, s40, s41, s42, s43, s44, s45, s46, r33_3, r33_4, r33_6, r33_7, r33_8, r33_10, r33_11, r33_12, r33_13, r33_15, r33_16, r33_18, r33_19]
  refine call_ro (c_within) (by decide) rfl (Nat.le_refl _) (Nat.le_refl _) ?_
  simp only [↓q_nil, ↓q_iconst, ↓q_bipush, ↓q_sipush, ↓q_ldc, ↓q_lconst, ↓q_ldc2, ↓q_null, ↓q_iload, ↓q_iload_n, ↓q_lload, ↓q_lload_n, ↓q_aload, ↓q_aload_n, ↓q_istore, ↓q_istore_n, ↓q_lstore, ↓q_lstore_n, ↓q_astore, ↓q_astore_n, ↓q_iinc, ↓q_iadd, ↓q_isub, ↓q_imul, ↓q_iand, ↓q_idiv, ↓q_irem, ↓q_ineg, ↓q_ladd, ↓q_lsub, ↓q_lmul, ↓q_land, ↓q_ldiv, ↓q_lrem, ↓q_i2l, ↓q_l2i, ↓q_dup, ↓q_pop, ↓q_dup2, ↓q_dup_x1, ↓q_goto, ↓q_if_eq, ↓q_if_ne, ↓q_if_lt, ↓q_if_ge, ↓q_if_gt, ↓q_if_le, ↓q_icmp_eq, ↓q_icmp_ne, ↓q_icmp_lt, ↓q_icmp_ge, ↓q_icmp_gt, ↓q_icmp_le, ↓q_ifnullN, ↓q_ifnull, ↓q_ifnonnullN, ↓q_ifnonnull, ↓q_table, ↓q_lookup, ↓q_getf, ↓q_putI, ↓q_putJ, ↓q_putR, ↓q_iald, ↓q_sld, ↓q_slen, ↓q_alen, ↓q_iast, ↓q_bald, ↓q_bast, ↓q_aald, ↓q_aast, ↓q_newa, ↓q_newq, ↓q_new, ↓q_objInit, ↓q_max, ↓q_min, ↓q_copy, ↓q_callS0, ↓q_callV0, ↓q_callI0, ↓q_callS1, ↓q_callV1, ↓q_callI1, ↓q_callS2, ↓q_callV2, ↓q_callI2, ↓q_callS3, ↓q_callV3, ↓q_callI3, ↓q_callS4, ↓q_callV4, ↓q_callI4, ↓q_callS5, ↓q_callV5, ↓q_callI5, ↓q_callS6, ↓q_callV6, ↓q_callI6, ↓q_callS7, ↓q_callV7, ↓q_callI7, ↓q_callS8, ↓q_callV8, ↓q_callI8, ↓q_iret, ↓q_lret, ↓q_vret, q_e_i_int, q_e_l_long, q_e_a_ref, q_e_a_null, q_cat_int, q_cat_ref, q_cat_null, q_cat_long, q_na_int, q_lgt_z, q_lgt_s, q_lst0, q_lst1, q_lstS, q_lst20, q_lst21, q_lst2S, q_clr_i, q_clr_r, q_clr_n, q_clr_0, q_clr_l, q_cv_i, q_cv_l, q_cv_r, q_rv_s, q_rv_n, q_toL_s, q_toL_n, true_and, and_true, Nat.reduceAdd, s33, s34, s35, s36, s37, s38, s39, s40, s41, s42, s43, s44, s45, s46, r33_3, r33_4, r33_6, r33_7, r33_8, r33_10, r33_11, r33_12, r33_13, r33_15, r33_16, r33_18, r33_19]
  exact ⟨na_b _, rfl, rfl, rfl, rfl⟩
set_option maxRecDepth 100000 in set_option maxHeartbeats 4000000 in
theorem c_lesser {a b : Int32} : Cn g M_M_lesser 0 0 0 [.int a, .int b] (n, z, S, I, J, R) (Is (some (.int (lsr a b))) (n, z, S, I, J, R)) := by
  refine cn_go (ls := [some (.int a), some (.int b)]) kc_M_lesser (by decide) rfl rfl ?_
  refine go_wp B_M_lesser_0_ok ?_; simp only [B_M_lesser_0, ↓q_nil, ↓q_iconst, ↓q_bipush, ↓q_sipush, ↓q_ldc, ↓q_lconst, ↓q_ldc2, ↓q_null, ↓q_iload, ↓q_iload_n, ↓q_lload, ↓q_lload_n, ↓q_aload, ↓q_aload_n, ↓q_istore, ↓q_istore_n, ↓q_lstore, ↓q_lstore_n, ↓q_astore, ↓q_astore_n, ↓q_iinc, ↓q_iadd, ↓q_isub, ↓q_imul, ↓q_iand, ↓q_idiv, ↓q_irem, ↓q_ineg, ↓q_ladd, ↓q_lsub, ↓q_lmul, ↓q_land, ↓q_ldiv, ↓q_lrem, ↓q_i2l, ↓q_l2i, ↓q_dup, ↓q_pop, ↓q_dup2, ↓q_dup_x1, ↓q_goto, ↓q_if_eq, ↓q_if_ne, ↓q_if_lt, ↓q_if_ge, ↓q_if_gt, ↓q_if_le, ↓q_icmp_eq, ↓q_icmp_ne, ↓q_icmp_lt, ↓q_icmp_ge, ↓q_icmp_gt, ↓q_icmp_le, ↓q_ifnullN, ↓q_ifnull, ↓q_ifnonnullN, ↓q_ifnonnull, ↓q_table, ↓q_lookup, ↓q_getf, ↓q_putI, ↓q_putJ, ↓q_putR, ↓q_iald, ↓q_sld, ↓q_slen, ↓q_alen, ↓q_iast, ↓q_bald, ↓q_bast, ↓q_aald, ↓q_aast, ↓q_newa, ↓q_newq, ↓q_new, ↓q_objInit, ↓q_max, ↓q_min, ↓q_copy, ↓q_callS0, ↓q_callV0, ↓q_callI0, ↓q_callS1, ↓q_callV1, ↓q_callI1, ↓q_callS2, ↓q_callV2, ↓q_callI2, ↓q_callS3, ↓q_callV3, ↓q_callI3, ↓q_callS4, ↓q_callV4, ↓q_callI4, ↓q_callS5, ↓q_callV5, ↓q_callI5, ↓q_callS6, ↓q_callV6, ↓q_callI6, ↓q_callS7, ↓q_callV7, ↓q_callI7, ↓q_callS8, ↓q_callV8, ↓q_callI8, ↓q_iret, ↓q_lret, ↓q_vret, q_e_i_int, q_e_l_long, q_e_a_ref, q_e_a_null, q_cat_int, q_cat_ref, q_cat_null, q_cat_long, q_na_int, q_lgt_z, q_lgt_s, q_lst0, q_lst1, q_lstS, q_lst20, q_lst21, q_lst2S, q_clr_i, q_clr_r, q_clr_n, q_clr_0, q_clr_l, q_cv_i, q_cv_l, q_cv_r, q_rv_s, q_rv_n, q_toL_s, q_toL_n, true_and, and_true, Nat.reduceAdd]
  refine ⟨fun h => ?_, fun h => ?_⟩
  · refine go_wp B_M_lesser_10_ok ?_; simp only [B_M_lesser_10, ↓q_nil, ↓q_iconst, ↓q_bipush, ↓q_sipush, ↓q_ldc, ↓q_lconst, ↓q_ldc2, ↓q_null, ↓q_iload, ↓q_iload_n, ↓q_lload, ↓q_lload_n, ↓q_aload, ↓q_aload_n, ↓q_istore, ↓q_istore_n, ↓q_lstore, ↓q_lstore_n, ↓q_astore, ↓q_astore_n, ↓q_iinc, ↓q_iadd, ↓q_isub, ↓q_imul, ↓q_iand, ↓q_idiv, ↓q_irem, ↓q_ineg, ↓q_ladd, ↓q_lsub, ↓q_lmul, ↓q_land, ↓q_ldiv, ↓q_lrem, ↓q_i2l, ↓q_l2i, ↓q_dup, ↓q_pop, ↓q_dup2, ↓q_dup_x1, ↓q_goto, ↓q_if_eq, ↓q_if_ne, ↓q_if_lt, ↓q_if_ge, ↓q_if_gt, ↓q_if_le, ↓q_icmp_eq, ↓q_icmp_ne, ↓q_icmp_lt, ↓q_icmp_ge, ↓q_icmp_gt, ↓q_icmp_le, ↓q_ifnullN, ↓q_ifnull, ↓q_ifnonnullN, ↓q_ifnonnull, ↓q_table, ↓q_lookup, ↓q_getf, ↓q_putI, ↓q_putJ, ↓q_putR, ↓q_iald, ↓q_sld, ↓q_slen, ↓q_alen, ↓q_iast, ↓q_bald, ↓q_bast, ↓q_aald, ↓q_aast, ↓q_newa, ↓q_newq, ↓q_new, ↓q_objInit, ↓q_max, ↓q_min, ↓q_copy, ↓q_callS0, ↓q_callV0, ↓q_callI0, ↓q_callS1, ↓q_callV1, ↓q_callI1, ↓q_callS2, ↓q_callV2, ↓q_callI2, ↓q_callS3, ↓q_callV3, ↓q_callI3, ↓q_callS4, ↓q_callV4, ↓q_callI4, ↓q_callS5, ↓q_callV5, ↓q_callI5, ↓q_callS6, ↓q_callV6, ↓q_callI6, ↓q_callS7, ↓q_callV7, ↓q_callI7, ↓q_callS8, ↓q_callV8, ↓q_callI8, ↓q_iret, ↓q_lret, ↓q_vret, q_e_i_int, q_e_l_long, q_e_a_ref, q_e_a_null, q_cat_int, q_cat_ref, q_cat_null, q_cat_long, q_na_int, q_lgt_z, q_lgt_s, q_lst0, q_lst1, q_lstS, q_lst20, q_lst21, q_lst2S, q_clr_i, q_clr_r, q_clr_n, q_clr_0, q_clr_l, q_cv_i, q_cv_l, q_cv_r, q_rv_s, q_rv_n, q_toL_s, q_toL_n, true_and, and_true, Nat.reduceAdd, lsr, if_pos h]
    exact ⟨rfl, rfl, rfl, rfl⟩
  · refine go_wp B_M_lesser_9_ok ?_; simp only [B_M_lesser_9, ↓q_nil, ↓q_iconst, ↓q_bipush, ↓q_sipush, ↓q_ldc, ↓q_lconst, ↓q_ldc2, ↓q_null, ↓q_iload, ↓q_iload_n, ↓q_lload, ↓q_lload_n, ↓q_aload, ↓q_aload_n, ↓q_istore, ↓q_istore_n, ↓q_lstore, ↓q_lstore_n, ↓q_astore, ↓q_astore_n, ↓q_iinc, ↓q_iadd, ↓q_isub, ↓q_imul, ↓q_iand, ↓q_idiv, ↓q_irem, ↓q_ineg, ↓q_ladd, ↓q_lsub, ↓q_lmul, ↓q_land, ↓q_ldiv, ↓q_lrem, ↓q_i2l, ↓q_l2i, ↓q_dup, ↓q_pop, ↓q_dup2, ↓q_dup_x1, ↓q_goto, ↓q_if_eq, ↓q_if_ne, ↓q_if_lt, ↓q_if_ge, ↓q_if_gt, ↓q_if_le, ↓q_icmp_eq, ↓q_icmp_ne, ↓q_icmp_lt, ↓q_icmp_ge, ↓q_icmp_gt, ↓q_icmp_le, ↓q_ifnullN, ↓q_ifnull, ↓q_ifnonnullN, ↓q_ifnonnull, ↓q_table, ↓q_lookup, ↓q_getf, ↓q_putI, ↓q_putJ, ↓q_putR, ↓q_iald, ↓q_sld, ↓q_slen, ↓q_alen, ↓q_iast, ↓q_bald, ↓q_bast, ↓q_aald, ↓q_aast, ↓q_newa, ↓q_newq, ↓q_new, ↓q_objInit, ↓q_max, ↓q_min, ↓q_copy, ↓q_callS0, ↓q_callV0, ↓q_callI0, ↓q_callS1, ↓q_callV1, ↓q_callI1, ↓q_callS2, ↓q_callV2, ↓q_callI2, ↓q_callS3, ↓q_callV3, ↓q_callI3, ↓q_callS4, ↓q_callV4, ↓q_callI4, ↓q_callS5, ↓q_callV5, ↓q_callI5, ↓q_callS6, ↓q_callV6, ↓q_callI6, ↓q_callS7, ↓q_callV7, ↓q_callI7, ↓q_callS8, ↓q_callV8, ↓q_callI8, ↓q_iret, ↓q_lret, ↓q_vret, q_e_i_int, q_e_l_long, q_e_a_ref, q_e_a_null, q_cat_int, q_cat_ref, q_cat_null, q_cat_long, q_na_int, q_lgt_z, q_lgt_s, q_lst0, q_lst1, q_lstS, q_lst20, q_lst21, q_lst2S, q_clr_i, q_clr_r, q_clr_n, q_clr_0, q_clr_l, q_cv_i, q_cv_l, q_cv_r, q_rv_s, q_rv_n, q_toL_s, q_toL_n, true_and, and_true, Nat.reduceAdd]
    refine go_wp B_M_lesser_10_ok ?_; simp only [B_M_lesser_10, ↓q_nil, ↓q_iconst, ↓q_bipush, ↓q_sipush, ↓q_ldc, ↓q_lconst, ↓q_ldc2, ↓q_null, ↓q_iload, ↓q_iload_n, ↓q_lload, ↓q_lload_n, ↓q_aload, ↓q_aload_n, ↓q_istore, ↓q_istore_n, ↓q_lstore, ↓q_lstore_n, ↓q_astore, ↓q_astore_n, ↓q_iinc, ↓q_iadd, ↓q_isub, ↓q_imul, ↓q_iand, ↓q_idiv, ↓q_irem, ↓q_ineg, ↓q_ladd, ↓q_lsub, ↓q_lmul, ↓q_land, ↓q_ldiv, ↓q_lrem, ↓q_i2l, ↓q_l2i, ↓q_dup, ↓q_pop, ↓q_dup2, ↓q_dup_x1, ↓q_goto, ↓q_if_eq, ↓q_if_ne, ↓q_if_lt, ↓q_if_ge, ↓q_if_gt, ↓q_if_le, ↓q_icmp_eq, ↓q_icmp_ne, ↓q_icmp_lt, ↓q_icmp_ge, ↓q_icmp_gt, ↓q_icmp_le, ↓q_ifnullN, ↓q_ifnull, ↓q_ifnonnullN, ↓q_ifnonnull, ↓q_table, ↓q_lookup, ↓q_getf, ↓q_putI, ↓q_putJ, ↓q_putR, ↓q_iald, ↓q_sld, ↓q_slen, ↓q_alen, ↓q_iast, ↓q_bald, ↓q_bast, ↓q_aald, ↓q_aast, ↓q_newa, ↓q_newq, ↓q_new, ↓q_objInit, ↓q_max, ↓q_min, ↓q_copy, ↓q_callS0, ↓q_callV0, ↓q_callI0, ↓q_callS1, ↓q_callV1, ↓q_callI1, ↓q_callS2, ↓q_callV2, ↓q_callI2, ↓q_callS3, ↓q_callV3, ↓q_callI3, ↓q_callS4, ↓q_callV4, ↓q_callI4, ↓q_callS5, ↓q_callV5, ↓q_callI5, ↓q_callS6, ↓q_callV6, ↓q_callI6, ↓q_callS7, ↓q_callV7, ↓q_callI7, ↓q_callS8, ↓q_callV8, ↓q_callI8, ↓q_iret, ↓q_lret, ↓q_vret, q_e_i_int, q_e_l_long, q_e_a_ref, q_e_a_null, q_cat_int, q_cat_ref, q_cat_null, q_cat_long, q_na_int, q_lgt_z, q_lgt_s, q_lst0, q_lst1, q_lstS, q_lst20, q_lst21, q_lst2S, q_clr_i, q_clr_r, q_clr_n, q_clr_0, q_clr_l, q_cv_i, q_cv_l, q_cv_r, q_rv_s, q_rv_n, q_toL_s, q_toL_n, true_and, and_true, Nat.reduceAdd, lsr, if_neg h]
    exact ⟨rfl, rfl, rfl, rfl⟩
set_option maxRecDepth 100000 in set_option maxHeartbeats 4000000 in
theorem c_allowed {a : Int32} : Cn g M_M_allowed 0 0 0 [.int a] (n, z, S, I, J, R) (Is (some (.int (alw a))) (n, z, S, I, J, R)) := by
  refine cn_go (ls := [some (.int a)]) kc_M_allowed (by decide) rfl rfl ?_
  refine go_wp B_M_allowed_0_ok ?_; simp only [B_M_allowed_0, ↓q_nil, ↓q_iconst, ↓q_bipush, ↓q_sipush, ↓q_ldc, ↓q_lconst, ↓q_ldc2, ↓q_null, ↓q_iload, ↓q_iload_n, ↓q_lload, ↓q_lload_n, ↓q_aload, ↓q_aload_n, ↓q_istore, ↓q_istore_n, ↓q_lstore, ↓q_lstore_n, ↓q_astore, ↓q_astore_n, ↓q_iinc, ↓q_iadd, ↓q_isub, ↓q_imul, ↓q_iand, ↓q_idiv, ↓q_irem, ↓q_ineg, ↓q_ladd, ↓q_lsub, ↓q_lmul, ↓q_land, ↓q_ldiv, ↓q_lrem, ↓q_i2l, ↓q_l2i, ↓q_dup, ↓q_pop, ↓q_dup2, ↓q_dup_x1, ↓q_goto, ↓q_if_eq, ↓q_if_ne, ↓q_if_lt, ↓q_if_ge, ↓q_if_gt, ↓q_if_le, ↓q_icmp_eq, ↓q_icmp_ne, ↓q_icmp_lt, ↓q_icmp_ge, ↓q_icmp_gt, ↓q_icmp_le, ↓q_ifnullN, ↓q_ifnull, ↓q_ifnonnullN, ↓q_ifnonnull, ↓q_table, ↓q_lookup, ↓q_getf, ↓q_putI, ↓q_putJ, ↓q_putR, ↓q_iald, ↓q_sld, ↓q_slen, ↓q_alen, ↓q_iast, ↓q_bald, ↓q_bast, ↓q_aald, ↓q_aast, ↓q_newa, ↓q_newq, ↓q_new, ↓q_objInit, ↓q_max, ↓q_min, ↓q_copy, ↓q_callS0, ↓q_callV0, ↓q_callI0, ↓q_callS1, ↓q_callV1, ↓q_callI1, ↓q_callS2, ↓q_callV2, ↓q_callI2, ↓q_callS3, ↓q_callV3, ↓q_callI3, ↓q_callS4, ↓q_callV4, ↓q_callI4, ↓q_callS5, ↓q_callV5, ↓q_callI5, ↓q_callS6, ↓q_callV6, ↓q_callI6, ↓q_callS7, ↓q_callV7, ↓q_callI7, ↓q_callS8, ↓q_callV8, ↓q_callI8, ↓q_iret, ↓q_lret, ↓q_vret, q_e_i_int, q_e_l_long, q_e_a_ref, q_e_a_null, q_cat_int, q_cat_ref, q_cat_null, q_cat_long, q_na_int, q_lgt_z, q_lgt_s, q_lst0, q_lst1, q_lstS, q_lst20, q_lst21, q_lst2S, q_clr_i, q_clr_r, q_clr_n, q_clr_0, q_clr_l, q_cv_i, q_cv_l, q_cv_r, q_rv_s, q_rv_n, q_toL_s, q_toL_n, true_and, and_true, Nat.reduceAdd]
  refine ⟨fun h => ?_, fun h => ?_⟩
  · refine go_wp B_M_allowed_19_ok ?_; simp only [B_M_allowed_19, ↓q_nil, ↓q_iconst, ↓q_bipush, ↓q_sipush, ↓q_ldc, ↓q_lconst, ↓q_ldc2, ↓q_null, ↓q_iload, ↓q_iload_n, ↓q_lload, ↓q_lload_n, ↓q_aload, ↓q_aload_n, ↓q_istore, ↓q_istore_n, ↓q_lstore, ↓q_lstore_n, ↓q_astore, ↓q_astore_n, ↓q_iinc, ↓q_iadd, ↓q_isub, ↓q_imul, ↓q_iand, ↓q_idiv, ↓q_irem, ↓q_ineg, ↓q_ladd, ↓q_lsub, ↓q_lmul, ↓q_land, ↓q_ldiv, ↓q_lrem, ↓q_i2l, ↓q_l2i, ↓q_dup, ↓q_pop, ↓q_dup2, ↓q_dup_x1, ↓q_goto, ↓q_if_eq, ↓q_if_ne, ↓q_if_lt, ↓q_if_ge, ↓q_if_gt, ↓q_if_le, ↓q_icmp_eq, ↓q_icmp_ne, ↓q_icmp_lt, ↓q_icmp_ge, ↓q_icmp_gt, ↓q_icmp_le, ↓q_ifnullN, ↓q_ifnull, ↓q_ifnonnullN, ↓q_ifnonnull, ↓q_table, ↓q_lookup, ↓q_getf, ↓q_putI, ↓q_putJ, ↓q_putR, ↓q_iald, ↓q_sld, ↓q_slen, ↓q_alen, ↓q_iast, ↓q_bald, ↓q_bast, ↓q_aald, ↓q_aast, ↓q_newa, ↓q_newq, ↓q_new, ↓q_objInit, ↓q_max, ↓q_min, ↓q_copy, ↓q_callS0, ↓q_callV0, ↓q_callI0, ↓q_callS1, ↓q_callV1, ↓q_callI1, ↓q_callS2, ↓q_callV2, ↓q_callI2, ↓q_callS3, ↓q_callV3, ↓q_callI3, ↓q_callS4, ↓q_callV4, ↓q_callI4, ↓q_callS5, ↓q_callV5, ↓q_callI5, ↓q_callS6, ↓q_callV6, ↓q_callI6, ↓q_callS7, ↓q_callV7, ↓q_callI7, ↓q_callS8, ↓q_callV8, ↓q_callI8, ↓q_iret, ↓q_lret, ↓q_vret, q_e_i_int, q_e_l_long, q_e_a_ref, q_e_a_null, q_cat_int, q_cat_ref, q_cat_null, q_cat_long, q_na_int, q_lgt_z, q_lgt_s, q_lst0, q_lst1, q_lstS, q_lst20, q_lst21, q_lst2S, q_clr_i, q_clr_r, q_clr_n, q_clr_0, q_clr_l, q_cv_i, q_cv_l, q_cv_r, q_rv_s, q_rv_n, q_toL_s, q_toL_n, true_and, and_true, Nat.reduceAdd, alw, if_pos h]
    exact ⟨rfl, rfl, rfl, rfl⟩
  · refine go_wp B_M_allowed_11_ok ?_; simp only [B_M_allowed_11, ↓q_nil, ↓q_iconst, ↓q_bipush, ↓q_sipush, ↓q_ldc, ↓q_lconst, ↓q_ldc2, ↓q_null, ↓q_iload, ↓q_iload_n, ↓q_lload, ↓q_lload_n, ↓q_aload, ↓q_aload_n, ↓q_istore, ↓q_istore_n, ↓q_lstore, ↓q_lstore_n, ↓q_astore, ↓q_astore_n, ↓q_iinc, ↓q_iadd, ↓q_isub, ↓q_imul, ↓q_iand, ↓q_idiv, ↓q_irem, ↓q_ineg, ↓q_ladd, ↓q_lsub, ↓q_lmul, ↓q_land, ↓q_ldiv, ↓q_lrem, ↓q_i2l, ↓q_l2i, ↓q_dup, ↓q_pop, ↓q_dup2, ↓q_dup_x1, ↓q_goto, ↓q_if_eq, ↓q_if_ne, ↓q_if_lt, ↓q_if_ge, ↓q_if_gt, ↓q_if_le, ↓q_icmp_eq, ↓q_icmp_ne, ↓q_icmp_lt, ↓q_icmp_ge, ↓q_icmp_gt, ↓q_icmp_le, ↓q_ifnullN, ↓q_ifnull, ↓q_ifnonnullN, ↓q_ifnonnull, ↓q_table, ↓q_lookup, ↓q_getf, ↓q_putI, ↓q_putJ, ↓q_putR, ↓q_iald, ↓q_sld, ↓q_slen, ↓q_alen, ↓q_iast, ↓q_bald, ↓q_bast, ↓q_aald, ↓q_aast, ↓q_newa, ↓q_newq, ↓q_new, ↓q_objInit, ↓q_max, ↓q_min, ↓q_copy, ↓q_callS0, ↓q_callV0, ↓q_callI0, ↓q_callS1, ↓q_callV1, ↓q_callI1, ↓q_callS2, ↓q_callV2, ↓q_callI2, ↓q_callS3, ↓q_callV3, ↓q_callI3, ↓q_callS4, ↓q_callV4, ↓q_callI4, ↓q_callS5, ↓q_callV5, ↓q_callI5, ↓q_callS6, ↓q_callV6, ↓q_callI6, ↓q_callS7, ↓q_callV7, ↓q_callI7, ↓q_callS8, ↓q_callV8, ↓q_callI8, ↓q_iret, ↓q_lret, ↓q_vret, q_e_i_int, q_e_l_long, q_e_a_ref, q_e_a_null, q_cat_int, q_cat_ref, q_cat_null, q_cat_long, q_na_int, q_lgt_z, q_lgt_s, q_lst0, q_lst1, q_lstS, q_lst20, q_lst21, q_lst2S, q_clr_i, q_clr_r, q_clr_n, q_clr_0, q_clr_l, q_cv_i, q_cv_l, q_cv_r, q_rv_s, q_rv_n, q_toL_s, q_toL_n, true_and, and_true, Nat.reduceAdd]
    refine ⟨by decide, ?_⟩
    refine go_wp B_M_allowed_19_ok ?_; simp only [B_M_allowed_19, ↓q_nil, ↓q_iconst, ↓q_bipush, ↓q_sipush, ↓q_ldc, ↓q_lconst, ↓q_ldc2, ↓q_null, ↓q_iload, ↓q_iload_n, ↓q_lload, ↓q_lload_n, ↓q_aload, ↓q_aload_n, ↓q_istore, ↓q_istore_n, ↓q_lstore, ↓q_lstore_n, ↓q_astore, ↓q_astore_n, ↓q_iinc, ↓q_iadd, ↓q_isub, ↓q_imul, ↓q_iand, ↓q_idiv, ↓q_irem, ↓q_ineg, ↓q_ladd, ↓q_lsub, ↓q_lmul, ↓q_land, ↓q_ldiv, ↓q_lrem, ↓q_i2l, ↓q_l2i, ↓q_dup, ↓q_pop, ↓q_dup2, ↓q_dup_x1, ↓q_goto, ↓q_if_eq, ↓q_if_ne, ↓q_if_lt, ↓q_if_ge, ↓q_if_gt, ↓q_if_le, ↓q_icmp_eq, ↓q_icmp_ne, ↓q_icmp_lt, ↓q_icmp_ge, ↓q_icmp_gt, ↓q_icmp_le, ↓q_ifnullN, ↓q_ifnull, ↓q_ifnonnullN, ↓q_ifnonnull, ↓q_table, ↓q_lookup, ↓q_getf, ↓q_putI, ↓q_putJ, ↓q_putR, ↓q_iald, ↓q_sld, ↓q_slen, ↓q_alen, ↓q_iast, ↓q_bald, ↓q_bast, ↓q_aald, ↓q_aast, ↓q_newa, ↓q_newq, ↓q_new, ↓q_objInit, ↓q_max, ↓q_min, ↓q_copy, ↓q_callS0, ↓q_callV0, ↓q_callI0, ↓q_callS1, ↓q_callV1, ↓q_callI1, ↓q_callS2, ↓q_callV2, ↓q_callI2, ↓q_callS3, ↓q_callV3, ↓q_callI3, ↓q_callS4, ↓q_callV4, ↓q_callI4, ↓q_callS5, ↓q_callV5, ↓q_callI5, ↓q_callS6, ↓q_callV6, ↓q_callI6, ↓q_callS7, ↓q_callV7, ↓q_callI7, ↓q_callS8, ↓q_callV8, ↓q_callI8, ↓q_iret, ↓q_lret, ↓q_vret, q_e_i_int, q_e_l_long, q_e_a_ref, q_e_a_null, q_cat_int, q_cat_ref, q_cat_null, q_cat_long, q_na_int, q_lgt_z, q_lgt_s, q_lst0, q_lst1, q_lstS, q_lst20, q_lst21, q_lst2S, q_clr_i, q_clr_r, q_clr_n, q_clr_0, q_clr_l, q_cv_i, q_cv_l, q_cv_r, q_rv_s, q_rv_n, q_toL_s, q_toL_n, true_and, and_true, Nat.reduceAdd, alw, if_neg h]
    exact ⟨rfl, rfl, rfl, rfl⟩
end
end
section
/-! the reference: nearer, isCar, before, gapIn -/
def nrr (a f q : Int32) (p : Prop) [Decidable p] : Int32 := if p ∧ f ≤ q then lsr a (q - f) else a
def oV : Option Nat → Int32
  | none => -1
  | some k => nI k
abbrev m_ahead (c : Nat → Int32) (a : Nat) (l : Int32) (k : Nat) : Prop := k ≠ a ∧ (pt c 2 k = 1 ∧ pt c 1 k = l) ∧ pt c 3 a < pt c 3 k
def m_ls (c : Nat → Int32) (k : Nat) : Option Nat → Bool
  | none => true
  | some f => decide (rr c k < rr c f)
/-- the car before car a in lane l, among the first k -/
def m_bef (c : Nat → Int32) (a : Nat) (l : Int32) : Nat → Option Nat
  | 0 => none
  | k + 1 => if m_ahead c a l k ∧ m_ls c k (m_bef c a l k) = true then some k else m_bef c a l k
theorem m_bef_lt {c : Nat → Int32} {a : Nat} {l : Int32} : ∀ (k f : Nat), m_bef c a l k = some f → f < k
  | 0, f, h => by cases h
  | k + 1, f, h => by
    rw [m_bef] at h
    split at h
    · cases h; exact Nat.lt_succ_self k
    · exact Nat.lt_succ_of_lt (m_bef_lt k f h)
theorem nI_inc (k : Nat) : nI k + 1 = nI (k + 1) := nI_1 k
theorem oV_neg {o : Option Nat} (ho : ∀ f, o = some f → f < 60) : oV o < 0 ↔ o = none := by
  cases o with
  | none => exact ⟨fun _ => rfl, fun _ => by decide⟩
  | some f => exact ⟨fun h => absurd h (nI_pos (by have := ho f rfl; omega)), fun h => by cases h⟩
section
variable {g : GT} {n z : Nat} {S : Nat → Nat × Nat} {I : Nat → Nat → Int32} {J : Nat → Nat → Int64} {R : Nat → Nat → Option Nat}
set_option maxRecDepth 100000 in set_option maxHeartbeats 4000000 in
theorem c_nearer {a f q : Int32} (p : Prop) [Decidable p] : Cn g M_M_nearer 1 0 0 [.int a, .int f, .int q, .int (bI p)] (n, z, S, I, J, R) (Is (some (.int (nrr a f q p))) (n, z, S, I, J, R)) := by
  refine cn_go (ls := [some (.int a), some (.int f), some (.int q), some (.int (bI p))]) kc_M_nearer (by decide) rfl rfl ?_
  by_cases hp : p
  · rw [bI_t hp]
    refine go_wp B_M_nearer_0_ok ?_; simp only [B_M_nearer_0, ↓q_nil, ↓q_iconst, ↓q_bipush, ↓q_sipush, ↓q_ldc, ↓q_lconst, ↓q_ldc2, ↓q_null, ↓q_iload, ↓q_iload_n, ↓q_lload, ↓q_lload_n, ↓q_aload, ↓q_aload_n, ↓q_istore, ↓q_istore_n, ↓q_lstore, ↓q_lstore_n, ↓q_astore, ↓q_astore_n, ↓q_iinc, ↓q_iadd, ↓q_isub, ↓q_imul, ↓q_iand, ↓q_idiv, ↓q_irem, ↓q_ineg, ↓q_ladd, ↓q_lsub, ↓q_lmul, ↓q_land, ↓q_ldiv, ↓q_lrem, ↓q_i2l, ↓q_l2i, ↓q_dup, ↓q_pop, ↓q_dup2, ↓q_dup_x1, ↓q_goto, ↓q_if_eq, ↓q_if_ne, ↓q_if_lt, ↓q_if_ge, ↓q_if_gt, ↓q_if_le, ↓q_icmp_eq, ↓q_icmp_ne, ↓q_icmp_lt, ↓q_icmp_ge, ↓q_icmp_gt, ↓q_icmp_le, ↓q_ifnullN, ↓q_ifnull, ↓q_ifnonnullN, ↓q_ifnonnull, ↓q_table, ↓q_lookup, ↓q_getf, ↓q_putI, ↓q_putJ, ↓q_putR, ↓q_iald, ↓q_sld, ↓q_slen, ↓q_alen, ↓q_iast, ↓q_bald, ↓q_bast, ↓q_aald, ↓q_aast, ↓q_newa, ↓q_newq, ↓q_new, ↓q_objInit, ↓q_max, ↓q_min, ↓q_copy, ↓q_callS0, ↓q_callV0, ↓q_callI0, ↓q_callS1, ↓q_callV1, ↓q_callI1, ↓q_callS2, ↓q_callV2, ↓q_callI2, ↓q_callS3, ↓q_callV3, ↓q_callI3, ↓q_callS4, ↓q_callV4, ↓q_callI4, ↓q_callS5, ↓q_callV5, ↓q_callI5, ↓q_callS6, ↓q_callV6, ↓q_callI6, ↓q_callS7, ↓q_callV7, ↓q_callI7, ↓q_callS8, ↓q_callV8, ↓q_callI8, ↓q_iret, ↓q_lret, ↓q_vret, q_e_i_int, q_e_l_long, q_e_a_ref, q_e_a_null, q_cat_int, q_cat_ref, q_cat_null, q_cat_long, q_na_int, q_lgt_z, q_lgt_s, q_lst0, q_lst1, q_lstS, q_lst20, q_lst21, q_lst2S, q_clr_i, q_clr_r, q_clr_n, q_clr_0, q_clr_l, q_cv_i, q_cv_l, q_cv_r, q_rv_s, q_rv_n, q_toL_s, q_toL_n, true_and, and_true, Nat.reduceAdd]
    refine ⟨fun h => absurd h (by decide), fun _ => ⟨fun h => ?_, fun h => ?_⟩⟩
    · refine go_wp B_M_nearer_19_ok ?_; simp only [B_M_nearer_19, ↓q_nil, ↓q_iconst, ↓q_bipush, ↓q_sipush, ↓q_ldc, ↓q_lconst, ↓q_ldc2, ↓q_null, ↓q_iload, ↓q_iload_n, ↓q_lload, ↓q_lload_n, ↓q_aload, ↓q_aload_n, ↓q_istore, ↓q_istore_n, ↓q_lstore, ↓q_lstore_n, ↓q_astore, ↓q_astore_n, ↓q_iinc, ↓q_iadd, ↓q_isub, ↓q_imul, ↓q_iand, ↓q_idiv, ↓q_irem, ↓q_ineg, ↓q_ladd, ↓q_lsub, ↓q_lmul, ↓q_land, ↓q_ldiv, ↓q_lrem, ↓q_i2l, ↓q_l2i, ↓q_dup, ↓q_pop, ↓q_dup2, ↓q_dup_x1, ↓q_goto, ↓q_if_eq, ↓q_if_ne, ↓q_if_lt, ↓q_if_ge, ↓q_if_gt, ↓q_if_le, ↓q_icmp_eq, ↓q_icmp_ne, ↓q_icmp_lt, ↓q_icmp_ge, ↓q_icmp_gt, ↓q_icmp_le, ↓q_ifnullN, ↓q_ifnull, ↓q_ifnonnullN, ↓q_ifnonnull, ↓q_table, ↓q_lookup, ↓q_getf, ↓q_putI, ↓q_putJ, ↓q_putR, ↓q_iald, ↓q_sld, ↓q_slen, ↓q_alen, ↓q_iast, ↓q_bald, ↓q_bast, ↓q_aald, ↓q_aast, ↓q_newa, ↓q_newq, ↓q_new, ↓q_objInit, ↓q_max, ↓q_min, ↓q_copy, ↓q_callS0, ↓q_callV0, ↓q_callI0, ↓q_callS1, ↓q_callV1, ↓q_callI1, ↓q_callS2, ↓q_callV2, ↓q_callI2, ↓q_callS3, ↓q_callV3, ↓q_callI3, ↓q_callS4, ↓q_callV4, ↓q_callI4, ↓q_callS5, ↓q_callV5, ↓q_callI5, ↓q_callS6, ↓q_callV6, ↓q_callI6, ↓q_callS7, ↓q_callV7, ↓q_callI7, ↓q_callS8, ↓q_callV8, ↓q_callI8, ↓q_iret, ↓q_lret, ↓q_vret, q_e_i_int, q_e_l_long, q_e_a_ref, q_e_a_null, q_cat_int, q_cat_ref, q_cat_null, q_cat_long, q_na_int, q_lgt_z, q_lgt_s, q_lst0, q_lst1, q_lstS, q_lst20, q_lst21, q_lst2S, q_clr_i, q_clr_r, q_clr_n, q_clr_0, q_clr_l, q_cv_i, q_cv_l, q_cv_r, q_rv_s, q_rv_n, q_toL_s, q_toL_n, true_and, and_true, Nat.reduceAdd]
      refine go_wp B_M_nearer_20_ok ?_; simp only [B_M_nearer_20, ↓q_nil, ↓q_iconst, ↓q_bipush, ↓q_sipush, ↓q_ldc, ↓q_lconst, ↓q_ldc2, ↓q_null, ↓q_iload, ↓q_iload_n, ↓q_lload, ↓q_lload_n, ↓q_aload, ↓q_aload_n, ↓q_istore, ↓q_istore_n, ↓q_lstore, ↓q_lstore_n, ↓q_astore, ↓q_astore_n, ↓q_iinc, ↓q_iadd, ↓q_isub, ↓q_imul, ↓q_iand, ↓q_idiv, ↓q_irem, ↓q_ineg, ↓q_ladd, ↓q_lsub, ↓q_lmul, ↓q_land, ↓q_ldiv, ↓q_lrem, ↓q_i2l, ↓q_l2i, ↓q_dup, ↓q_pop, ↓q_dup2, ↓q_dup_x1, ↓q_goto, ↓q_if_eq, ↓q_if_ne, ↓q_if_lt, ↓q_if_ge, ↓q_if_gt, ↓q_if_le, ↓q_icmp_eq, ↓q_icmp_ne, ↓q_icmp_lt, ↓q_icmp_ge, ↓q_icmp_gt, ↓q_icmp_le, ↓q_ifnullN, ↓q_ifnull, ↓q_ifnonnullN, ↓q_ifnonnull, ↓q_table, ↓q_lookup, ↓q_getf, ↓q_putI, ↓q_putJ, ↓q_putR, ↓q_iald, ↓q_sld, ↓q_slen, ↓q_alen, ↓q_iast, ↓q_bald, ↓q_bast, ↓q_aald, ↓q_aast, ↓q_newa, ↓q_newq, ↓q_new, ↓q_objInit, ↓q_max, ↓q_min, ↓q_copy, ↓q_callS0, ↓q_callV0, ↓q_callI0, ↓q_callS1, ↓q_callV1, ↓q_callI1, ↓q_callS2, ↓q_callV2, ↓q_callI2, ↓q_callS3, ↓q_callV3, ↓q_callI3, ↓q_callS4, ↓q_callV4, ↓q_callI4, ↓q_callS5, ↓q_callV5, ↓q_callI5, ↓q_callS6, ↓q_callV6, ↓q_callI6, ↓q_callS7, ↓q_callV7, ↓q_callI7, ↓q_callS8, ↓q_callV8, ↓q_callI8, ↓q_iret, ↓q_lret, ↓q_vret, q_e_i_int, q_e_l_long, q_e_a_ref, q_e_a_null, q_cat_int, q_cat_ref, q_cat_null, q_cat_long, q_na_int, q_lgt_z, q_lgt_s, q_lst0, q_lst1, q_lstS, q_lst20, q_lst21, q_lst2S, q_clr_i, q_clr_r, q_clr_n, q_clr_0, q_clr_l, q_cv_i, q_cv_l, q_cv_r, q_rv_s, q_rv_n, q_toL_s, q_toL_n, true_and, and_true, Nat.reduceAdd, na_int, nrr, if_neg (show ¬ (p ∧ f ≤ q) from fun e => Int32.not_lt.mpr e.2 h)]
      exact ⟨rfl, rfl, rfl, rfl⟩
    · refine call_ro (c_lesser) (by decide) rfl (Nat.le_refl _) (Nat.le_refl _) ?_
      simp only [↓q_nil, ↓q_iconst, ↓q_bipush, ↓q_sipush, ↓q_ldc, ↓q_lconst, ↓q_ldc2, ↓q_null, ↓q_iload, ↓q_iload_n, ↓q_lload, ↓q_lload_n, ↓q_aload, ↓q_aload_n, ↓q_istore, ↓q_istore_n, ↓q_lstore, ↓q_lstore_n, ↓q_astore, ↓q_astore_n, ↓q_iinc, ↓q_iadd, ↓q_isub, ↓q_imul, ↓q_iand, ↓q_idiv, ↓q_irem, ↓q_ineg, ↓q_ladd, ↓q_lsub, ↓q_lmul, ↓q_land, ↓q_ldiv, ↓q_lrem, ↓q_i2l, ↓q_l2i, ↓q_dup, ↓q_pop, ↓q_dup2, ↓q_dup_x1, ↓q_goto, ↓q_if_eq, ↓q_if_ne, ↓q_if_lt, ↓q_if_ge, ↓q_if_gt, ↓q_if_le, ↓q_icmp_eq, ↓q_icmp_ne, ↓q_icmp_lt, ↓q_icmp_ge, ↓q_icmp_gt, ↓q_icmp_le, ↓q_ifnullN, ↓q_ifnull, ↓q_ifnonnullN, ↓q_ifnonnull, ↓q_table, ↓q_lookup, ↓q_getf, ↓q_putI, ↓q_putJ, ↓q_putR, ↓q_iald, ↓q_sld, ↓q_slen, ↓q_alen, ↓q_iast, ↓q_bald, ↓q_bast, ↓q_aald, ↓q_aast, ↓q_newa, ↓q_newq, ↓q_new, ↓q_objInit, ↓q_max, ↓q_min, ↓q_copy, ↓q_callS0, ↓q_callV0, ↓q_callI0, ↓q_callS1, ↓q_callV1, ↓q_callI1, ↓q_callS2, ↓q_callV2, ↓q_callI2, ↓q_callS3, ↓q_callV3, ↓q_callI3, ↓q_callS4, ↓q_callV4, ↓q_callI4, ↓q_callS5, ↓q_callV5, ↓q_callI5, ↓q_callS6, ↓q_callV6, ↓q_callI6, ↓q_callS7, ↓q_callV7, ↓q_callI7, ↓q_callS8, ↓q_callV8, ↓q_callI8, ↓q_iret, ↓q_lret, ↓q_vret, q_e_i_int, q_e_l_long, q_e_a_ref, q_e_a_null, q_cat_int, q_cat_ref, q_cat_null, q_cat_long, q_na_int, q_lgt_z, q_lgt_s, q_lst0, q_lst1, q_lstS, q_lst20, q_lst21, q_lst2S, q_clr_i, q_clr_r, q_clr_n, q_clr_0, q_clr_l, q_cv_i, q_cv_l, q_cv_r, q_rv_s, q_rv_n, q_toL_s, q_toL_n, true_and, and_true, Nat.reduceAdd]
      refine go_wp B_M_nearer_20_ok ?_; simp only [B_M_nearer_20, ↓q_nil, ↓q_iconst, ↓q_bipush, ↓q_sipush, ↓q_ldc, ↓q_lconst, ↓q_ldc2, ↓q_null, ↓q_iload, ↓q_iload_n, ↓q_lload, ↓q_lload_n, ↓q_aload, ↓q_aload_n, ↓q_istore, ↓q_istore_n, ↓q_lstore, ↓q_lstore_n, ↓q_astore, ↓q_astore_n, ↓q_iinc, ↓q_iadd, ↓q_isub, ↓q_imul, ↓q_iand, ↓q_idiv, ↓q_irem, ↓q_ineg, ↓q_ladd, ↓q_lsub, ↓q_lmul, ↓q_land, ↓q_ldiv, ↓q_lrem, ↓q_i2l, ↓q_l2i, ↓q_dup, ↓q_pop, ↓q_dup2, ↓q_dup_x1, ↓q_goto, ↓q_if_eq, ↓q_if_ne, ↓q_if_lt, ↓q_if_ge, ↓q_if_gt, ↓q_if_le, ↓q_icmp_eq, ↓q_icmp_ne, ↓q_icmp_lt, ↓q_icmp_ge, ↓q_icmp_gt, ↓q_icmp_le, ↓q_ifnullN, ↓q_ifnull, ↓q_ifnonnullN, ↓q_ifnonnull, ↓q_table, ↓q_lookup, ↓q_getf, ↓q_putI, ↓q_putJ, ↓q_putR, ↓q_iald, ↓q_sld, ↓q_slen, ↓q_alen, ↓q_iast, ↓q_bald, ↓q_bast, ↓q_aald, ↓q_aast, ↓q_newa, ↓q_newq, ↓q_new, ↓q_objInit, ↓q_max, ↓q_min, ↓q_copy, ↓q_callS0, ↓q_callV0, ↓q_callI0, ↓q_callS1, ↓q_callV1, ↓q_callI1, ↓q_callS2, ↓q_callV2, ↓q_callI2, ↓q_callS3, ↓q_callV3, ↓q_callI3, ↓q_callS4, ↓q_callV4, ↓q_callI4, ↓q_callS5, ↓q_callV5, ↓q_callI5, ↓q_callS6, ↓q_callV6, ↓q_callI6, ↓q_callS7, ↓q_callV7, ↓q_callI7, ↓q_callS8, ↓q_callV8, ↓q_callI8, ↓q_iret, ↓q_lret, ↓q_vret, q_e_i_int, q_e_l_long, q_e_a_ref, q_e_a_null, q_cat_int, q_cat_ref, q_cat_null, q_cat_long, q_na_int, q_lgt_z, q_lgt_s, q_lst0, q_lst1, q_lstS, q_lst20, q_lst21, q_lst2S, q_clr_i, q_clr_r, q_clr_n, q_clr_0, q_clr_l, q_cv_i, q_cv_l, q_cv_r, q_rv_s, q_rv_n, q_toL_s, q_toL_n, true_and, and_true, Nat.reduceAdd, na_int, nrr, if_pos (show p ∧ f ≤ q from ⟨hp, Int32.not_lt.mp h⟩)]
      exact ⟨rfl, rfl, rfl, rfl⟩
  · rw [bI_f hp]
    refine go_wp B_M_nearer_0_ok ?_; simp only [B_M_nearer_0, ↓q_nil, ↓q_iconst, ↓q_bipush, ↓q_sipush, ↓q_ldc, ↓q_lconst, ↓q_ldc2, ↓q_null, ↓q_iload, ↓q_iload_n, ↓q_lload, ↓q_lload_n, ↓q_aload, ↓q_aload_n, ↓q_istore, ↓q_istore_n, ↓q_lstore, ↓q_lstore_n, ↓q_astore, ↓q_astore_n, ↓q_iinc, ↓q_iadd, ↓q_isub, ↓q_imul, ↓q_iand, ↓q_idiv, ↓q_irem, ↓q_ineg, ↓q_ladd, ↓q_lsub, ↓q_lmul, ↓q_land, ↓q_ldiv, ↓q_lrem, ↓q_i2l, ↓q_l2i, ↓q_dup, ↓q_pop, ↓q_dup2, ↓q_dup_x1, ↓q_goto, ↓q_if_eq, ↓q_if_ne, ↓q_if_lt, ↓q_if_ge, ↓q_if_gt, ↓q_if_le, ↓q_icmp_eq, ↓q_icmp_ne, ↓q_icmp_lt, ↓q_icmp_ge, ↓q_icmp_gt, ↓q_icmp_le, ↓q_ifnullN, ↓q_ifnull, ↓q_ifnonnullN, ↓q_ifnonnull, ↓q_table, ↓q_lookup, ↓q_getf, ↓q_putI, ↓q_putJ, ↓q_putR, ↓q_iald, ↓q_sld, ↓q_slen, ↓q_alen, ↓q_iast, ↓q_bald, ↓q_bast, ↓q_aald, ↓q_aast, ↓q_newa, ↓q_newq, ↓q_new, ↓q_objInit, ↓q_max, ↓q_min, ↓q_copy, ↓q_callS0, ↓q_callV0, ↓q_callI0, ↓q_callS1, ↓q_callV1, ↓q_callI1, ↓q_callS2, ↓q_callV2, ↓q_callI2, ↓q_callS3, ↓q_callV3, ↓q_callI3, ↓q_callS4, ↓q_callV4, ↓q_callI4, ↓q_callS5, ↓q_callV5, ↓q_callI5, ↓q_callS6, ↓q_callV6, ↓q_callI6, ↓q_callS7, ↓q_callV7, ↓q_callI7, ↓q_callS8, ↓q_callV8, ↓q_callI8, ↓q_iret, ↓q_lret, ↓q_vret, q_e_i_int, q_e_l_long, q_e_a_ref, q_e_a_null, q_cat_int, q_cat_ref, q_cat_null, q_cat_long, q_na_int, q_lgt_z, q_lgt_s, q_lst0, q_lst1, q_lstS, q_lst20, q_lst21, q_lst2S, q_clr_i, q_clr_r, q_clr_n, q_clr_0, q_clr_l, q_cv_i, q_cv_l, q_cv_r, q_rv_s, q_rv_n, q_toL_s, q_toL_n, true_and, and_true, Nat.reduceAdd]
    refine ⟨fun _ => ?_, fun h => by first | exact absurd rfl h | exact absurd trivial h⟩
    refine go_wp B_M_nearer_19_ok ?_; simp only [B_M_nearer_19, ↓q_nil, ↓q_iconst, ↓q_bipush, ↓q_sipush, ↓q_ldc, ↓q_lconst, ↓q_ldc2, ↓q_null, ↓q_iload, ↓q_iload_n, ↓q_lload, ↓q_lload_n, ↓q_aload, ↓q_aload_n, ↓q_istore, ↓q_istore_n, ↓q_lstore, ↓q_lstore_n, ↓q_astore, ↓q_astore_n, ↓q_iinc, ↓q_iadd, ↓q_isub, ↓q_imul, ↓q_iand, ↓q_idiv, ↓q_irem, ↓q_ineg, ↓q_ladd, ↓q_lsub, ↓q_lmul, ↓q_land, ↓q_ldiv, ↓q_lrem, ↓q_i2l, ↓q_l2i, ↓q_dup, ↓q_pop, ↓q_dup2, ↓q_dup_x1, ↓q_goto, ↓q_if_eq, ↓q_if_ne, ↓q_if_lt, ↓q_if_ge, ↓q_if_gt, ↓q_if_le, ↓q_icmp_eq, ↓q_icmp_ne, ↓q_icmp_lt, ↓q_icmp_ge, ↓q_icmp_gt, ↓q_icmp_le, ↓q_ifnullN, ↓q_ifnull, ↓q_ifnonnullN, ↓q_ifnonnull, ↓q_table, ↓q_lookup, ↓q_getf, ↓q_putI, ↓q_putJ, ↓q_putR, ↓q_iald, ↓q_sld, ↓q_slen, ↓q_alen, ↓q_iast, ↓q_bald, ↓q_bast, ↓q_aald, ↓q_aast, ↓q_newa, ↓q_newq, ↓q_new, ↓q_objInit, ↓q_max, ↓q_min, ↓q_copy, ↓q_callS0, ↓q_callV0, ↓q_callI0, ↓q_callS1, ↓q_callV1, ↓q_callI1, ↓q_callS2, ↓q_callV2, ↓q_callI2, ↓q_callS3, ↓q_callV3, ↓q_callI3, ↓q_callS4, ↓q_callV4, ↓q_callI4, ↓q_callS5, ↓q_callV5, ↓q_callI5, ↓q_callS6, ↓q_callV6, ↓q_callI6, ↓q_callS7, ↓q_callV7, ↓q_callI7, ↓q_callS8, ↓q_callV8, ↓q_callI8, ↓q_iret, ↓q_lret, ↓q_vret, q_e_i_int, q_e_l_long, q_e_a_ref, q_e_a_null, q_cat_int, q_cat_ref, q_cat_null, q_cat_long, q_na_int, q_lgt_z, q_lgt_s, q_lst0, q_lst1, q_lstS, q_lst20, q_lst21, q_lst2S, q_clr_i, q_clr_r, q_clr_n, q_clr_0, q_clr_l, q_cv_i, q_cv_l, q_cv_r, q_rv_s, q_rv_n, q_toL_s, q_toL_n, true_and, and_true, Nat.reduceAdd]
    refine go_wp B_M_nearer_20_ok ?_; simp only [B_M_nearer_20, ↓q_nil, ↓q_iconst, ↓q_bipush, ↓q_sipush, ↓q_ldc, ↓q_lconst, ↓q_ldc2, ↓q_null, ↓q_iload, ↓q_iload_n, ↓q_lload, ↓q_lload_n, ↓q_aload, ↓q_aload_n, ↓q_istore, ↓q_istore_n, ↓q_lstore, ↓q_lstore_n, ↓q_astore, ↓q_astore_n, ↓q_iinc, ↓q_iadd, ↓q_isub, ↓q_imul, ↓q_iand, ↓q_idiv, ↓q_irem, ↓q_ineg, ↓q_ladd, ↓q_lsub, ↓q_lmul, ↓q_land, ↓q_ldiv, ↓q_lrem, ↓q_i2l, ↓q_l2i, ↓q_dup, ↓q_pop, ↓q_dup2, ↓q_dup_x1, ↓q_goto, ↓q_if_eq, ↓q_if_ne, ↓q_if_lt, ↓q_if_ge, ↓q_if_gt, ↓q_if_le, ↓q_icmp_eq, ↓q_icmp_ne, ↓q_icmp_lt, ↓q_icmp_ge, ↓q_icmp_gt, ↓q_icmp_le, ↓q_ifnullN, ↓q_ifnull, ↓q_ifnonnullN, ↓q_ifnonnull, ↓q_table, ↓q_lookup, ↓q_getf, ↓q_putI, ↓q_putJ, ↓q_putR, ↓q_iald, ↓q_sld, ↓q_slen, ↓q_alen, ↓q_iast, ↓q_bald, ↓q_bast, ↓q_aald, ↓q_aast, ↓q_newa, ↓q_newq, ↓q_new, ↓q_objInit, ↓q_max, ↓q_min, ↓q_copy, ↓q_callS0, ↓q_callV0, ↓q_callI0, ↓q_callS1, ↓q_callV1, ↓q_callI1, ↓q_callS2, ↓q_callV2, ↓q_callI2, ↓q_callS3, ↓q_callV3, ↓q_callI3, ↓q_callS4, ↓q_callV4, ↓q_callI4, ↓q_callS5, ↓q_callV5, ↓q_callI5, ↓q_callS6, ↓q_callV6, ↓q_callI6, ↓q_callS7, ↓q_callV7, ↓q_callI7, ↓q_callS8, ↓q_callV8, ↓q_callI8, ↓q_iret, ↓q_lret, ↓q_vret, q_e_i_int, q_e_l_long, q_e_a_ref, q_e_a_null, q_cat_int, q_cat_ref, q_cat_null, q_cat_long, q_na_int, q_lgt_z, q_lgt_s, q_lst0, q_lst1, q_lstS, q_lst20, q_lst21, q_lst2S, q_clr_i, q_clr_r, q_clr_n, q_clr_0, q_clr_l, q_cv_i, q_cv_l, q_cv_r, q_rv_s, q_rv_n, q_toL_s, q_toL_n, true_and, and_true, Nat.reduceAdd, na_int, nrr, if_neg (show ¬ (p ∧ f ≤ q) from fun e => hp e.1)]
    exact ⟨rfl, rfl, rfl, rfl⟩
set_option maxRecDepth 100000 in set_option maxHeartbeats 4000000 in
theorem c_isCar (hs : ShM S R) {a : Int32} : Cn g M_M_isCar 1 0 0 [.ref (gB g + 33), .int a] (n, z, S, I, J, R) (Is (some (.int (bI (0 ≤ a ∧ a < I 34 0)))) (n, z, S, I, J, R)) := by
  have hs' := hs; obtain ⟨⟨s33, s34, s35, s36, s37, s38, s39, s40, s41, s42, s43, s44, s45, s46⟩, r33_3, r33_4, r33_6, r33_7, r33_8, r33_10, r33_11, r33_12, r33_13, r33_15, r33_16, r33_18, r33_19⟩ := hs'
  refine cn_go (ls := [some (.ref (gB g + 33)), some (.int a)]) kc_M_isCar (by decide) rfl rfl ?_
  refine go_wp B_M_isCar_0_ok ?_; simp only [B_M_isCar_0, ↓q_nil, ↓q_iconst, ↓q_bipush, ↓q_sipush, ↓q_ldc, ↓q_lconst, ↓q_ldc2, ↓q_null, ↓q_iload, ↓q_iload_n, ↓q_lload, ↓q_lload_n, ↓q_aload, ↓q_aload_n, ↓q_istore, ↓q_istore_n, ↓q_lstore, ↓q_lstore_n, ↓q_astore, ↓q_astore_n, ↓q_iinc, ↓q_iadd, ↓q_isub, ↓q_imul, ↓q_iand, ↓q_idiv, ↓q_irem, ↓q_ineg, ↓q_ladd, ↓q_lsub, ↓q_lmul, ↓q_land, ↓q_ldiv, ↓q_lrem, ↓q_i2l, ↓q_l2i, ↓q_dup, ↓q_pop, ↓q_dup2, ↓q_dup_x1, ↓q_goto, ↓q_if_eq, ↓q_if_ne, ↓q_if_lt, ↓q_if_ge, ↓q_if_gt, ↓q_if_le, ↓q_icmp_eq, ↓q_icmp_ne, ↓q_icmp_lt, ↓q_icmp_ge, ↓q_icmp_gt, ↓q_icmp_le, ↓q_ifnullN, ↓q_ifnull, ↓q_ifnonnullN, ↓q_ifnonnull, ↓q_table, ↓q_lookup, ↓q_getf, ↓q_putI, ↓q_putJ, ↓q_putR, ↓q_iald, ↓q_sld, ↓q_slen, ↓q_alen, ↓q_iast, ↓q_bald, ↓q_bast, ↓q_aald, ↓q_aast, ↓q_newa, ↓q_newq, ↓q_new, ↓q_objInit, ↓q_max, ↓q_min, ↓q_copy, ↓q_callS0, ↓q_callV0, ↓q_callI0, ↓q_callS1, ↓q_callV1, ↓q_callI1, ↓q_callS2, ↓q_callV2, ↓q_callI2, ↓q_callS3, ↓q_callV3, ↓q_callI3, ↓q_callS4, ↓q_callV4, ↓q_callI4, ↓q_callS5, ↓q_callV5, ↓q_callI5, ↓q_callS6, ↓q_callV6, ↓q_callI6, ↓q_callS7, ↓q_callV7, ↓q_callI7, ↓q_callS8, ↓q_callV8, ↓q_callI8, ↓q_iret, ↓q_lret, ↓q_vret, q_e_i_int, q_e_l_long, q_e_a_ref, q_e_a_null, q_cat_int, q_cat_ref, q_cat_null, q_cat_long, q_na_int, q_lgt_z, q_lgt_s, q_lst0, q_lst1, q_lstS, q_lst20, q_lst21, q_lst2S, q_clr_i, q_clr_r, q_clr_n, q_clr_0, q_clr_l, q_cv_i, q_cv_l, q_cv_r, q_rv_s, q_rv_n, q_toL_s, q_toL_n, true_and, and_true, Nat.reduceAdd, s33, s34, s35, s36, s37, s38, s39, s40, s41, s42, s43, s44, s45, s46, r33_3, r33_4, r33_6, r33_7, r33_8, r33_10, r33_11, r33_12, r33_13, r33_15, r33_16, r33_18, r33_19]
  refine ⟨fun h => ?_, fun h => ?_⟩
  · refine go_wp B_M_isCar_16_ok ?_; simp only [B_M_isCar_16, ↓q_nil, ↓q_iconst, ↓q_bipush, ↓q_sipush, ↓q_ldc, ↓q_lconst, ↓q_ldc2, ↓q_null, ↓q_iload, ↓q_iload_n, ↓q_lload, ↓q_lload_n, ↓q_aload, ↓q_aload_n, ↓q_istore, ↓q_istore_n, ↓q_lstore, ↓q_lstore_n, ↓q_astore, ↓q_astore_n, ↓q_iinc, ↓q_iadd, ↓q_isub, ↓q_imul, ↓q_iand, ↓q_idiv, ↓q_irem, ↓q_ineg, ↓q_ladd, ↓q_lsub, ↓q_lmul, ↓q_land, ↓q_ldiv, ↓q_lrem, ↓q_i2l, ↓q_l2i, ↓q_dup, ↓q_pop, ↓q_dup2, ↓q_dup_x1, ↓q_goto, ↓q_if_eq, ↓q_if_ne, ↓q_if_lt, ↓q_if_ge, ↓q_if_gt, ↓q_if_le, ↓q_icmp_eq, ↓q_icmp_ne, ↓q_icmp_lt, ↓q_icmp_ge, ↓q_icmp_gt, ↓q_icmp_le, ↓q_ifnullN, ↓q_ifnull, ↓q_ifnonnullN, ↓q_ifnonnull, ↓q_table, ↓q_lookup, ↓q_getf, ↓q_putI, ↓q_putJ, ↓q_putR, ↓q_iald, ↓q_sld, ↓q_slen, ↓q_alen, ↓q_iast, ↓q_bald, ↓q_bast, ↓q_aald, ↓q_aast, ↓q_newa, ↓q_newq, ↓q_new, ↓q_objInit, ↓q_max, ↓q_min, ↓q_copy, ↓q_callS0, ↓q_callV0, ↓q_callI0, ↓q_callS1, ↓q_callV1, ↓q_callI1, ↓q_callS2, ↓q_callV2, ↓q_callI2, ↓q_callS3, ↓q_callV3, ↓q_callI3, ↓q_callS4, ↓q_callV4, ↓q_callI4, ↓q_callS5, ↓q_callV5, ↓q_callI5, ↓q_callS6, ↓q_callV6, ↓q_callI6, ↓q_callS7, ↓q_callV7, ↓q_callI7, ↓q_callS8, ↓q_callV8, ↓q_callI8, ↓q_iret, ↓q_lret, ↓q_vret, q_e_i_int, q_e_l_long, q_e_a_ref, q_e_a_null, q_cat_int, q_cat_ref, q_cat_null, q_cat_long, q_na_int, q_lgt_z, q_lgt_s, q_lst0, q_lst1, q_lstS, q_lst20, q_lst21, q_lst2S, q_clr_i, q_clr_r, q_clr_n, q_clr_0, q_clr_l, q_cv_i, q_cv_l, q_cv_r, q_rv_s, q_rv_n, q_toL_s, q_toL_n, true_and, and_true, Nat.reduceAdd, s33, s34, s35, s36, s37, s38, s39, s40, s41, s42, s43, s44, s45, s46, r33_3, r33_4, r33_6, r33_7, r33_8, r33_10, r33_11, r33_12, r33_13, r33_15, r33_16, r33_18, r33_19]
    refine go_wp B_M_isCar_17_ok ?_; simp only [B_M_isCar_17, ↓q_nil, ↓q_iconst, ↓q_bipush, ↓q_sipush, ↓q_ldc, ↓q_lconst, ↓q_ldc2, ↓q_null, ↓q_iload, ↓q_iload_n, ↓q_lload, ↓q_lload_n, ↓q_aload, ↓q_aload_n, ↓q_istore, ↓q_istore_n, ↓q_lstore, ↓q_lstore_n, ↓q_astore, ↓q_astore_n, ↓q_iinc, ↓q_iadd, ↓q_isub, ↓q_imul, ↓q_iand, ↓q_idiv, ↓q_irem, ↓q_ineg, ↓q_ladd, ↓q_lsub, ↓q_lmul, ↓q_land, ↓q_ldiv, ↓q_lrem, ↓q_i2l, ↓q_l2i, ↓q_dup, ↓q_pop, ↓q_dup2, ↓q_dup_x1, ↓q_goto, ↓q_if_eq, ↓q_if_ne, ↓q_if_lt, ↓q_if_ge, ↓q_if_gt, ↓q_if_le, ↓q_icmp_eq, ↓q_icmp_ne, ↓q_icmp_lt, ↓q_icmp_ge, ↓q_icmp_gt, ↓q_icmp_le, ↓q_ifnullN, ↓q_ifnull, ↓q_ifnonnullN, ↓q_ifnonnull, ↓q_table, ↓q_lookup, ↓q_getf, ↓q_putI, ↓q_putJ, ↓q_putR, ↓q_iald, ↓q_sld, ↓q_slen, ↓q_alen, ↓q_iast, ↓q_bald, ↓q_bast, ↓q_aald, ↓q_aast, ↓q_newa, ↓q_newq, ↓q_new, ↓q_objInit, ↓q_max, ↓q_min, ↓q_copy, ↓q_callS0, ↓q_callV0, ↓q_callI0, ↓q_callS1, ↓q_callV1, ↓q_callI1, ↓q_callS2, ↓q_callV2, ↓q_callI2, ↓q_callS3, ↓q_callV3, ↓q_callI3, ↓q_callS4, ↓q_callV4, ↓q_callI4, ↓q_callS5, ↓q_callV5, ↓q_callI5, ↓q_callS6, ↓q_callV6, ↓q_callI6, ↓q_callS7, ↓q_callV7, ↓q_callI7, ↓q_callS8, ↓q_callV8, ↓q_callI8, ↓q_iret, ↓q_lret, ↓q_vret, q_e_i_int, q_e_l_long, q_e_a_ref, q_e_a_null, q_cat_int, q_cat_ref, q_cat_null, q_cat_long, q_na_int, q_lgt_z, q_lgt_s, q_lst0, q_lst1, q_lstS, q_lst20, q_lst21, q_lst2S, q_clr_i, q_clr_r, q_clr_n, q_clr_0, q_clr_l, q_cv_i, q_cv_l, q_cv_r, q_rv_s, q_rv_n, q_toL_s, q_toL_n, true_and, and_true, Nat.reduceAdd, s33, s34, s35, s36, s37, s38, s39, s40, s41, s42, s43, s44, s45, s46, r33_3, r33_4, r33_6, r33_7, r33_8, r33_10, r33_11, r33_12, r33_13, r33_15, r33_16, r33_18, r33_19, na_b0, bI_f (show ¬ (0 ≤ a ∧ a < I 34 0) from fun q => Int32.not_lt.mpr q.1 h)]
    exact ⟨rfl, rfl, rfl, rfl⟩
  · refine call_ro (c_cars hs) (by decide) rfl (Nat.le_refl _) (Nat.le_refl _) ?_
    simp only [↓q_nil, ↓q_iconst, ↓q_bipush, ↓q_sipush, ↓q_ldc, ↓q_lconst, ↓q_ldc2, ↓q_null, ↓q_iload, ↓q_iload_n, ↓q_lload, ↓q_lload_n, ↓q_aload, ↓q_aload_n, ↓q_istore, ↓q_istore_n, ↓q_lstore, ↓q_lstore_n, ↓q_astore, ↓q_astore_n, ↓q_iinc, ↓q_iadd, ↓q_isub, ↓q_imul, ↓q_iand, ↓q_idiv, ↓q_irem, ↓q_ineg, ↓q_ladd, ↓q_lsub, ↓q_lmul, ↓q_land, ↓q_ldiv, ↓q_lrem, ↓q_i2l, ↓q_l2i, ↓q_dup, ↓q_pop, ↓q_dup2, ↓q_dup_x1, ↓q_goto, ↓q_if_eq, ↓q_if_ne, ↓q_if_lt, ↓q_if_ge, ↓q_if_gt, ↓q_if_le, ↓q_icmp_eq, ↓q_icmp_ne, ↓q_icmp_lt, ↓q_icmp_ge, ↓q_icmp_gt, ↓q_icmp_le, ↓q_ifnullN, ↓q_ifnull, ↓q_ifnonnullN, ↓q_ifnonnull, ↓q_table, ↓q_lookup, ↓q_getf, ↓q_putI, ↓q_putJ, ↓q_putR, ↓q_iald, ↓q_sld, ↓q_slen, ↓q_alen, ↓q_iast, ↓q_bald, ↓q_bast, ↓q_aald, ↓q_aast, ↓q_newa, ↓q_newq, ↓q_new, ↓q_objInit, ↓q_max, ↓q_min, ↓q_copy, ↓q_callS0, ↓q_callV0, ↓q_callI0, ↓q_callS1, ↓q_callV1, ↓q_callI1, ↓q_callS2, ↓q_callV2, ↓q_callI2, ↓q_callS3, ↓q_callV3, ↓q_callI3, ↓q_callS4, ↓q_callV4, ↓q_callI4, ↓q_callS5, ↓q_callV5, ↓q_callI5, ↓q_callS6, ↓q_callV6, ↓q_callI6, ↓q_callS7, ↓q_callV7, ↓q_callI7, ↓q_callS8, ↓q_callV8, ↓q_callI8, ↓q_iret, ↓q_lret, ↓q_vret, q_e_i_int, q_e_l_long, q_e_a_ref, q_e_a_null, q_cat_int, q_cat_ref, q_cat_null, q_cat_long, q_na_int, q_lgt_z, q_lgt_s, q_lst0, q_lst1, q_lstS, q_lst20, q_lst21, q_lst2S, q_clr_i, q_clr_r, q_clr_n, q_clr_0, q_clr_l, q_cv_i, q_cv_l, q_cv_r, q_rv_s, q_rv_n, q_toL_s, q_toL_n, true_and, and_true, Nat.reduceAdd, s33, s34, s35, s36, s37, s38, s39, s40, s41, s42, s43, s44, s45, s46, r33_3, r33_4, r33_6, r33_7, r33_8, r33_10, r33_11, r33_12, r33_13, r33_15, r33_16, r33_18, r33_19]
    refine ⟨fun h2 => ?_, fun h2 => ?_⟩
    · refine go_wp B_M_isCar_17_ok ?_; simp only [B_M_isCar_17, ↓q_nil, ↓q_iconst, ↓q_bipush, ↓q_sipush, ↓q_ldc, ↓q_lconst, ↓q_ldc2, ↓q_null, ↓q_iload, ↓q_iload_n, ↓q_lload, ↓q_lload_n, ↓q_aload, ↓q_aload_n, ↓q_istore, ↓q_istore_n, ↓q_lstore, ↓q_lstore_n, ↓q_astore, ↓q_astore_n, ↓q_iinc, ↓q_iadd, ↓q_isub, ↓q_imul, ↓q_iand, ↓q_idiv, ↓q_irem, ↓q_ineg, ↓q_ladd, ↓q_lsub, ↓q_lmul, ↓q_land, ↓q_ldiv, ↓q_lrem, ↓q_i2l, ↓q_l2i, ↓q_dup, ↓q_pop, ↓q_dup2, ↓q_dup_x1, ↓q_goto, ↓q_if_eq, ↓q_if_ne, ↓q_if_lt, ↓q_if_ge, ↓q_if_gt, ↓q_if_le, ↓q_icmp_eq, ↓q_icmp_ne, ↓q_icmp_lt, ↓q_icmp_ge, ↓q_icmp_gt, ↓q_icmp_le, ↓q_ifnullN, ↓q_ifnull, ↓q_ifnonnullN, ↓q_ifnonnull, ↓q_table, ↓q_lookup, ↓q_getf, ↓q_putI, ↓q_putJ, ↓q_putR, ↓q_iald, ↓q_sld, ↓q_slen, ↓q_alen, ↓q_iast, ↓q_bald, ↓q_bast, ↓q_aald, ↓q_aast, ↓q_newa, ↓q_newq, ↓q_new, ↓q_objInit, ↓q_max, ↓q_min, ↓q_copy, ↓q_callS0, ↓q_callV0, ↓q_callI0, ↓q_callS1, ↓q_callV1, ↓q_callI1, ↓q_callS2, ↓q_callV2, ↓q_callI2, ↓q_callS3, ↓q_callV3, ↓q_callI3, ↓q_callS4, ↓q_callV4, ↓q_callI4, ↓q_callS5, ↓q_callV5, ↓q_callI5, ↓q_callS6, ↓q_callV6, ↓q_callI6, ↓q_callS7, ↓q_callV7, ↓q_callI7, ↓q_callS8, ↓q_callV8, ↓q_callI8, ↓q_iret, ↓q_lret, ↓q_vret, q_e_i_int, q_e_l_long, q_e_a_ref, q_e_a_null, q_cat_int, q_cat_ref, q_cat_null, q_cat_long, q_na_int, q_lgt_z, q_lgt_s, q_lst0, q_lst1, q_lstS, q_lst20, q_lst21, q_lst2S, q_clr_i, q_clr_r, q_clr_n, q_clr_0, q_clr_l, q_cv_i, q_cv_l, q_cv_r, q_rv_s, q_rv_n, q_toL_s, q_toL_n, true_and, and_true, Nat.reduceAdd, s33, s34, s35, s36, s37, s38, s39, s40, s41, s42, s43, s44, s45, s46, r33_3, r33_4, r33_6, r33_7, r33_8, r33_10, r33_11, r33_12, r33_13, r33_15, r33_16, r33_18, r33_19, na_b1, bI_t (show 0 ≤ a ∧ a < I 34 0 from ⟨Int32.not_lt.mp h, h2⟩)]
      exact ⟨rfl, rfl, rfl, rfl⟩
    · refine go_wp B_M_isCar_16_ok ?_; simp only [B_M_isCar_16, ↓q_nil, ↓q_iconst, ↓q_bipush, ↓q_sipush, ↓q_ldc, ↓q_lconst, ↓q_ldc2, ↓q_null, ↓q_iload, ↓q_iload_n, ↓q_lload, ↓q_lload_n, ↓q_aload, ↓q_aload_n, ↓q_istore, ↓q_istore_n, ↓q_lstore, ↓q_lstore_n, ↓q_astore, ↓q_astore_n, ↓q_iinc, ↓q_iadd, ↓q_isub, ↓q_imul, ↓q_iand, ↓q_idiv, ↓q_irem, ↓q_ineg, ↓q_ladd, ↓q_lsub, ↓q_lmul, ↓q_land, ↓q_ldiv, ↓q_lrem, ↓q_i2l, ↓q_l2i, ↓q_dup, ↓q_pop, ↓q_dup2, ↓q_dup_x1, ↓q_goto, ↓q_if_eq, ↓q_if_ne, ↓q_if_lt, ↓q_if_ge, ↓q_if_gt, ↓q_if_le, ↓q_icmp_eq, ↓q_icmp_ne, ↓q_icmp_lt, ↓q_icmp_ge, ↓q_icmp_gt, ↓q_icmp_le, ↓q_ifnullN, ↓q_ifnull, ↓q_ifnonnullN, ↓q_ifnonnull, ↓q_table, ↓q_lookup, ↓q_getf, ↓q_putI, ↓q_putJ, ↓q_putR, ↓q_iald, ↓q_sld, ↓q_slen, ↓q_alen, ↓q_iast, ↓q_bald, ↓q_bast, ↓q_aald, ↓q_aast, ↓q_newa, ↓q_newq, ↓q_new, ↓q_objInit, ↓q_max, ↓q_min, ↓q_copy, ↓q_callS0, ↓q_callV0, ↓q_callI0, ↓q_callS1, ↓q_callV1, ↓q_callI1, ↓q_callS2, ↓q_callV2, ↓q_callI2, ↓q_callS3, ↓q_callV3, ↓q_callI3, ↓q_callS4, ↓q_callV4, ↓q_callI4, ↓q_callS5, ↓q_callV5, ↓q_callI5, ↓q_callS6, ↓q_callV6, ↓q_callI6, ↓q_callS7, ↓q_callV7, ↓q_callI7, ↓q_callS8, ↓q_callV8, ↓q_callI8, ↓q_iret, ↓q_lret, ↓q_vret, q_e_i_int, q_e_l_long, q_e_a_ref, q_e_a_null, q_cat_int, q_cat_ref, q_cat_null, q_cat_long, q_na_int, q_lgt_z, q_lgt_s, q_lst0, q_lst1, q_lstS, q_lst20, q_lst21, q_lst2S, q_clr_i, q_clr_r, q_clr_n, q_clr_0, q_clr_l, q_cv_i, q_cv_l, q_cv_r, q_rv_s, q_rv_n, q_toL_s, q_toL_n, true_and, and_true, Nat.reduceAdd, s33, s34, s35, s36, s37, s38, s39, s40, s41, s42, s43, s44, s45, s46, r33_3, r33_4, r33_6, r33_7, r33_8, r33_10, r33_11, r33_12, r33_13, r33_15, r33_16, r33_18, r33_19]
      refine go_wp B_M_isCar_17_ok ?_; simp only [B_M_isCar_17, ↓q_nil, ↓q_iconst, ↓q_bipush, ↓q_sipush, ↓q_ldc, ↓q_lconst, ↓q_ldc2, ↓q_null, ↓q_iload, ↓q_iload_n, ↓q_lload, ↓q_lload_n, ↓q_aload, ↓q_aload_n, ↓q_istore, ↓q_istore_n, ↓q_lstore, ↓q_lstore_n, ↓q_astore, ↓q_astore_n, ↓q_iinc, ↓q_iadd, ↓q_isub, ↓q_imul, ↓q_iand, ↓q_idiv, ↓q_irem, ↓q_ineg, ↓q_ladd, ↓q_lsub, ↓q_lmul, ↓q_land, ↓q_ldiv, ↓q_lrem, ↓q_i2l, ↓q_l2i, ↓q_dup, ↓q_pop, ↓q_dup2, ↓q_dup_x1, ↓q_goto, ↓q_if_eq, ↓q_if_ne, ↓q_if_lt, ↓q_if_ge, ↓q_if_gt, ↓q_if_le, ↓q_icmp_eq, ↓q_icmp_ne, ↓q_icmp_lt, ↓q_icmp_ge, ↓q_icmp_gt, ↓q_icmp_le, ↓q_ifnullN, ↓q_ifnull, ↓q_ifnonnullN, ↓q_ifnonnull, ↓q_table, ↓q_lookup, ↓q_getf, ↓q_putI, ↓q_putJ, ↓q_putR, ↓q_iald, ↓q_sld, ↓q_slen, ↓q_alen, ↓q_iast, ↓q_bald, ↓q_bast, ↓q_aald, ↓q_aast, ↓q_newa, ↓q_newq, ↓q_new, ↓q_objInit, ↓q_max, ↓q_min, ↓q_copy, ↓q_callS0, ↓q_callV0, ↓q_callI0, ↓q_callS1, ↓q_callV1, ↓q_callI1, ↓q_callS2, ↓q_callV2, ↓q_callI2, ↓q_callS3, ↓q_callV3, ↓q_callI3, ↓q_callS4, ↓q_callV4, ↓q_callI4, ↓q_callS5, ↓q_callV5, ↓q_callI5, ↓q_callS6, ↓q_callV6, ↓q_callI6, ↓q_callS7, ↓q_callV7, ↓q_callI7, ↓q_callS8, ↓q_callV8, ↓q_callI8, ↓q_iret, ↓q_lret, ↓q_vret, q_e_i_int, q_e_l_long, q_e_a_ref, q_e_a_null, q_cat_int, q_cat_ref, q_cat_null, q_cat_long, q_na_int, q_lgt_z, q_lgt_s, q_lst0, q_lst1, q_lstS, q_lst20, q_lst21, q_lst2S, q_clr_i, q_clr_r, q_clr_n, q_clr_0, q_clr_l, q_cv_i, q_cv_l, q_cv_r, q_rv_s, q_rv_n, q_toL_s, q_toL_n, true_and, and_true, Nat.reduceAdd, s33, s34, s35, s36, s37, s38, s39, s40, s41, s42, s43, s44, s45, s46, r33_3, r33_4, r33_6, r33_7, r33_8, r33_10, r33_11, r33_12, r33_13, r33_15, r33_16, r33_18, r33_19, na_b0, bI_f (show ¬ (0 ≤ a ∧ a < I 34 0) from fun q => h2 q.2)]
      exact ⟨rfl, rfl, rfl, rfl⟩
set_option maxRecDepth 100000 in set_option maxHeartbeats 4000000 in
theorem c_before (hs : ShM S R) {N a : Nat} {l : Int32} (hN : I 34 0 = nI N) (hN60 : N ≤ 60) (ha : a < 60) : Cn g M_M_before 2 0 0 [.ref (gB g + 33), .int (nI a), .int l] (n, z, S, I, J, R) (Is (some (.int (oV (m_bef (I 34) a l N)))) (n, z, S, I, J, R)) := by
  have hs' := hs; obtain ⟨⟨s33, s34, s35, s36, s37, s38, s39, s40, s41, s42, s43, s44, s45, s46⟩, r33_3, r33_4, r33_6, r33_7, r33_8, r33_10, r33_11, r33_12, r33_13, r33_15, r33_16, r33_18, r33_19⟩ := hs'
  refine cn_go (ls := [some (.ref (gB g + 33)), some (.int (nI a)), some (.int l), none, none, none]) kc_M_before (by decide) rfl rfl ?_
  generalize hQ : Is (some (Value.int (oV (m_bef (I 34) a l N)))) (n, z, S, I, J, R) = Q
  have key : ∀ o : Option Value, Go (g, M_M_before, 2, n, z, 0, 0, Q) 5 [some (.ref (gB g + 33)), some (.int (nI a)), some (.int l), some (.int (oV (m_bef (I 34) a l 0))), some (.int (nI 0)), o] [] (n, z, S, I, J, R) := by
    refine go_loop (P := fun k => ∀ o : Option Value, Go (g, M_M_before, 2, n, z, 0, 0, Q) 5 [some (.ref (gB g + 33)), some (.int (nI a)), some (.int l), some (.int (oV (m_bef (I 34) a l k))), some (.int (nI k)), o] [] (n, z, S, I, J, R)) N ?_ ?_
    · intro o
      refine go_wp B_M_before_5_ok ?_; simp only [B_M_before_5, ↓q_nil, ↓q_iconst, ↓q_bipush, ↓q_sipush, ↓q_ldc, ↓q_lconst, ↓q_ldc2, ↓q_null, ↓q_iload, ↓q_iload_n, ↓q_lload, ↓q_lload_n, ↓q_aload, ↓q_aload_n, ↓q_istore, ↓q_istore_n, ↓q_lstore, ↓q_lstore_n, ↓q_astore, ↓q_astore_n, ↓q_iinc, ↓q_iadd, ↓q_isub, ↓q_imul, ↓q_iand, ↓q_idiv, ↓q_irem, ↓q_ineg, ↓q_ladd, ↓q_lsub, ↓q_lmul, ↓q_land, ↓q_ldiv, ↓q_lrem, ↓q_i2l, ↓q_l2i, ↓q_dup, ↓q_pop, ↓q_dup2, ↓q_dup_x1, ↓q_goto, ↓q_if_eq, ↓q_if_ne, ↓q_if_lt, ↓q_if_ge, ↓q_if_gt, ↓q_if_le, ↓q_icmp_eq, ↓q_icmp_ne, ↓q_icmp_lt, ↓q_icmp_ge, ↓q_icmp_gt, ↓q_icmp_le, ↓q_ifnullN, ↓q_ifnull, ↓q_ifnonnullN, ↓q_ifnonnull, ↓q_table, ↓q_lookup, ↓q_getf, ↓q_putI, ↓q_putJ, ↓q_putR, ↓q_iald, ↓q_sld, ↓q_slen, ↓q_alen, ↓q_iast, ↓q_bald, ↓q_bast, ↓q_aald, ↓q_aast, ↓q_newa, ↓q_newq, ↓q_new, ↓q_objInit, ↓q_max, ↓q_min, ↓q_copy, ↓q_callS0, ↓q_callV0, ↓q_callI0, ↓q_callS1, ↓q_callV1, ↓q_callI1, ↓q_callS2, ↓q_callV2, ↓q_callI2, ↓q_callS3, ↓q_callV3, ↓q_callI3, ↓q_callS4, ↓q_callV4, ↓q_callI4, ↓q_callS5, ↓q_callV5, ↓q_callI5, ↓q_callS6, ↓q_callV6, ↓q_callI6, ↓q_callS7, ↓q_callV7, ↓q_callI7, ↓q_callS8, ↓q_callV8, ↓q_callI8, ↓q_iret, ↓q_lret, ↓q_vret, q_e_i_int, q_e_l_long, q_e_a_ref, q_e_a_null, q_cat_int, q_cat_ref, q_cat_null, q_cat_long, q_na_int, q_lgt_z, q_lgt_s, q_lst0, q_lst1, q_lstS, q_lst20, q_lst21, q_lst2S, q_clr_i, q_clr_r, q_clr_n, q_clr_0, q_clr_l, q_cv_i, q_cv_l, q_cv_r, q_rv_s, q_rv_n, q_toL_s, q_toL_n, true_and, and_true, Nat.reduceAdd, s33, s34, s35, s36, s37, s38, s39, s40, s41, s42, s43, s44, s45, s46, r33_3, r33_4, r33_6, r33_7, r33_8, r33_10, r33_11, r33_12, r33_13, r33_15, r33_16, r33_18, r33_19]
      refine call_ro (c_cars hs) (by decide) rfl (Nat.le_refl _) (Nat.le_refl _) ?_
      simp only [↓q_nil, ↓q_iconst, ↓q_bipush, ↓q_sipush, ↓q_ldc, ↓q_lconst, ↓q_ldc2, ↓q_null, ↓q_iload, ↓q_iload_n, ↓q_lload, ↓q_lload_n, ↓q_aload, ↓q_aload_n, ↓q_istore, ↓q_istore_n, ↓q_lstore, ↓q_lstore_n, ↓q_astore, ↓q_astore_n, ↓q_iinc, ↓q_iadd, ↓q_isub, ↓q_imul, ↓q_iand, ↓q_idiv, ↓q_irem, ↓q_ineg, ↓q_ladd, ↓q_lsub, ↓q_lmul, ↓q_land, ↓q_ldiv, ↓q_lrem, ↓q_i2l, ↓q_l2i, ↓q_dup, ↓q_pop, ↓q_dup2, ↓q_dup_x1, ↓q_goto, ↓q_if_eq, ↓q_if_ne, ↓q_if_lt, ↓q_if_ge, ↓q_if_gt, ↓q_if_le, ↓q_icmp_eq, ↓q_icmp_ne, ↓q_icmp_lt, ↓q_icmp_ge, ↓q_icmp_gt, ↓q_icmp_le, ↓q_ifnullN, ↓q_ifnull, ↓q_ifnonnullN, ↓q_ifnonnull, ↓q_table, ↓q_lookup, ↓q_getf, ↓q_putI, ↓q_putJ, ↓q_putR, ↓q_iald, ↓q_sld, ↓q_slen, ↓q_alen, ↓q_iast, ↓q_bald, ↓q_bast, ↓q_aald, ↓q_aast, ↓q_newa, ↓q_newq, ↓q_new, ↓q_objInit, ↓q_max, ↓q_min, ↓q_copy, ↓q_callS0, ↓q_callV0, ↓q_callI0, ↓q_callS1, ↓q_callV1, ↓q_callI1, ↓q_callS2, ↓q_callV2, ↓q_callI2, ↓q_callS3, ↓q_callV3, ↓q_callI3, ↓q_callS4, ↓q_callV4, ↓q_callI4, ↓q_callS5, ↓q_callV5, ↓q_callI5, ↓q_callS6, ↓q_callV6, ↓q_callI6, ↓q_callS7, ↓q_callV7, ↓q_callI7, ↓q_callS8, ↓q_callV8, ↓q_callI8, ↓q_iret, ↓q_lret, ↓q_vret, q_e_i_int, q_e_l_long, q_e_a_ref, q_e_a_null, q_cat_int, q_cat_ref, q_cat_null, q_cat_long, q_na_int, q_lgt_z, q_lgt_s, q_lst0, q_lst1, q_lstS, q_lst20, q_lst21, q_lst2S, q_clr_i, q_clr_r, q_clr_n, q_clr_0, q_clr_l, q_cv_i, q_cv_l, q_cv_r, q_rv_s, q_rv_n, q_toL_s, q_toL_n, true_and, and_true, Nat.reduceAdd, s33, s34, s35, s36, s37, s38, s39, s40, s41, s42, s43, s44, s45, s46, r33_3, r33_4, r33_6, r33_7, r33_8, r33_10, r33_11, r33_12, r33_13, r33_15, r33_16, r33_18, r33_19, hN]
      refine ⟨fun h => absurd h (nI_nlt (Nat.le_refl N) (by omega)), fun _ => ?_⟩
      refine go_wp B_M_before_89_ok ?_; simp only [B_M_before_89, ↓q_nil, ↓q_iconst, ↓q_bipush, ↓q_sipush, ↓q_ldc, ↓q_lconst, ↓q_ldc2, ↓q_null, ↓q_iload, ↓q_iload_n, ↓q_lload, ↓q_lload_n, ↓q_aload, ↓q_aload_n, ↓q_istore, ↓q_istore_n, ↓q_lstore, ↓q_lstore_n, ↓q_astore, ↓q_astore_n, ↓q_iinc, ↓q_iadd, ↓q_isub, ↓q_imul, ↓q_iand, ↓q_idiv, ↓q_irem, ↓q_ineg, ↓q_ladd, ↓q_lsub, ↓q_lmul, ↓q_land, ↓q_ldiv, ↓q_lrem, ↓q_i2l, ↓q_l2i, ↓q_dup, ↓q_pop, ↓q_dup2, ↓q_dup_x1, ↓q_goto, ↓q_if_eq, ↓q_if_ne, ↓q_if_lt, ↓q_if_ge, ↓q_if_gt, ↓q_if_le, ↓q_icmp_eq, ↓q_icmp_ne, ↓q_icmp_lt, ↓q_icmp_ge, ↓q_icmp_gt, ↓q_icmp_le, ↓q_ifnullN, ↓q_ifnull, ↓q_ifnonnullN, ↓q_ifnonnull, ↓q_table, ↓q_lookup, ↓q_getf, ↓q_putI, ↓q_putJ, ↓q_putR, ↓q_iald, ↓q_sld, ↓q_slen, ↓q_alen, ↓q_iast, ↓q_bald, ↓q_bast, ↓q_aald, ↓q_aast, ↓q_newa, ↓q_newq, ↓q_new, ↓q_objInit, ↓q_max, ↓q_min, ↓q_copy, ↓q_callS0, ↓q_callV0, ↓q_callI0, ↓q_callS1, ↓q_callV1, ↓q_callI1, ↓q_callS2, ↓q_callV2, ↓q_callI2, ↓q_callS3, ↓q_callV3, ↓q_callI3, ↓q_callS4, ↓q_callV4, ↓q_callI4, ↓q_callS5, ↓q_callV5, ↓q_callI5, ↓q_callS6, ↓q_callV6, ↓q_callI6, ↓q_callS7, ↓q_callV7, ↓q_callI7, ↓q_callS8, ↓q_callV8, ↓q_callI8, ↓q_iret, ↓q_lret, ↓q_vret, q_e_i_int, q_e_l_long, q_e_a_ref, q_e_a_null, q_cat_int, q_cat_ref, q_cat_null, q_cat_long, q_na_int, q_lgt_z, q_lgt_s, q_lst0, q_lst1, q_lstS, q_lst20, q_lst21, q_lst2S, q_clr_i, q_clr_r, q_clr_n, q_clr_0, q_clr_l, q_cv_i, q_cv_l, q_cv_r, q_rv_s, q_rv_n, q_toL_s, q_toL_n, true_and, and_true, Nat.reduceAdd, s33, s34, s35, s36, s37, s38, s39, s40, s41, s42, s43, s44, s45, s46, r33_3, r33_4, r33_6, r33_7, r33_8, r33_10, r33_11, r33_12, r33_13, r33_15, r33_16, r33_18, r33_19]
      rw [← hQ]
      exact ⟨rfl, rfl, rfl, rfl⟩
    · intro k hk ih o
      have hk60 : k < 60 := by omega
      have ho : ∀ f, m_bef (I 34) a l k = some f → f < 60 := fun f hf => by have := m_bef_lt k f hf; omega
      have h51 : Go (g, M_M_before, 2, n, z, 0, 0, Q) 51 [some (.ref (gB g + 33)), some (.int (nI a)), some (.int l), some (.int (oV (m_bef (I 34) a l k))), some (.int (nI k)), o] [.int (bI (m_ahead (I 34) a l k))] (n, z, S, I, J, R) := by
        have hnx := ih (some (.int (bI (m_ahead (I 34) a l k))))
        by_cases hA : m_ahead (I 34) a l k
        · rw [bI_t hA] at hnx ⊢
          by_cases hL : m_ls (I 34) k (m_bef (I 34) a l k) = true
          · rw [show m_bef (I 34) a l (k + 1) = some k from if_pos ⟨hA, hL⟩] at hnx
            have h76 : Go (g, M_M_before, 2, n, z, 0, 0, Q) 76 [some (.ref (gB g + 33)), some (.int (nI a)), some (.int l), some (.int (oV (m_bef (I 34) a l k))), some (.int (nI k)), some (.int 1)] [] (n, z, S, I, J, R) := by
              refine go_wp B_M_before_76_ok ?_; simp only [B_M_before_76, ↓q_nil, ↓q_iconst, ↓q_bipush, ↓q_sipush, ↓q_ldc, ↓q_lconst, ↓q_ldc2, ↓q_null, ↓q_iload, ↓q_iload_n, ↓q_lload, ↓q_lload_n, ↓q_aload, ↓q_aload_n, ↓q_istore, ↓q_istore_n, ↓q_lstore, ↓q_lstore_n, ↓q_astore, ↓q_astore_n, ↓q_iinc, ↓q_iadd, ↓q_isub, ↓q_imul, ↓q_iand, ↓q_idiv, ↓q_irem, ↓q_ineg, ↓q_ladd, ↓q_lsub, ↓q_lmul, ↓q_land, ↓q_ldiv, ↓q_lrem, ↓q_i2l, ↓q_l2i, ↓q_dup, ↓q_pop, ↓q_dup2, ↓q_dup_x1, ↓q_goto, ↓q_if_eq, ↓q_if_ne, ↓q_if_lt, ↓q_if_ge, ↓q_if_gt, ↓q_if_le, ↓q_icmp_eq, ↓q_icmp_ne, ↓q_icmp_lt, ↓q_icmp_ge, ↓q_icmp_gt, ↓q_icmp_le, ↓q_ifnullN, ↓q_ifnull, ↓q_ifnonnullN, ↓q_ifnonnull, ↓q_table, ↓q_lookup, ↓q_getf, ↓q_putI, ↓q_putJ, ↓q_putR, ↓q_iald, ↓q_sld, ↓q_slen, ↓q_alen, ↓q_iast, ↓q_bald, ↓q_bast, ↓q_aald, ↓q_aast, ↓q_newa, ↓q_newq, ↓q_new, ↓q_objInit, ↓q_max, ↓q_min, ↓q_copy, ↓q_callS0, ↓q_callV0, ↓q_callI0, ↓q_callS1, ↓q_callV1, ↓q_callI1, ↓q_callS2, ↓q_callV2, ↓q_callI2, ↓q_callS3, ↓q_callV3, ↓q_callI3, ↓q_callS4, ↓q_callV4, ↓q_callI4, ↓q_callS5, ↓q_callV5, ↓q_callI5, ↓q_callS6, ↓q_callV6, ↓q_callI6, ↓q_callS7, ↓q_callV7, ↓q_callI7, ↓q_callS8, ↓q_callV8, ↓q_callI8, ↓q_iret, ↓q_lret, ↓q_vret, q_e_i_int, q_e_l_long, q_e_a_ref, q_e_a_null, q_cat_int, q_cat_ref, q_cat_null, q_cat_long, q_na_int, q_lgt_z, q_lgt_s, q_lst0, q_lst1, q_lstS, q_lst20, q_lst21, q_lst2S, q_clr_i, q_clr_r, q_clr_n, q_clr_0, q_clr_l, q_cv_i, q_cv_l, q_cv_r, q_rv_s, q_rv_n, q_toL_s, q_toL_n, true_and, and_true, Nat.reduceAdd, s33, s34, s35, s36, s37, s38, s39, s40, s41, s42, s43, s44, s45, s46, r33_3, r33_4, r33_6, r33_7, r33_8, r33_10, r33_11, r33_12, r33_13, r33_15, r33_16, r33_18, r33_19]
              refine go_wp B_M_before_82_ok ?_; simp only [B_M_before_82, ↓q_nil, ↓q_iconst, ↓q_bipush, ↓q_sipush, ↓q_ldc, ↓q_lconst, ↓q_ldc2, ↓q_null, ↓q_iload, ↓q_iload_n, ↓q_lload, ↓q_lload_n, ↓q_aload, ↓q_aload_n, ↓q_istore, ↓q_istore_n, ↓q_lstore, ↓q_lstore_n, ↓q_astore, ↓q_astore_n, ↓q_iinc, ↓q_iadd, ↓q_isub, ↓q_imul, ↓q_iand, ↓q_idiv, ↓q_irem, ↓q_ineg, ↓q_ladd, ↓q_lsub, ↓q_lmul, ↓q_land, ↓q_ldiv, ↓q_lrem, ↓q_i2l, ↓q_l2i, ↓q_dup, ↓q_pop, ↓q_dup2, ↓q_dup_x1, ↓q_goto, ↓q_if_eq, ↓q_if_ne, ↓q_if_lt, ↓q_if_ge, ↓q_if_gt, ↓q_if_le, ↓q_icmp_eq, ↓q_icmp_ne, ↓q_icmp_lt, ↓q_icmp_ge, ↓q_icmp_gt, ↓q_icmp_le, ↓q_ifnullN, ↓q_ifnull, ↓q_ifnonnullN, ↓q_ifnonnull, ↓q_table, ↓q_lookup, ↓q_getf, ↓q_putI, ↓q_putJ, ↓q_putR, ↓q_iald, ↓q_sld, ↓q_slen, ↓q_alen, ↓q_iast, ↓q_bald, ↓q_bast, ↓q_aald, ↓q_aast, ↓q_newa, ↓q_newq, ↓q_new, ↓q_objInit, ↓q_max, ↓q_min, ↓q_copy, ↓q_callS0, ↓q_callV0, ↓q_callI0, ↓q_callS1, ↓q_callV1, ↓q_callI1, ↓q_callS2, ↓q_callV2, ↓q_callI2, ↓q_callS3, ↓q_callV3, ↓q_callI3, ↓q_callS4, ↓q_callV4, ↓q_callI4, ↓q_callS5, ↓q_callV5, ↓q_callI5, ↓q_callS6, ↓q_callV6, ↓q_callI6, ↓q_callS7, ↓q_callV7, ↓q_callI7, ↓q_callS8, ↓q_callV8, ↓q_callI8, ↓q_iret, ↓q_lret, ↓q_vret, q_e_i_int, q_e_l_long, q_e_a_ref, q_e_a_null, q_cat_int, q_cat_ref, q_cat_null, q_cat_long, q_na_int, q_lgt_z, q_lgt_s, q_lst0, q_lst1, q_lstS, q_lst20, q_lst21, q_lst2S, q_clr_i, q_clr_r, q_clr_n, q_clr_0, q_clr_l, q_cv_i, q_cv_l, q_cv_r, q_rv_s, q_rv_n, q_toL_s, q_toL_n, true_and, and_true, Nat.reduceAdd, s33, s34, s35, s36, s37, s38, s39, s40, s41, s42, s43, s44, s45, s46, r33_3, r33_4, r33_6, r33_7, r33_8, r33_10, r33_11, r33_12, r33_13, r33_15, r33_16, r33_18, r33_19, nI_inc]
              exact hnx
            refine go_wp B_M_before_51_ok ?_; simp only [B_M_before_51, ↓q_nil, ↓q_iconst, ↓q_bipush, ↓q_sipush, ↓q_ldc, ↓q_lconst, ↓q_ldc2, ↓q_null, ↓q_iload, ↓q_iload_n, ↓q_lload, ↓q_lload_n, ↓q_aload, ↓q_aload_n, ↓q_istore, ↓q_istore_n, ↓q_lstore, ↓q_lstore_n, ↓q_astore, ↓q_astore_n, ↓q_iinc, ↓q_iadd, ↓q_isub, ↓q_imul, ↓q_iand, ↓q_idiv, ↓q_irem, ↓q_ineg, ↓q_ladd, ↓q_lsub, ↓q_lmul, ↓q_land, ↓q_ldiv, ↓q_lrem, ↓q_i2l, ↓q_l2i, ↓q_dup, ↓q_pop, ↓q_dup2, ↓q_dup_x1, ↓q_goto, ↓q_if_eq, ↓q_if_ne, ↓q_if_lt, ↓q_if_ge, ↓q_if_gt, ↓q_if_le, ↓q_icmp_eq, ↓q_icmp_ne, ↓q_icmp_lt, ↓q_icmp_ge, ↓q_icmp_gt, ↓q_icmp_le, ↓q_ifnullN, ↓q_ifnull, ↓q_ifnonnullN, ↓q_ifnonnull, ↓q_table, ↓q_lookup, ↓q_getf, ↓q_putI, ↓q_putJ, ↓q_putR, ↓q_iald, ↓q_sld, ↓q_slen, ↓q_alen, ↓q_iast, ↓q_bald, ↓q_bast, ↓q_aald, ↓q_aast, ↓q_newa, ↓q_newq, ↓q_new, ↓q_objInit, ↓q_max, ↓q_min, ↓q_copy, ↓q_callS0, ↓q_callV0, ↓q_callI0, ↓q_callS1, ↓q_callV1, ↓q_callI1, ↓q_callS2, ↓q_callV2, ↓q_callI2, ↓q_callS3, ↓q_callV3, ↓q_callI3, ↓q_callS4, ↓q_callV4, ↓q_callI4, ↓q_callS5, ↓q_callV5, ↓q_callI5, ↓q_callS6, ↓q_callV6, ↓q_callI6, ↓q_callS7, ↓q_callV7, ↓q_callI7, ↓q_callS8, ↓q_callV8, ↓q_callI8, ↓q_iret, ↓q_lret, ↓q_vret, q_e_i_int, q_e_l_long, q_e_a_ref, q_e_a_null, q_cat_int, q_cat_ref, q_cat_null, q_cat_long, q_na_int, q_lgt_z, q_lgt_s, q_lst0, q_lst1, q_lstS, q_lst20, q_lst21, q_lst2S, q_clr_i, q_clr_r, q_clr_n, q_clr_0, q_clr_l, q_cv_i, q_cv_l, q_cv_r, q_rv_s, q_rv_n, q_toL_s, q_toL_n, true_and, and_true, Nat.reduceAdd, s33, s34, s35, s36, s37, s38, s39, s40, s41, s42, s43, s44, s45, s46, r33_3, r33_4, r33_6, r33_7, r33_8, r33_10, r33_11, r33_12, r33_13, r33_15, r33_16, r33_18, r33_19]
            refine ⟨fun h => absurd h (by decide), fun _ => ⟨fun _ => h76, fun h => ?_⟩⟩
            cases hb : m_bef (I 34) a l k with
            | none => rw [hb] at h; exact absurd (by decide) h
            | some f =>
              rw [hb] at hL h76
              have hf := ho f hb
              refine call_ro (c_rear hs hk60) (by decide) rfl (Nat.le_refl _) (Nat.le_refl _) ?_
              simp only [↓q_nil, ↓q_iconst, ↓q_bipush, ↓q_sipush, ↓q_ldc, ↓q_lconst, ↓q_ldc2, ↓q_null, ↓q_iload, ↓q_iload_n, ↓q_lload, ↓q_lload_n, ↓q_aload, ↓q_aload_n, ↓q_istore, ↓q_istore_n, ↓q_lstore, ↓q_lstore_n, ↓q_astore, ↓q_astore_n, ↓q_iinc, ↓q_iadd, ↓q_isub, ↓q_imul, ↓q_iand, ↓q_idiv, ↓q_irem, ↓q_ineg, ↓q_ladd, ↓q_lsub, ↓q_lmul, ↓q_land, ↓q_ldiv, ↓q_lrem, ↓q_i2l, ↓q_l2i, ↓q_dup, ↓q_pop, ↓q_dup2, ↓q_dup_x1, ↓q_goto, ↓q_if_eq, ↓q_if_ne, ↓q_if_lt, ↓q_if_ge, ↓q_if_gt, ↓q_if_le, ↓q_icmp_eq, ↓q_icmp_ne, ↓q_icmp_lt, ↓q_icmp_ge, ↓q_icmp_gt, ↓q_icmp_le, ↓q_ifnullN, ↓q_ifnull, ↓q_ifnonnullN, ↓q_ifnonnull, ↓q_table, ↓q_lookup, ↓q_getf, ↓q_putI, ↓q_putJ, ↓q_putR, ↓q_iald, ↓q_sld, ↓q_slen, ↓q_alen, ↓q_iast, ↓q_bald, ↓q_bast, ↓q_aald, ↓q_aast, ↓q_newa, ↓q_newq, ↓q_new, ↓q_objInit, ↓q_max, ↓q_min, ↓q_copy, ↓q_callS0, ↓q_callV0, ↓q_callI0, ↓q_callS1, ↓q_callV1, ↓q_callI1, ↓q_callS2, ↓q_callV2, ↓q_callI2, ↓q_callS3, ↓q_callV3, ↓q_callI3, ↓q_callS4, ↓q_callV4, ↓q_callI4, ↓q_callS5, ↓q_callV5, ↓q_callI5, ↓q_callS6, ↓q_callV6, ↓q_callI6, ↓q_callS7, ↓q_callV7, ↓q_callI7, ↓q_callS8, ↓q_callV8, ↓q_callI8, ↓q_iret, ↓q_lret, ↓q_vret, q_e_i_int, q_e_l_long, q_e_a_ref, q_e_a_null, q_cat_int, q_cat_ref, q_cat_null, q_cat_long, q_na_int, q_lgt_z, q_lgt_s, q_lst0, q_lst1, q_lstS, q_lst20, q_lst21, q_lst2S, q_clr_i, q_clr_r, q_clr_n, q_clr_0, q_clr_l, q_cv_i, q_cv_l, q_cv_r, q_rv_s, q_rv_n, q_toL_s, q_toL_n, true_and, and_true, Nat.reduceAdd, s33, s34, s35, s36, s37, s38, s39, s40, s41, s42, s43, s44, s45, s46, r33_3, r33_4, r33_6, r33_7, r33_8, r33_10, r33_11, r33_12, r33_13, r33_15, r33_16, r33_18, r33_19]
              refine call_ro (c_rear hs hf) (by decide) rfl (Nat.le_refl _) (Nat.le_refl _) ?_
              simp only [↓q_nil, ↓q_iconst, ↓q_bipush, ↓q_sipush, ↓q_ldc, ↓q_lconst, ↓q_ldc2, ↓q_null, ↓q_iload, ↓q_iload_n, ↓q_lload, ↓q_lload_n, ↓q_aload, ↓q_aload_n, ↓q_istore, ↓q_istore_n, ↓q_lstore, ↓q_lstore_n, ↓q_astore, ↓q_astore_n, ↓q_iinc, ↓q_iadd, ↓q_isub, ↓q_imul, ↓q_iand, ↓q_idiv, ↓q_irem, ↓q_ineg, ↓q_ladd, ↓q_lsub, ↓q_lmul, ↓q_land, ↓q_ldiv, ↓q_lrem, ↓q_i2l, ↓q_l2i, ↓q_dup, ↓q_pop, ↓q_dup2, ↓q_dup_x1, ↓q_goto, ↓q_if_eq, ↓q_if_ne, ↓q_if_lt, ↓q_if_ge, ↓q_if_gt, ↓q_if_le, ↓q_icmp_eq, ↓q_icmp_ne, ↓q_icmp_lt, ↓q_icmp_ge, ↓q_icmp_gt, ↓q_icmp_le, ↓q_ifnullN, ↓q_ifnull, ↓q_ifnonnullN, ↓q_ifnonnull, ↓q_table, ↓q_lookup, ↓q_getf, ↓q_putI, ↓q_putJ, ↓q_putR, ↓q_iald, ↓q_sld, ↓q_slen, ↓q_alen, ↓q_iast, ↓q_bald, ↓q_bast, ↓q_aald, ↓q_aast, ↓q_newa, ↓q_newq, ↓q_new, ↓q_objInit, ↓q_max, ↓q_min, ↓q_copy, ↓q_callS0, ↓q_callV0, ↓q_callI0, ↓q_callS1, ↓q_callV1, ↓q_callI1, ↓q_callS2, ↓q_callV2, ↓q_callI2, ↓q_callS3, ↓q_callV3, ↓q_callI3, ↓q_callS4, ↓q_callV4, ↓q_callI4, ↓q_callS5, ↓q_callV5, ↓q_callI5, ↓q_callS6, ↓q_callV6, ↓q_callI6, ↓q_callS7, ↓q_callV7, ↓q_callI7, ↓q_callS8, ↓q_callV8, ↓q_callI8, ↓q_iret, ↓q_lret, ↓q_vret, q_e_i_int, q_e_l_long, q_e_a_ref, q_e_a_null, q_cat_int, q_cat_ref, q_cat_null, q_cat_long, q_na_int, q_lgt_z, q_lgt_s, q_lst0, q_lst1, q_lstS, q_lst20, q_lst21, q_lst2S, q_clr_i, q_clr_r, q_clr_n, q_clr_0, q_clr_l, q_cv_i, q_cv_l, q_cv_r, q_rv_s, q_rv_n, q_toL_s, q_toL_n, true_and, and_true, Nat.reduceAdd, s33, s34, s35, s36, s37, s38, s39, s40, s41, s42, s43, s44, s45, s46, r33_3, r33_4, r33_6, r33_7, r33_8, r33_10, r33_11, r33_12, r33_13, r33_15, r33_16, r33_18, r33_19]
              exact ⟨fun _ => h76, fun q => absurd (of_decide_eq_true hL) q⟩
          · rw [show m_bef (I 34) a l (k + 1) = m_bef (I 34) a l k from if_neg (fun q => hL q.2)] at hnx
            refine go_wp B_M_before_51_ok ?_; simp only [B_M_before_51, ↓q_nil, ↓q_iconst, ↓q_bipush, ↓q_sipush, ↓q_ldc, ↓q_lconst, ↓q_ldc2, ↓q_null, ↓q_iload, ↓q_iload_n, ↓q_lload, ↓q_lload_n, ↓q_aload, ↓q_aload_n, ↓q_istore, ↓q_istore_n, ↓q_lstore, ↓q_lstore_n, ↓q_astore, ↓q_astore_n, ↓q_iinc, ↓q_iadd, ↓q_isub, ↓q_imul, ↓q_iand, ↓q_idiv, ↓q_irem, ↓q_ineg, ↓q_ladd, ↓q_lsub, ↓q_lmul, ↓q_land, ↓q_ldiv, ↓q_lrem, ↓q_i2l, ↓q_l2i, ↓q_dup, ↓q_pop, ↓q_dup2, ↓q_dup_x1, ↓q_goto, ↓q_if_eq, ↓q_if_ne, ↓q_if_lt, ↓q_if_ge, ↓q_if_gt, ↓q_if_le, ↓q_icmp_eq, ↓q_icmp_ne, ↓q_icmp_lt, ↓q_icmp_ge, ↓q_icmp_gt, ↓q_icmp_le, ↓q_ifnullN, ↓q_ifnull, ↓q_ifnonnullN, ↓q_ifnonnull, ↓q_table, ↓q_lookup, ↓q_getf, ↓q_putI, ↓q_putJ, ↓q_putR, ↓q_iald, ↓q_sld, ↓q_slen, ↓q_alen, ↓q_iast, ↓q_bald, ↓q_bast, ↓q_aald, ↓q_aast, ↓q_newa, ↓q_newq, ↓q_new, ↓q_objInit, ↓q_max, ↓q_min, ↓q_copy, ↓q_callS0, ↓q_callV0, ↓q_callI0, ↓q_callS1, ↓q_callV1, ↓q_callI1, ↓q_callS2, ↓q_callV2, ↓q_callI2, ↓q_callS3, ↓q_callV3, ↓q_callI3, ↓q_callS4, ↓q_callV4, ↓q_callI4, ↓q_callS5, ↓q_callV5, ↓q_callI5, ↓q_callS6, ↓q_callV6, ↓q_callI6, ↓q_callS7, ↓q_callV7, ↓q_callI7, ↓q_callS8, ↓q_callV8, ↓q_callI8, ↓q_iret, ↓q_lret, ↓q_vret, q_e_i_int, q_e_l_long, q_e_a_ref, q_e_a_null, q_cat_int, q_cat_ref, q_cat_null, q_cat_long, q_na_int, q_lgt_z, q_lgt_s, q_lst0, q_lst1, q_lstS, q_lst20, q_lst21, q_lst2S, q_clr_i, q_clr_r, q_clr_n, q_clr_0, q_clr_l, q_cv_i, q_cv_l, q_cv_r, q_rv_s, q_rv_n, q_toL_s, q_toL_n, true_and, and_true, Nat.reduceAdd, s33, s34, s35, s36, s37, s38, s39, s40, s41, s42, s43, s44, s45, s46, r33_3, r33_4, r33_6, r33_7, r33_8, r33_10, r33_11, r33_12, r33_13, r33_15, r33_16, r33_18, r33_19]
            refine ⟨fun h => absurd h (by decide), fun _ => ?_⟩
            cases hb : m_bef (I 34) a l k with
            | none => rw [hb] at hL; exact absurd rfl hL
            | some f =>
              rw [hb] at hL hnx
              have hf := ho f hb
              refine ⟨fun h => absurd h (nI_pos (by omega)), fun _ => ?_⟩
              refine call_ro (c_rear hs hk60) (by decide) rfl (Nat.le_refl _) (Nat.le_refl _) ?_
              simp only [↓q_nil, ↓q_iconst, ↓q_bipush, ↓q_sipush, ↓q_ldc, ↓q_lconst, ↓q_ldc2, ↓q_null, ↓q_iload, ↓q_iload_n, ↓q_lload, ↓q_lload_n, ↓q_aload, ↓q_aload_n, ↓q_istore, ↓q_istore_n, ↓q_lstore, ↓q_lstore_n, ↓q_astore, ↓q_astore_n, ↓q_iinc, ↓q_iadd, ↓q_isub, ↓q_imul, ↓q_iand, ↓q_idiv, ↓q_irem, ↓q_ineg, ↓q_ladd, ↓q_lsub, ↓q_lmul, ↓q_land, ↓q_ldiv, ↓q_lrem, ↓q_i2l, ↓q_l2i, ↓q_dup, ↓q_pop, ↓q_dup2, ↓q_dup_x1, ↓q_goto, ↓q_if_eq, ↓q_if_ne, ↓q_if_lt, ↓q_if_ge, ↓q_if_gt, ↓q_if_le, ↓q_icmp_eq, ↓q_icmp_ne, ↓q_icmp_lt, ↓q_icmp_ge, ↓q_icmp_gt, ↓q_icmp_le, ↓q_ifnullN, ↓q_ifnull, ↓q_ifnonnullN, ↓q_ifnonnull, ↓q_table, ↓q_lookup, ↓q_getf, ↓q_putI, ↓q_putJ, ↓q_putR, ↓q_iald, ↓q_sld, ↓q_slen, ↓q_alen, ↓q_iast, ↓q_bald, ↓q_bast, ↓q_aald, ↓q_aast, ↓q_newa, ↓q_newq, ↓q_new, ↓q_objInit, ↓q_max, ↓q_min, ↓q_copy, ↓q_callS0, ↓q_callV0, ↓q_callI0, ↓q_callS1, ↓q_callV1, ↓q_callI1, ↓q_callS2, ↓q_callV2, ↓q_callI2, ↓q_callS3, ↓q_callV3, ↓q_callI3, ↓q_callS4, ↓q_callV4, ↓q_callI4, ↓q_callS5, ↓q_callV5, ↓q_callI5, ↓q_callS6, ↓q_callV6, ↓q_callI6, ↓q_callS7, ↓q_callV7, ↓q_callI7, ↓q_callS8, ↓q_callV8, ↓q_callI8, ↓q_iret, ↓q_lret, ↓q_vret, q_e_i_int, q_e_l_long, q_e_a_ref, q_e_a_null, q_cat_int, q_cat_ref, q_cat_null, q_cat_long, q_na_int, q_lgt_z, q_lgt_s, q_lst0, q_lst1, q_lstS, q_lst20, q_lst21, q_lst2S, q_clr_i, q_clr_r, q_clr_n, q_clr_0, q_clr_l, q_cv_i, q_cv_l, q_cv_r, q_rv_s, q_rv_n, q_toL_s, q_toL_n, true_and, and_true, Nat.reduceAdd, s33, s34, s35, s36, s37, s38, s39, s40, s41, s42, s43, s44, s45, s46, r33_3, r33_4, r33_6, r33_7, r33_8, r33_10, r33_11, r33_12, r33_13, r33_15, r33_16, r33_18, r33_19]
              refine call_ro (c_rear hs hf) (by decide) rfl (Nat.le_refl _) (Nat.le_refl _) ?_
              simp only [↓q_nil, ↓q_iconst, ↓q_bipush, ↓q_sipush, ↓q_ldc, ↓q_lconst, ↓q_ldc2, ↓q_null, ↓q_iload, ↓q_iload_n, ↓q_lload, ↓q_lload_n, ↓q_aload, ↓q_aload_n, ↓q_istore, ↓q_istore_n, ↓q_lstore, ↓q_lstore_n, ↓q_astore, ↓q_astore_n, ↓q_iinc, ↓q_iadd, ↓q_isub, ↓q_imul, ↓q_iand, ↓q_idiv, ↓q_irem, ↓q_ineg, ↓q_ladd, ↓q_lsub, ↓q_lmul, ↓q_land, ↓q_ldiv, ↓q_lrem, ↓q_i2l, ↓q_l2i, ↓q_dup, ↓q_pop, ↓q_dup2, ↓q_dup_x1, ↓q_goto, ↓q_if_eq, ↓q_if_ne, ↓q_if_lt, ↓q_if_ge, ↓q_if_gt, ↓q_if_le, ↓q_icmp_eq, ↓q_icmp_ne, ↓q_icmp_lt, ↓q_icmp_ge, ↓q_icmp_gt, ↓q_icmp_le, ↓q_ifnullN, ↓q_ifnull, ↓q_ifnonnullN, ↓q_ifnonnull, ↓q_table, ↓q_lookup, ↓q_getf, ↓q_putI, ↓q_putJ, ↓q_putR, ↓q_iald, ↓q_sld, ↓q_slen, ↓q_alen, ↓q_iast, ↓q_bald, ↓q_bast, ↓q_aald, ↓q_aast, ↓q_newa, ↓q_newq, ↓q_new, ↓q_objInit, ↓q_max, ↓q_min, ↓q_copy, ↓q_callS0, ↓q_callV0, ↓q_callI0, ↓q_callS1, ↓q_callV1, ↓q_callI1, ↓q_callS2, ↓q_callV2, ↓q_callI2, ↓q_callS3, ↓q_callV3, ↓q_callI3, ↓q_callS4, ↓q_callV4, ↓q_callI4, ↓q_callS5, ↓q_callV5, ↓q_callI5, ↓q_callS6, ↓q_callV6, ↓q_callI6, ↓q_callS7, ↓q_callV7, ↓q_callI7, ↓q_callS8, ↓q_callV8, ↓q_callI8, ↓q_iret, ↓q_lret, ↓q_vret, q_e_i_int, q_e_l_long, q_e_a_ref, q_e_a_null, q_cat_int, q_cat_ref, q_cat_null, q_cat_long, q_na_int, q_lgt_z, q_lgt_s, q_lst0, q_lst1, q_lstS, q_lst20, q_lst21, q_lst2S, q_clr_i, q_clr_r, q_clr_n, q_clr_0, q_clr_l, q_cv_i, q_cv_l, q_cv_r, q_rv_s, q_rv_n, q_toL_s, q_toL_n, true_and, and_true, Nat.reduceAdd, s33, s34, s35, s36, s37, s38, s39, s40, s41, s42, s43, s44, s45, s46, r33_3, r33_4, r33_6, r33_7, r33_8, r33_10, r33_11, r33_12, r33_13, r33_15, r33_16, r33_18, r33_19]
              refine ⟨fun q => absurd (decide_eq_true q) hL, fun _ => ?_⟩
              refine go_wp B_M_before_81_ok ?_; simp only [B_M_before_81, ↓q_nil, ↓q_iconst, ↓q_bipush, ↓q_sipush, ↓q_ldc, ↓q_lconst, ↓q_ldc2, ↓q_null, ↓q_iload, ↓q_iload_n, ↓q_lload, ↓q_lload_n, ↓q_aload, ↓q_aload_n, ↓q_istore, ↓q_istore_n, ↓q_lstore, ↓q_lstore_n, ↓q_astore, ↓q_astore_n, ↓q_iinc, ↓q_iadd, ↓q_isub, ↓q_imul, ↓q_iand, ↓q_idiv, ↓q_irem, ↓q_ineg, ↓q_ladd, ↓q_lsub, ↓q_lmul, ↓q_land, ↓q_ldiv, ↓q_lrem, ↓q_i2l, ↓q_l2i, ↓q_dup, ↓q_pop, ↓q_dup2, ↓q_dup_x1, ↓q_goto, ↓q_if_eq, ↓q_if_ne, ↓q_if_lt, ↓q_if_ge, ↓q_if_gt, ↓q_if_le, ↓q_icmp_eq, ↓q_icmp_ne, ↓q_icmp_lt, ↓q_icmp_ge, ↓q_icmp_gt, ↓q_icmp_le, ↓q_ifnullN, ↓q_ifnull, ↓q_ifnonnullN, ↓q_ifnonnull, ↓q_table, ↓q_lookup, ↓q_getf, ↓q_putI, ↓q_putJ, ↓q_putR, ↓q_iald, ↓q_sld, ↓q_slen, ↓q_alen, ↓q_iast, ↓q_bald, ↓q_bast, ↓q_aald, ↓q_aast, ↓q_newa, ↓q_newq, ↓q_new, ↓q_objInit, ↓q_max, ↓q_min, ↓q_copy, ↓q_callS0, ↓q_callV0, ↓q_callI0, ↓q_callS1, ↓q_callV1, ↓q_callI1, ↓q_callS2, ↓q_callV2, ↓q_callI2, ↓q_callS3, ↓q_callV3, ↓q_callI3, ↓q_callS4, ↓q_callV4, ↓q_callI4, ↓q_callS5, ↓q_callV5, ↓q_callI5, ↓q_callS6, ↓q_callV6, ↓q_callI6, ↓q_callS7, ↓q_callV7, ↓q_callI7, ↓q_callS8, ↓q_callV8, ↓q_callI8, ↓q_iret, ↓q_lret, ↓q_vret, q_e_i_int, q_e_l_long, q_e_a_ref, q_e_a_null, q_cat_int, q_cat_ref, q_cat_null, q_cat_long, q_na_int, q_lgt_z, q_lgt_s, q_lst0, q_lst1, q_lstS, q_lst20, q_lst21, q_lst2S, q_clr_i, q_clr_r, q_clr_n, q_clr_0, q_clr_l, q_cv_i, q_cv_l, q_cv_r, q_rv_s, q_rv_n, q_toL_s, q_toL_n, true_and, and_true, Nat.reduceAdd, s33, s34, s35, s36, s37, s38, s39, s40, s41, s42, s43, s44, s45, s46, r33_3, r33_4, r33_6, r33_7, r33_8, r33_10, r33_11, r33_12, r33_13, r33_15, r33_16, r33_18, r33_19]
              refine go_wp B_M_before_82_ok ?_; simp only [B_M_before_82, ↓q_nil, ↓q_iconst, ↓q_bipush, ↓q_sipush, ↓q_ldc, ↓q_lconst, ↓q_ldc2, ↓q_null, ↓q_iload, ↓q_iload_n, ↓q_lload, ↓q_lload_n, ↓q_aload, ↓q_aload_n, ↓q_istore, ↓q_istore_n, ↓q_lstore, ↓q_lstore_n, ↓q_astore, ↓q_astore_n, ↓q_iinc, ↓q_iadd, ↓q_isub, ↓q_imul, ↓q_iand, ↓q_idiv, ↓q_irem, ↓q_ineg, ↓q_ladd, ↓q_lsub, ↓q_lmul, ↓q_land, ↓q_ldiv, ↓q_lrem, ↓q_i2l, ↓q_l2i, ↓q_dup, ↓q_pop, ↓q_dup2, ↓q_dup_x1, ↓q_goto, ↓q_if_eq, ↓q_if_ne, ↓q_if_lt, ↓q_if_ge, ↓q_if_gt, ↓q_if_le, ↓q_icmp_eq, ↓q_icmp_ne, ↓q_icmp_lt, ↓q_icmp_ge, ↓q_icmp_gt, ↓q_icmp_le, ↓q_ifnullN, ↓q_ifnull, ↓q_ifnonnullN, ↓q_ifnonnull, ↓q_table, ↓q_lookup, ↓q_getf, ↓q_putI, ↓q_putJ, ↓q_putR, ↓q_iald, ↓q_sld, ↓q_slen, ↓q_alen, ↓q_iast, ↓q_bald, ↓q_bast, ↓q_aald, ↓q_aast, ↓q_newa, ↓q_newq, ↓q_new, ↓q_objInit, ↓q_max, ↓q_min, ↓q_copy, ↓q_callS0, ↓q_callV0, ↓q_callI0, ↓q_callS1, ↓q_callV1, ↓q_callI1, ↓q_callS2, ↓q_callV2, ↓q_callI2, ↓q_callS3, ↓q_callV3, ↓q_callI3, ↓q_callS4, ↓q_callV4, ↓q_callI4, ↓q_callS5, ↓q_callV5, ↓q_callI5, ↓q_callS6, ↓q_callV6, ↓q_callI6, ↓q_callS7, ↓q_callV7, ↓q_callI7, ↓q_callS8, ↓q_callV8, ↓q_callI8, ↓q_iret, ↓q_lret, ↓q_vret, q_e_i_int, q_e_l_long, q_e_a_ref, q_e_a_null, q_cat_int, q_cat_ref, q_cat_null, q_cat_long, q_na_int, q_lgt_z, q_lgt_s, q_lst0, q_lst1, q_lstS, q_lst20, q_lst21, q_lst2S, q_clr_i, q_clr_r, q_clr_n, q_clr_0, q_clr_l, q_cv_i, q_cv_l, q_cv_r, q_rv_s, q_rv_n, q_toL_s, q_toL_n, true_and, and_true, Nat.reduceAdd, s33, s34, s35, s36, s37, s38, s39, s40, s41, s42, s43, s44, s45, s46, r33_3, r33_4, r33_6, r33_7, r33_8, r33_10, r33_11, r33_12, r33_13, r33_15, r33_16, r33_18, r33_19, nI_inc]
              exact hnx
        · rw [bI_f hA] at hnx ⊢
          rw [show m_bef (I 34) a l (k + 1) = m_bef (I 34) a l k from if_neg (fun q => hA q.1)] at hnx
          refine go_wp B_M_before_51_ok ?_; simp only [B_M_before_51, ↓q_nil, ↓q_iconst, ↓q_bipush, ↓q_sipush, ↓q_ldc, ↓q_lconst, ↓q_ldc2, ↓q_null, ↓q_iload, ↓q_iload_n, ↓q_lload, ↓q_lload_n, ↓q_aload, ↓q_aload_n, ↓q_istore, ↓q_istore_n, ↓q_lstore, ↓q_lstore_n, ↓q_astore, ↓q_astore_n, ↓q_iinc, ↓q_iadd, ↓q_isub, ↓q_imul, ↓q_iand, ↓q_idiv, ↓q_irem, ↓q_ineg, ↓q_ladd, ↓q_lsub, ↓q_lmul, ↓q_land, ↓q_ldiv, ↓q_lrem, ↓q_i2l, ↓q_l2i, ↓q_dup, ↓q_pop, ↓q_dup2, ↓q_dup_x1, ↓q_goto, ↓q_if_eq, ↓q_if_ne, ↓q_if_lt, ↓q_if_ge, ↓q_if_gt, ↓q_if_le, ↓q_icmp_eq, ↓q_icmp_ne, ↓q_icmp_lt, ↓q_icmp_ge, ↓q_icmp_gt, ↓q_icmp_le, ↓q_ifnullN, ↓q_ifnull, ↓q_ifnonnullN, ↓q_ifnonnull, ↓q_table, ↓q_lookup, ↓q_getf, ↓q_putI, ↓q_putJ, ↓q_putR, ↓q_iald, ↓q_sld, ↓q_slen, ↓q_alen, ↓q_iast, ↓q_bald, ↓q_bast, ↓q_aald, ↓q_aast, ↓q_newa, ↓q_newq, ↓q_new, ↓q_objInit, ↓q_max, ↓q_min, ↓q_copy, ↓q_callS0, ↓q_callV0, ↓q_callI0, ↓q_callS1, ↓q_callV1, ↓q_callI1, ↓q_callS2, ↓q_callV2, ↓q_callI2, ↓q_callS3, ↓q_callV3, ↓q_callI3, ↓q_callS4, ↓q_callV4, ↓q_callI4, ↓q_callS5, ↓q_callV5, ↓q_callI5, ↓q_callS6, ↓q_callV6, ↓q_callI6, ↓q_callS7, ↓q_callV7, ↓q_callI7, ↓q_callS8, ↓q_callV8, ↓q_callI8, ↓q_iret, ↓q_lret, ↓q_vret, q_e_i_int, q_e_l_long, q_e_a_ref, q_e_a_null, q_cat_int, q_cat_ref, q_cat_null, q_cat_long, q_na_int, q_lgt_z, q_lgt_s, q_lst0, q_lst1, q_lstS, q_lst20, q_lst21, q_lst2S, q_clr_i, q_clr_r, q_clr_n, q_clr_0, q_clr_l, q_cv_i, q_cv_l, q_cv_r, q_rv_s, q_rv_n, q_toL_s, q_toL_n, true_and, and_true, Nat.reduceAdd, s33, s34, s35, s36, s37, s38, s39, s40, s41, s42, s43, s44, s45, s46, r33_3, r33_4, r33_6, r33_7, r33_8, r33_10, r33_11, r33_12, r33_13, r33_15, r33_16, r33_18, r33_19]
          refine ⟨fun _ => ?_, fun h => by first | exact absurd rfl h | exact absurd trivial h⟩
          refine go_wp B_M_before_81_ok ?_; simp only [B_M_before_81, ↓q_nil, ↓q_iconst, ↓q_bipush, ↓q_sipush, ↓q_ldc, ↓q_lconst, ↓q_ldc2, ↓q_null, ↓q_iload, ↓q_iload_n, ↓q_lload, ↓q_lload_n, ↓q_aload, ↓q_aload_n, ↓q_istore, ↓q_istore_n, ↓q_lstore, ↓q_lstore_n, ↓q_astore, ↓q_astore_n, ↓q_iinc, ↓q_iadd, ↓q_isub, ↓q_imul, ↓q_iand, ↓q_idiv, ↓q_irem, ↓q_ineg, ↓q_ladd, ↓q_lsub, ↓q_lmul, ↓q_land, ↓q_ldiv, ↓q_lrem, ↓q_i2l, ↓q_l2i, ↓q_dup, ↓q_pop, ↓q_dup2, ↓q_dup_x1, ↓q_goto, ↓q_if_eq, ↓q_if_ne, ↓q_if_lt, ↓q_if_ge, ↓q_if_gt, ↓q_if_le, ↓q_icmp_eq, ↓q_icmp_ne, ↓q_icmp_lt, ↓q_icmp_ge, ↓q_icmp_gt, ↓q_icmp_le, ↓q_ifnullN, ↓q_ifnull, ↓q_ifnonnullN, ↓q_ifnonnull, ↓q_table, ↓q_lookup, ↓q_getf, ↓q_putI, ↓q_putJ, ↓q_putR, ↓q_iald, ↓q_sld, ↓q_slen, ↓q_alen, ↓q_iast, ↓q_bald, ↓q_bast, ↓q_aald, ↓q_aast, ↓q_newa, ↓q_newq, ↓q_new, ↓q_objInit, ↓q_max, ↓q_min, ↓q_copy, ↓q_callS0, ↓q_callV0, ↓q_callI0, ↓q_callS1, ↓q_callV1, ↓q_callI1, ↓q_callS2, ↓q_callV2, ↓q_callI2, ↓q_callS3, ↓q_callV3, ↓q_callI3, ↓q_callS4, ↓q_callV4, ↓q_callI4, ↓q_callS5, ↓q_callV5, ↓q_callI5, ↓q_callS6, ↓q_callV6, ↓q_callI6, ↓q_callS7, ↓q_callV7, ↓q_callI7, ↓q_callS8, ↓q_callV8, ↓q_callI8, ↓q_iret, ↓q_lret, ↓q_vret, q_e_i_int, q_e_l_long, q_e_a_ref, q_e_a_null, q_cat_int, q_cat_ref, q_cat_null, q_cat_long, q_na_int, q_lgt_z, q_lgt_s, q_lst0, q_lst1, q_lstS, q_lst20, q_lst21, q_lst2S, q_clr_i, q_clr_r, q_clr_n, q_clr_0, q_clr_l, q_cv_i, q_cv_l, q_cv_r, q_rv_s, q_rv_n, q_toL_s, q_toL_n, true_and, and_true, Nat.reduceAdd, s33, s34, s35, s36, s37, s38, s39, s40, s41, s42, s43, s44, s45, s46, r33_3, r33_4, r33_6, r33_7, r33_8, r33_10, r33_11, r33_12, r33_13, r33_15, r33_16, r33_18, r33_19]
          refine go_wp B_M_before_82_ok ?_; simp only [B_M_before_82, ↓q_nil, ↓q_iconst, ↓q_bipush, ↓q_sipush, ↓q_ldc, ↓q_lconst, ↓q_ldc2, ↓q_null, ↓q_iload, ↓q_iload_n, ↓q_lload, ↓q_lload_n, ↓q_aload, ↓q_aload_n, ↓q_istore, ↓q_istore_n, ↓q_lstore, ↓q_lstore_n, ↓q_astore, ↓q_astore_n, ↓q_iinc, ↓q_iadd, ↓q_isub, ↓q_imul, ↓q_iand, ↓q_idiv, ↓q_irem, ↓q_ineg, ↓q_ladd, ↓q_lsub, ↓q_lmul, ↓q_land, ↓q_ldiv, ↓q_lrem, ↓q_i2l, ↓q_l2i, ↓q_dup, ↓q_pop, ↓q_dup2, ↓q_dup_x1, ↓q_goto, ↓q_if_eq, ↓q_if_ne, ↓q_if_lt, ↓q_if_ge, ↓q_if_gt, ↓q_if_le, ↓q_icmp_eq, ↓q_icmp_ne, ↓q_icmp_lt, ↓q_icmp_ge, ↓q_icmp_gt, ↓q_icmp_le, ↓q_ifnullN, ↓q_ifnull, ↓q_ifnonnullN, ↓q_ifnonnull, ↓q_table, ↓q_lookup, ↓q_getf, ↓q_putI, ↓q_putJ, ↓q_putR, ↓q_iald, ↓q_sld, ↓q_slen, ↓q_alen, ↓q_iast, ↓q_bald, ↓q_bast, ↓q_aald, ↓q_aast, ↓q_newa, ↓q_newq, ↓q_new, ↓q_objInit, ↓q_max, ↓q_min, ↓q_copy, ↓q_callS0, ↓q_callV0, ↓q_callI0, ↓q_callS1, ↓q_callV1, ↓q_callI1, ↓q_callS2, ↓q_callV2, ↓q_callI2, ↓q_callS3, ↓q_callV3, ↓q_callI3, ↓q_callS4, ↓q_callV4, ↓q_callI4, ↓q_callS5, ↓q_callV5, ↓q_callI5, ↓q_callS6, ↓q_callV6, ↓q_callI6, ↓q_callS7, ↓q_callV7, ↓q_callI7, ↓q_callS8, ↓q_callV8, ↓q_callI8, ↓q_iret, ↓q_lret, ↓q_vret, q_e_i_int, q_e_l_long, q_e_a_ref, q_e_a_null, q_cat_int, q_cat_ref, q_cat_null, q_cat_long, q_na_int, q_lgt_z, q_lgt_s, q_lst0, q_lst1, q_lstS, q_lst20, q_lst21, q_lst2S, q_clr_i, q_clr_r, q_clr_n, q_clr_0, q_clr_l, q_cv_i, q_cv_l, q_cv_r, q_rv_s, q_rv_n, q_toL_s, q_toL_n, true_and, and_true, Nat.reduceAdd, s33, s34, s35, s36, s37, s38, s39, s40, s41, s42, s43, s44, s45, s46, r33_3, r33_4, r33_6, r33_7, r33_8, r33_10, r33_11, r33_12, r33_13, r33_15, r33_16, r33_18, r33_19, nI_inc]
          exact hnx
      have h50 : ¬ m_ahead (I 34) a l k → Go (g, M_M_before, 2, n, z, 0, 0, Q) 50 [some (.ref (gB g + 33)), some (.int (nI a)), some (.int l), some (.int (oV (m_bef (I 34) a l k))), some (.int (nI k)), o] [] (n, z, S, I, J, R) := by
        intro hA
        rw [bI_f hA] at h51
        refine go_wp B_M_before_50_ok ?_; simp only [B_M_before_50, ↓q_nil, ↓q_iconst, ↓q_bipush, ↓q_sipush, ↓q_ldc, ↓q_lconst, ↓q_ldc2, ↓q_null, ↓q_iload, ↓q_iload_n, ↓q_lload, ↓q_lload_n, ↓q_aload, ↓q_aload_n, ↓q_istore, ↓q_istore_n, ↓q_lstore, ↓q_lstore_n, ↓q_astore, ↓q_astore_n, ↓q_iinc, ↓q_iadd, ↓q_isub, ↓q_imul, ↓q_iand, ↓q_idiv, ↓q_irem, ↓q_ineg, ↓q_ladd, ↓q_lsub, ↓q_lmul, ↓q_land, ↓q_ldiv, ↓q_lrem, ↓q_i2l, ↓q_l2i, ↓q_dup, ↓q_pop, ↓q_dup2, ↓q_dup_x1, ↓q_goto, ↓q_if_eq, ↓q_if_ne, ↓q_if_lt, ↓q_if_ge, ↓q_if_gt, ↓q_if_le, ↓q_icmp_eq, ↓q_icmp_ne, ↓q_icmp_lt, ↓q_icmp_ge, ↓q_icmp_gt, ↓q_icmp_le, ↓q_ifnullN, ↓q_ifnull, ↓q_ifnonnullN, ↓q_ifnonnull, ↓q_table, ↓q_lookup, ↓q_getf, ↓q_putI, ↓q_putJ, ↓q_putR, ↓q_iald, ↓q_sld, ↓q_slen, ↓q_alen, ↓q_iast, ↓q_bald, ↓q_bast, ↓q_aald, ↓q_aast, ↓q_newa, ↓q_newq, ↓q_new, ↓q_objInit, ↓q_max, ↓q_min, ↓q_copy, ↓q_callS0, ↓q_callV0, ↓q_callI0, ↓q_callS1, ↓q_callV1, ↓q_callI1, ↓q_callS2, ↓q_callV2, ↓q_callI2, ↓q_callS3, ↓q_callV3, ↓q_callI3, ↓q_callS4, ↓q_callV4, ↓q_callI4, ↓q_callS5, ↓q_callV5, ↓q_callI5, ↓q_callS6, ↓q_callV6, ↓q_callI6, ↓q_callS7, ↓q_callV7, ↓q_callI7, ↓q_callS8, ↓q_callV8, ↓q_callI8, ↓q_iret, ↓q_lret, ↓q_vret, q_e_i_int, q_e_l_long, q_e_a_ref, q_e_a_null, q_cat_int, q_cat_ref, q_cat_null, q_cat_long, q_na_int, q_lgt_z, q_lgt_s, q_lst0, q_lst1, q_lstS, q_lst20, q_lst21, q_lst2S, q_clr_i, q_clr_r, q_clr_n, q_clr_0, q_clr_l, q_cv_i, q_cv_l, q_cv_r, q_rv_s, q_rv_n, q_toL_s, q_toL_n, true_and, and_true, Nat.reduceAdd, s33, s34, s35, s36, s37, s38, s39, s40, s41, s42, s43, s44, s45, s46, r33_3, r33_4, r33_6, r33_7, r33_8, r33_10, r33_11, r33_12, r33_13, r33_15, r33_16, r33_18, r33_19]
        exact h51
      refine go_wp B_M_before_5_ok ?_; simp only [B_M_before_5, ↓q_nil, ↓q_iconst, ↓q_bipush, ↓q_sipush, ↓q_ldc, ↓q_lconst, ↓q_ldc2, ↓q_null, ↓q_iload, ↓q_iload_n, ↓q_lload, ↓q_lload_n, ↓q_aload, ↓q_aload_n, ↓q_istore, ↓q_istore_n, ↓q_lstore, ↓q_lstore_n, ↓q_astore, ↓q_astore_n, ↓q_iinc, ↓q_iadd, ↓q_isub, ↓q_imul, ↓q_iand, ↓q_idiv, ↓q_irem, ↓q_ineg, ↓q_ladd, ↓q_lsub, ↓q_lmul, ↓q_land, ↓q_ldiv, ↓q_lrem, ↓q_i2l, ↓q_l2i, ↓q_dup, ↓q_pop, ↓q_dup2, ↓q_dup_x1, ↓q_goto, ↓q_if_eq, ↓q_if_ne, ↓q_if_lt, ↓q_if_ge, ↓q_if_gt, ↓q_if_le, ↓q_icmp_eq, ↓q_icmp_ne, ↓q_icmp_lt, ↓q_icmp_ge, ↓q_icmp_gt, ↓q_icmp_le, ↓q_ifnullN, ↓q_ifnull, ↓q_ifnonnullN, ↓q_ifnonnull, ↓q_table, ↓q_lookup, ↓q_getf, ↓q_putI, ↓q_putJ, ↓q_putR, ↓q_iald, ↓q_sld, ↓q_slen, ↓q_alen, ↓q_iast, ↓q_bald, ↓q_bast, ↓q_aald, ↓q_aast, ↓q_newa, ↓q_newq, ↓q_new, ↓q_objInit, ↓q_max, ↓q_min, ↓q_copy, ↓q_callS0, ↓q_callV0, ↓q_callI0, ↓q_callS1, ↓q_callV1, ↓q_callI1, ↓q_callS2, ↓q_callV2, ↓q_callI2, ↓q_callS3, ↓q_callV3, ↓q_callI3, ↓q_callS4, ↓q_callV4, ↓q_callI4, ↓q_callS5, ↓q_callV5, ↓q_callI5, ↓q_callS6, ↓q_callV6, ↓q_callI6, ↓q_callS7, ↓q_callV7, ↓q_callI7, ↓q_callS8, ↓q_callV8, ↓q_callI8, ↓q_iret, ↓q_lret, ↓q_vret, q_e_i_int, q_e_l_long, q_e_a_ref, q_e_a_null, q_cat_int, q_cat_ref, q_cat_null, q_cat_long, q_na_int, q_lgt_z, q_lgt_s, q_lst0, q_lst1, q_lstS, q_lst20, q_lst21, q_lst2S, q_clr_i, q_clr_r, q_clr_n, q_clr_0, q_clr_l, q_cv_i, q_cv_l, q_cv_r, q_rv_s, q_rv_n, q_toL_s, q_toL_n, true_and, and_true, Nat.reduceAdd, s33, s34, s35, s36, s37, s38, s39, s40, s41, s42, s43, s44, s45, s46, r33_3, r33_4, r33_6, r33_7, r33_8, r33_10, r33_11, r33_12, r33_13, r33_15, r33_16, r33_18, r33_19]
      refine call_ro (c_cars hs) (by decide) rfl (Nat.le_refl _) (Nat.le_refl _) ?_
      simp only [↓q_nil, ↓q_iconst, ↓q_bipush, ↓q_sipush, ↓q_ldc, ↓q_lconst, ↓q_ldc2, ↓q_null, ↓q_iload, ↓q_iload_n, ↓q_lload, ↓q_lload_n, ↓q_aload, ↓q_aload_n, ↓q_istore, ↓q_istore_n, ↓q_lstore, ↓q_lstore_n, ↓q_astore, ↓q_astore_n, ↓q_iinc, ↓q_iadd, ↓q_isub, ↓q_imul, ↓q_iand, ↓q_idiv, ↓q_irem, ↓q_ineg, ↓q_ladd, ↓q_lsub, ↓q_lmul, ↓q_land, ↓q_ldiv, ↓q_lrem, ↓q_i2l, ↓q_l2i, ↓q_dup, ↓q_pop, ↓q_dup2, ↓q_dup_x1, ↓q_goto, ↓q_if_eq, ↓q_if_ne, ↓q_if_lt, ↓q_if_ge, ↓q_if_gt, ↓q_if_le, ↓q_icmp_eq, ↓q_icmp_ne, ↓q_icmp_lt, ↓q_icmp_ge, ↓q_icmp_gt, ↓q_icmp_le, ↓q_ifnullN, ↓q_ifnull, ↓q_ifnonnullN, ↓q_ifnonnull, ↓q_table, ↓q_lookup, ↓q_getf, ↓q_putI, ↓q_putJ, ↓q_putR, ↓q_iald, ↓q_sld, ↓q_slen, ↓q_alen, ↓q_iast, ↓q_bald, ↓q_bast, ↓q_aald, ↓q_aast, ↓q_newa, ↓q_newq, ↓q_new, ↓q_objInit, ↓q_max, ↓q_min, ↓q_copy, ↓q_callS0, ↓q_callV0, ↓q_callI0, ↓q_callS1, ↓q_callV1, ↓q_callI1, ↓q_callS2, ↓q_callV2, ↓q_callI2, ↓q_callS3, ↓q_callV3, ↓q_callI3, ↓q_callS4, ↓q_callV4, ↓q_callI4, ↓q_callS5, ↓q_callV5, ↓q_callI5, ↓q_callS6, ↓q_callV6, ↓q_callI6, ↓q_callS7, ↓q_callV7, ↓q_callI7, ↓q_callS8, ↓q_callV8, ↓q_callI8, ↓q_iret, ↓q_lret, ↓q_vret, q_e_i_int, q_e_l_long, q_e_a_ref, q_e_a_null, q_cat_int, q_cat_ref, q_cat_null, q_cat_long, q_na_int, q_lgt_z, q_lgt_s, q_lst0, q_lst1, q_lstS, q_lst20, q_lst21, q_lst2S, q_clr_i, q_clr_r, q_clr_n, q_clr_0, q_clr_l, q_cv_i, q_cv_l, q_cv_r, q_rv_s, q_rv_n, q_toL_s, q_toL_n, true_and, and_true, Nat.reduceAdd, s33, s34, s35, s36, s37, s38, s39, s40, s41, s42, s43, s44, s45, s46, r33_3, r33_4, r33_6, r33_7, r33_8, r33_10, r33_11, r33_12, r33_13, r33_15, r33_16, r33_18, r33_19, hN]
      refine ⟨fun _ => ?_, fun h => absurd (nI_lt hk (by omega)) h⟩
      refine ⟨fun e => h50 (fun q => q.1 ((nI_eq (by omega) (by omega)).mp e)), fun e1 => ?_⟩
      refine call_ro (c_isOn hs hk60) (by decide) rfl (Nat.le_refl _) (Nat.le_refl _) ?_
      simp only [↓q_nil, ↓q_iconst, ↓q_bipush, ↓q_sipush, ↓q_ldc, ↓q_lconst, ↓q_ldc2, ↓q_null, ↓q_iload, ↓q_iload_n, ↓q_lload, ↓q_lload_n, ↓q_aload, ↓q_aload_n, ↓q_istore, ↓q_istore_n, ↓q_lstore, ↓q_lstore_n, ↓q_astore, ↓q_astore_n, ↓q_iinc, ↓q_iadd, ↓q_isub, ↓q_imul, ↓q_iand, ↓q_idiv, ↓q_irem, ↓q_ineg, ↓q_ladd, ↓q_lsub, ↓q_lmul, ↓q_land, ↓q_ldiv, ↓q_lrem, ↓q_i2l, ↓q_l2i, ↓q_dup, ↓q_pop, ↓q_dup2, ↓q_dup_x1, ↓q_goto, ↓q_if_eq, ↓q_if_ne, ↓q_if_lt, ↓q_if_ge, ↓q_if_gt, ↓q_if_le, ↓q_icmp_eq, ↓q_icmp_ne, ↓q_icmp_lt, ↓q_icmp_ge, ↓q_icmp_gt, ↓q_icmp_le, ↓q_ifnullN, ↓q_ifnull, ↓q_ifnonnullN, ↓q_ifnonnull, ↓q_table, ↓q_lookup, ↓q_getf, ↓q_putI, ↓q_putJ, ↓q_putR, ↓q_iald, ↓q_sld, ↓q_slen, ↓q_alen, ↓q_iast, ↓q_bald, ↓q_bast, ↓q_aald, ↓q_aast, ↓q_newa, ↓q_newq, ↓q_new, ↓q_objInit, ↓q_max, ↓q_min, ↓q_copy, ↓q_callS0, ↓q_callV0, ↓q_callI0, ↓q_callS1, ↓q_callV1, ↓q_callI1, ↓q_callS2, ↓q_callV2, ↓q_callI2, ↓q_callS3, ↓q_callV3, ↓q_callI3, ↓q_callS4, ↓q_callV4, ↓q_callI4, ↓q_callS5, ↓q_callV5, ↓q_callI5, ↓q_callS6, ↓q_callV6, ↓q_callI6, ↓q_callS7, ↓q_callV7, ↓q_callI7, ↓q_callS8, ↓q_callV8, ↓q_callI8, ↓q_iret, ↓q_lret, ↓q_vret, q_e_i_int, q_e_l_long, q_e_a_ref, q_e_a_null, q_cat_int, q_cat_ref, q_cat_null, q_cat_long, q_na_int, q_lgt_z, q_lgt_s, q_lst0, q_lst1, q_lstS, q_lst20, q_lst21, q_lst2S, q_clr_i, q_clr_r, q_clr_n, q_clr_0, q_clr_l, q_cv_i, q_cv_l, q_cv_r, q_rv_s, q_rv_n, q_toL_s, q_toL_n, true_and, and_true, Nat.reduceAdd, s33, s34, s35, s36, s37, s38, s39, s40, s41, s42, s43, s44, s45, s46, r33_3, r33_4, r33_6, r33_7, r33_8, r33_10, r33_11, r33_12, r33_13, r33_15, r33_16, r33_18, r33_19]
      refine ⟨fun e => h50 (fun q => by rw [bI_t q.2.1] at e; exact absurd e (by decide)), fun e2 => ?_⟩
      refine call_ro (c_of hs (p := 3) hk60 (by decide)) (by decide) rfl (Nat.le_refl _) (Nat.le_refl _) ?_
      simp only [↓q_nil, ↓q_iconst, ↓q_bipush, ↓q_sipush, ↓q_ldc, ↓q_lconst, ↓q_ldc2, ↓q_null, ↓q_iload, ↓q_iload_n, ↓q_lload, ↓q_lload_n, ↓q_aload, ↓q_aload_n, ↓q_istore, ↓q_istore_n, ↓q_lstore, ↓q_lstore_n, ↓q_astore, ↓q_astore_n, ↓q_iinc, ↓q_iadd, ↓q_isub, ↓q_imul, ↓q_iand, ↓q_idiv, ↓q_irem, ↓q_ineg, ↓q_ladd, ↓q_lsub, ↓q_lmul, ↓q_land, ↓q_ldiv, ↓q_lrem, ↓q_i2l, ↓q_l2i, ↓q_dup, ↓q_pop, ↓q_dup2, ↓q_dup_x1, ↓q_goto, ↓q_if_eq, ↓q_if_ne, ↓q_if_lt, ↓q_if_ge, ↓q_if_gt, ↓q_if_le, ↓q_icmp_eq, ↓q_icmp_ne, ↓q_icmp_lt, ↓q_icmp_ge, ↓q_icmp_gt, ↓q_icmp_le, ↓q_ifnullN, ↓q_ifnull, ↓q_ifnonnullN, ↓q_ifnonnull, ↓q_table, ↓q_lookup, ↓q_getf, ↓q_putI, ↓q_putJ, ↓q_putR, ↓q_iald, ↓q_sld, ↓q_slen, ↓q_alen, ↓q_iast, ↓q_bald, ↓q_bast, ↓q_aald, ↓q_aast, ↓q_newa, ↓q_newq, ↓q_new, ↓q_objInit, ↓q_max, ↓q_min, ↓q_copy, ↓q_callS0, ↓q_callV0, ↓q_callI0, ↓q_callS1, ↓q_callV1, ↓q_callI1, ↓q_callS2, ↓q_callV2, ↓q_callI2, ↓q_callS3, ↓q_callV3, ↓q_callI3, ↓q_callS4, ↓q_callV4, ↓q_callI4, ↓q_callS5, ↓q_callV5, ↓q_callI5, ↓q_callS6, ↓q_callV6, ↓q_callI6, ↓q_callS7, ↓q_callV7, ↓q_callI7, ↓q_callS8, ↓q_callV8, ↓q_callI8, ↓q_iret, ↓q_lret, ↓q_vret, q_e_i_int, q_e_l_long, q_e_a_ref, q_e_a_null, q_cat_int, q_cat_ref, q_cat_null, q_cat_long, q_na_int, q_lgt_z, q_lgt_s, q_lst0, q_lst1, q_lstS, q_lst20, q_lst21, q_lst2S, q_clr_i, q_clr_r, q_clr_n, q_clr_0, q_clr_l, q_cv_i, q_cv_l, q_cv_r, q_rv_s, q_rv_n, q_toL_s, q_toL_n, true_and, and_true, Nat.reduceAdd, s33, s34, s35, s36, s37, s38, s39, s40, s41, s42, s43, s44, s45, s46, r33_3, r33_4, r33_6, r33_7, r33_8, r33_10, r33_11, r33_12, r33_13, r33_15, r33_16, r33_18, r33_19]
      refine call_ro (c_of hs (p := 3) ha (by decide)) (by decide) rfl (Nat.le_refl _) (Nat.le_refl _) ?_
      simp only [↓q_nil, ↓q_iconst, ↓q_bipush, ↓q_sipush, ↓q_ldc, ↓q_lconst, ↓q_ldc2, ↓q_null, ↓q_iload, ↓q_iload_n, ↓q_lload, ↓q_lload_n, ↓q_aload, ↓q_aload_n, ↓q_istore, ↓q_istore_n, ↓q_lstore, ↓q_lstore_n, ↓q_astore, ↓q_astore_n, ↓q_iinc, ↓q_iadd, ↓q_isub, ↓q_imul, ↓q_iand, ↓q_idiv, ↓q_irem, ↓q_ineg, ↓q_ladd, ↓q_lsub, ↓q_lmul, ↓q_land, ↓q_ldiv, ↓q_lrem, ↓q_i2l, ↓q_l2i, ↓q_dup, ↓q_pop, ↓q_dup2, ↓q_dup_x1, ↓q_goto, ↓q_if_eq, ↓q_if_ne, ↓q_if_lt, ↓q_if_ge, ↓q_if_gt, ↓q_if_le, ↓q_icmp_eq, ↓q_icmp_ne, ↓q_icmp_lt, ↓q_icmp_ge, ↓q_icmp_gt, ↓q_icmp_le, ↓q_ifnullN, ↓q_ifnull, ↓q_ifnonnullN, ↓q_ifnonnull, ↓q_table, ↓q_lookup, ↓q_getf, ↓q_putI, ↓q_putJ, ↓q_putR, ↓q_iald, ↓q_sld, ↓q_slen, ↓q_alen, ↓q_iast, ↓q_bald, ↓q_bast, ↓q_aald, ↓q_aast, ↓q_newa, ↓q_newq, ↓q_new, ↓q_objInit, ↓q_max, ↓q_min, ↓q_copy, ↓q_callS0, ↓q_callV0, ↓q_callI0, ↓q_callS1, ↓q_callV1, ↓q_callI1, ↓q_callS2, ↓q_callV2, ↓q_callI2, ↓q_callS3, ↓q_callV3, ↓q_callI3, ↓q_callS4, ↓q_callV4, ↓q_callI4, ↓q_callS5, ↓q_callV5, ↓q_callI5, ↓q_callS6, ↓q_callV6, ↓q_callI6, ↓q_callS7, ↓q_callV7, ↓q_callI7, ↓q_callS8, ↓q_callV8, ↓q_callI8, ↓q_iret, ↓q_lret, ↓q_vret, q_e_i_int, q_e_l_long, q_e_a_ref, q_e_a_null, q_cat_int, q_cat_ref, q_cat_null, q_cat_long, q_na_int, q_lgt_z, q_lgt_s, q_lst0, q_lst1, q_lstS, q_lst20, q_lst21, q_lst2S, q_clr_i, q_clr_r, q_clr_n, q_clr_0, q_clr_l, q_cv_i, q_cv_l, q_cv_r, q_rv_s, q_rv_n, q_toL_s, q_toL_n, true_and, and_true, Nat.reduceAdd, s33, s34, s35, s36, s37, s38, s39, s40, s41, s42, s43, s44, s45, s46, r33_3, r33_4, r33_6, r33_7, r33_8, r33_10, r33_11, r33_12, r33_13, r33_15, r33_16, r33_18, r33_19]
      refine ⟨fun e3 => ?_, fun e3 => h50 (fun q => e3 q.2.2)⟩
      have hon : pt (I 34) 2 k = 1 ∧ pt (I 34) 1 k = l := Decidable.byContradiction (fun q => e2 (bI_f q))
      rw [bI_t (show m_ahead (I 34) a l k from ⟨fun q => e1 (by rw [q]), hon, e3⟩)] at h51
      exact h51
  refine go_wp B_M_before_0_ok ?_; simp only [B_M_before_0, ↓q_nil, ↓q_iconst, ↓q_bipush, ↓q_sipush, ↓q_ldc, ↓q_lconst, ↓q_ldc2, ↓q_null, ↓q_iload, ↓q_iload_n, ↓q_lload, ↓q_lload_n, ↓q_aload, ↓q_aload_n, ↓q_istore, ↓q_istore_n, ↓q_lstore, ↓q_lstore_n, ↓q_astore, ↓q_astore_n, ↓q_iinc, ↓q_iadd, ↓q_isub, ↓q_imul, ↓q_iand, ↓q_idiv, ↓q_irem, ↓q_ineg, ↓q_ladd, ↓q_lsub, ↓q_lmul, ↓q_land, ↓q_ldiv, ↓q_lrem, ↓q_i2l, ↓q_l2i, ↓q_dup, ↓q_pop, ↓q_dup2, ↓q_dup_x1, ↓q_goto, ↓q_if_eq, ↓q_if_ne, ↓q_if_lt, ↓q_if_ge, ↓q_if_gt, ↓q_if_le, ↓q_icmp_eq, ↓q_icmp_ne, ↓q_icmp_lt, ↓q_icmp_ge, ↓q_icmp_gt, ↓q_icmp_le, ↓q_ifnullN, ↓q_ifnull, ↓q_ifnonnullN, ↓q_ifnonnull, ↓q_table, ↓q_lookup, ↓q_getf, ↓q_putI, ↓q_putJ, ↓q_putR, ↓q_iald, ↓q_sld, ↓q_slen, ↓q_alen, ↓q_iast, ↓q_bald, ↓q_bast, ↓q_aald, ↓q_aast, ↓q_newa, ↓q_newq, ↓q_new, ↓q_objInit, ↓q_max, ↓q_min, ↓q_copy, ↓q_callS0, ↓q_callV0, ↓q_callI0, ↓q_callS1, ↓q_callV1, ↓q_callI1, ↓q_callS2, ↓q_callV2, ↓q_callI2, ↓q_callS3, ↓q_callV3, ↓q_callI3, ↓q_callS4, ↓q_callV4, ↓q_callI4, ↓q_callS5, ↓q_callV5, ↓q_callI5, ↓q_callS6, ↓q_callV6, ↓q_callI6, ↓q_callS7, ↓q_callV7, ↓q_callI7, ↓q_callS8, ↓q_callV8, ↓q_callI8, ↓q_iret, ↓q_lret, ↓q_vret, q_e_i_int, q_e_l_long, q_e_a_ref, q_e_a_null, q_cat_int, q_cat_ref, q_cat_null, q_cat_long, q_na_int, q_lgt_z, q_lgt_s, q_lst0, q_lst1, q_lstS, q_lst20, q_lst21, q_lst2S, q_clr_i, q_clr_r, q_clr_n, q_clr_0, q_clr_l, q_cv_i, q_cv_l, q_cv_r, q_rv_s, q_rv_n, q_toL_s, q_toL_n, true_and, and_true, Nat.reduceAdd, s33, s34, s35, s36, s37, s38, s39, s40, s41, s42, s43, s44, s45, s46, r33_3, r33_4, r33_6, r33_7, r33_8, r33_10, r33_11, r33_12, r33_13, r33_15, r33_16, r33_18, r33_19]
  exact key none
end
end
section
/-! the reference: gapIn -/
abbrev m_red (I : Nat → Nat → Int32) (k : Nat) : Prop := I 34 1 - I 34 1 / I 38 k * I 38 k < I 37 k
abbrev m_shut (I : Nat → Nat → Int32) (l : Int32) (k : Nat) : Prop := I 39 k = l ∧ I 41 k ≤ I 34 1 ∧ I 34 1 < I 42 k
abbrev m_stop (I : Nat → Nat → Int32) (a k : Nat) : Prop := pt (I 34) 0 a = 1 ∧ pt (I 34) (11 + k) a < I 44 k
def m_gl (I : Nat → Nat → Int32) (f g0 : Int32) : Nat → Int32
  | 0 => g0
  | k + 1 => nrr (m_gl I f g0 k) f (I 36 k) (m_red I k)
def m_gc (I : Nat → Nat → Int32) (f l g0 : Int32) : Nat → Int32
  | 0 => g0
  | k + 1 => nrr (m_gc I f l g0 k) f (I 40 k) (m_shut I l k)
def m_gs (I : Nat → Nat → Int32) (f : Int32) (a : Nat) (g0 : Int32) : Nat → Int32
  | 0 => g0
  | k + 1 => nrr (m_gs I f a g0 k) f (I 43 k) (m_stop I a k)
def m_g0 (c : Nat → Int32) (a : Nat) : Option Nat → Int32
  | none => 1000000
  | some f => rr c f - pt c 3 a
/-- counts of the reference: cars N, lights nl, closed places nc, stops ns, lines nn -/
def MW (I : Nat → Nat → Int32) (N nl nc ns nn : Nat) : Prop := (I 34 0 = nI N ∧ N ≤ 60) ∧ (I 33 5 = nI nl ∧ nl ≤ 4) ∧ (I 33 9 = nI nc ∧ nc ≤ 6) ∧ (I 33 14 = nI ns ∧ ns ≤ 4) ∧ (I 33 17 = nI nn ∧ nn ≤ 4) ∧ ∀ k, k < nl → ¬ I 38 k = 0
def m_gap (I : Nat → Nat → Int32) (N nl nc ns : Nat) (a : Nat) (l : Int32) : Int32 :=
  m_gs I (pt (I 34) 3 a) a (m_gc I (pt (I 34) 3 a) l (m_gl I (pt (I 34) 3 a) (m_g0 (I 34) a (m_bef (I 34) a l N)) nl) nc) ns
theorem nI_11 (k : Nat) : (11 : Int32) + nI k = nI (11 + k) := by rw [← nI_add]; rfl
section
variable {g : GT} {n z : Nat} {S : Nat → Nat × Nat} {I : Nat → Nat → Int32} {J : Nat → Nat → Int64} {R : Nat → Nat → Option Nat}
set_option maxRecDepth 100000 in set_option maxHeartbeats 4000000 in
theorem c_gapIn (hs : ShM S R) {N nl nc ns nn a : Nat} {l : Int32} (hw : MW I N nl nc ns nn) (ha : a < 60) : Cn g M_M_gapIn 3 0 0 [.ref (gB g + 33), .int (nI a), .int l] (n, z, S, I, J, R) (Is (some (.int (m_gap I N nl nc ns a l))) (n, z, S, I, J, R)) := by
  have hs' := hs; obtain ⟨⟨s33, s34, s35, s36, s37, s38, s39, s40, s41, s42, s43, s44, s45, s46⟩, r33_3, r33_4, r33_6, r33_7, r33_8, r33_10, r33_11, r33_12, r33_13, r33_15, r33_16, r33_18, r33_19⟩ := hs'
  obtain ⟨⟨hN, hN60⟩, ⟨hnl, hnl4⟩, ⟨hnc, hnc6⟩, ⟨hns, hns4⟩, -, hcy⟩ := hw
  refine cn_go (ls := [some (.ref (gB g + 33)), some (.int (nI a)), some (.int l), none, none, none, none]) kc_M_gapIn (by decide) rfl rfl ?_
  generalize hQ : Is (some (Value.int (m_gap I N nl nc ns a l))) (n, z, S, I, J, R) = Q
  rw [m_gap] at hQ
  generalize hf : pt (I 34) 3 a = f at hQ
  generalize hb : m_bef (I 34) a l N = bf at hQ
  generalize hg0 : m_g0 (I 34) a bf = g0 at hQ
  have h240 : Go (g, M_M_gapIn, 3, n, z, 0, 0, Q) 175 [some (.ref (gB g + 33)), some (.int (nI a)), some (.int l), some (.int f), some (.int (oV bf)), some (.int (m_gs I f a (m_gc I f l (m_gl I f g0 nl) nc) 0)), some (.int (nI 0))] [] (n, z, S, I, J, R) := by
    refine go_loop (P := fun k => Go (g, M_M_gapIn, 3, n, z, 0, 0, Q) 175 [some (.ref (gB g + 33)), some (.int (nI a)), some (.int l), some (.int f), some (.int (oV bf)), some (.int (m_gs I f a (m_gc I f l (m_gl I f g0 nl) nc) k)), some (.int (nI k))] [] (n, z, S, I, J, R)) ns ?_ ?_
    · refine go_wp B_M_gapIn_175_ok ?_; simp only [B_M_gapIn_175, ↓q_nil, ↓q_iconst, ↓q_bipush, ↓q_sipush, ↓q_ldc, ↓q_lconst, ↓q_ldc2, ↓q_null, ↓q_iload, ↓q_iload_n, ↓q_lload, ↓q_lload_n, ↓q_aload, ↓q_aload_n, ↓q_istore, ↓q_istore_n, ↓q_lstore, ↓q_lstore_n, ↓q_astore, ↓q_astore_n, ↓q_iinc, ↓q_iadd, ↓q_isub, ↓q_imul, ↓q_iand, ↓q_idiv, ↓q_irem, ↓q_ineg, ↓q_ladd, ↓q_lsub, ↓q_lmul, ↓q_land, ↓q_ldiv, ↓q_lrem, ↓q_i2l, ↓q_l2i, ↓q_dup, ↓q_pop, ↓q_dup2, ↓q_dup_x1, ↓q_goto, ↓q_if_eq, ↓q_if_ne, ↓q_if_lt, ↓q_if_ge, ↓q_if_gt, ↓q_if_le, ↓q_icmp_eq, ↓q_icmp_ne, ↓q_icmp_lt, ↓q_icmp_ge, ↓q_icmp_gt, ↓q_icmp_le, ↓q_ifnullN, ↓q_ifnull, ↓q_ifnonnullN, ↓q_ifnonnull, ↓q_table, ↓q_lookup, ↓q_getf, ↓q_putI, ↓q_putJ, ↓q_putR, ↓q_iald, ↓q_sld, ↓q_slen, ↓q_alen, ↓q_iast, ↓q_bald, ↓q_bast, ↓q_aald, ↓q_aast, ↓q_newa, ↓q_newq, ↓q_new, ↓q_objInit, ↓q_max, ↓q_min, ↓q_copy, ↓q_callS0, ↓q_callV0, ↓q_callI0, ↓q_callS1, ↓q_callV1, ↓q_callI1, ↓q_callS2, ↓q_callV2, ↓q_callI2, ↓q_callS3, ↓q_callV3, ↓q_callI3, ↓q_callS4, ↓q_callV4, ↓q_callI4, ↓q_callS5, ↓q_callV5, ↓q_callI5, ↓q_callS6, ↓q_callV6, ↓q_callI6, ↓q_callS7, ↓q_callV7, ↓q_callI7, ↓q_callS8, ↓q_callV8, ↓q_callI8, ↓q_iret, ↓q_lret, ↓q_vret, q_e_i_int, q_e_l_long, q_e_a_ref, q_e_a_null, q_cat_int, q_cat_ref, q_cat_null, q_cat_long, q_na_int, q_lgt_z, q_lgt_s, q_lst0, q_lst1, q_lstS, q_lst20, q_lst21, q_lst2S, q_clr_i, q_clr_r, q_clr_n, q_clr_0, q_clr_l, q_cv_i, q_cv_l, q_cv_r, q_rv_s, q_rv_n, q_toL_s, q_toL_n, true_and, and_true, Nat.reduceAdd, s33, s34, s35, s36, s37, s38, s39, s40, s41, s42, s43, s44, s45, s46, r33_3, r33_4, r33_6, r33_7, r33_8, r33_10, r33_11, r33_12, r33_13, r33_15, r33_16, r33_18, r33_19, hns]
      refine ⟨fun h => absurd h (nI_nlt (Nat.le_refl _) (by omega)), fun _ => ?_⟩
      refine go_wp B_M_gapIn_240_ok ?_; simp only [B_M_gapIn_240, ↓q_nil, ↓q_iconst, ↓q_bipush, ↓q_sipush, ↓q_ldc, ↓q_lconst, ↓q_ldc2, ↓q_null, ↓q_iload, ↓q_iload_n, ↓q_lload, ↓q_lload_n, ↓q_aload, ↓q_aload_n, ↓q_istore, ↓q_istore_n, ↓q_lstore, ↓q_lstore_n, ↓q_astore, ↓q_astore_n, ↓q_iinc, ↓q_iadd, ↓q_isub, ↓q_imul, ↓q_iand, ↓q_idiv, ↓q_irem, ↓q_ineg, ↓q_ladd, ↓q_lsub, ↓q_lmul, ↓q_land, ↓q_ldiv, ↓q_lrem, ↓q_i2l, ↓q_l2i, ↓q_dup, ↓q_pop, ↓q_dup2, ↓q_dup_x1, ↓q_goto, ↓q_if_eq, ↓q_if_ne, ↓q_if_lt, ↓q_if_ge, ↓q_if_gt, ↓q_if_le, ↓q_icmp_eq, ↓q_icmp_ne, ↓q_icmp_lt, ↓q_icmp_ge, ↓q_icmp_gt, ↓q_icmp_le, ↓q_ifnullN, ↓q_ifnull, ↓q_ifnonnullN, ↓q_ifnonnull, ↓q_table, ↓q_lookup, ↓q_getf, ↓q_putI, ↓q_putJ, ↓q_putR, ↓q_iald, ↓q_sld, ↓q_slen, ↓q_alen, ↓q_iast, ↓q_bald, ↓q_bast, ↓q_aald, ↓q_aast, ↓q_newa, ↓q_newq, ↓q_new, ↓q_objInit, ↓q_max, ↓q_min, ↓q_copy, ↓q_callS0, ↓q_callV0, ↓q_callI0, ↓q_callS1, ↓q_callV1, ↓q_callI1, ↓q_callS2, ↓q_callV2, ↓q_callI2, ↓q_callS3, ↓q_callV3, ↓q_callI3, ↓q_callS4, ↓q_callV4, ↓q_callI4, ↓q_callS5, ↓q_callV5, ↓q_callI5, ↓q_callS6, ↓q_callV6, ↓q_callI6, ↓q_callS7, ↓q_callV7, ↓q_callI7, ↓q_callS8, ↓q_callV8, ↓q_callI8, ↓q_iret, ↓q_lret, ↓q_vret, q_e_i_int, q_e_l_long, q_e_a_ref, q_e_a_null, q_cat_int, q_cat_ref, q_cat_null, q_cat_long, q_na_int, q_lgt_z, q_lgt_s, q_lst0, q_lst1, q_lstS, q_lst20, q_lst21, q_lst2S, q_clr_i, q_clr_r, q_clr_n, q_clr_0, q_clr_l, q_cv_i, q_cv_l, q_cv_r, q_rv_s, q_rv_n, q_toL_s, q_toL_n, true_and, and_true, Nat.reduceAdd, s33, s34, s35, s36, s37, s38, s39, s40, s41, s42, s43, s44, s45, s46, r33_3, r33_4, r33_6, r33_7, r33_8, r33_10, r33_11, r33_12, r33_13, r33_15, r33_16, r33_18, r33_19]
      rw [← hQ]
      exact ⟨rfl, rfl, rfl, rfl⟩
    · intro k hk ih
      have hk4 : k < 4 := by omega
      have h229 : Go (g, M_M_gapIn, 3, n, z, 0, 0, Q) 229 [some (.ref (gB g + 33)), some (.int (nI a)), some (.int l), some (.int f), some (.int (oV bf)), some (.int (m_gs I f a (m_gc I f l (m_gl I f g0 nl) nc) k)), some (.int (nI k))] [.int (bI (m_stop I a k)), .int (I 43 k), .int f, .int (m_gs I f a (m_gc I f l (m_gl I f g0 nl) nc) k)] (n, z, S, I, J, R) := by
        refine go_wp B_M_gapIn_229_ok ?_; simp only [B_M_gapIn_229, ↓q_nil, ↓q_iconst, ↓q_bipush, ↓q_sipush, ↓q_ldc, ↓q_lconst, ↓q_ldc2, ↓q_null, ↓q_iload, ↓q_iload_n, ↓q_lload, ↓q_lload_n, ↓q_aload, ↓q_aload_n, ↓q_istore, ↓q_istore_n, ↓q_lstore, ↓q_lstore_n, ↓q_astore, ↓q_astore_n, ↓q_iinc, ↓q_iadd, ↓q_isub, ↓q_imul, ↓q_iand, ↓q_idiv, ↓q_irem, ↓q_ineg, ↓q_ladd, ↓q_lsub, ↓q_lmul, ↓q_land, ↓q_ldiv, ↓q_lrem, ↓q_i2l, ↓q_l2i, ↓q_dup, ↓q_pop, ↓q_dup2, ↓q_dup_x1, ↓q_goto, ↓q_if_eq, ↓q_if_ne, ↓q_if_lt, ↓q_if_ge, ↓q_if_gt, ↓q_if_le, ↓q_icmp_eq, ↓q_icmp_ne, ↓q_icmp_lt, ↓q_icmp_ge, ↓q_icmp_gt, ↓q_icmp_le, ↓q_ifnullN, ↓q_ifnull, ↓q_ifnonnullN, ↓q_ifnonnull, ↓q_table, ↓q_lookup, ↓q_getf, ↓q_putI, ↓q_putJ, ↓q_putR, ↓q_iald, ↓q_sld, ↓q_slen, ↓q_alen, ↓q_iast, ↓q_bald, ↓q_bast, ↓q_aald, ↓q_aast, ↓q_newa, ↓q_newq, ↓q_new, ↓q_objInit, ↓q_max, ↓q_min, ↓q_copy, ↓q_callS0, ↓q_callV0, ↓q_callI0, ↓q_callS1, ↓q_callV1, ↓q_callI1, ↓q_callS2, ↓q_callV2, ↓q_callI2, ↓q_callS3, ↓q_callV3, ↓q_callI3, ↓q_callS4, ↓q_callV4, ↓q_callI4, ↓q_callS5, ↓q_callV5, ↓q_callI5, ↓q_callS6, ↓q_callV6, ↓q_callI6, ↓q_callS7, ↓q_callV7, ↓q_callI7, ↓q_callS8, ↓q_callV8, ↓q_callI8, ↓q_iret, ↓q_lret, ↓q_vret, q_e_i_int, q_e_l_long, q_e_a_ref, q_e_a_null, q_cat_int, q_cat_ref, q_cat_null, q_cat_long, q_na_int, q_lgt_z, q_lgt_s, q_lst0, q_lst1, q_lstS, q_lst20, q_lst21, q_lst2S, q_clr_i, q_clr_r, q_clr_n, q_clr_0, q_clr_l, q_cv_i, q_cv_l, q_cv_r, q_rv_s, q_rv_n, q_toL_s, q_toL_n, true_and, and_true, Nat.reduceAdd, s33, s34, s35, s36, s37, s38, s39, s40, s41, s42, s43, s44, s45, s46, r33_3, r33_4, r33_6, r33_7, r33_8, r33_10, r33_11, r33_12, r33_13, r33_15, r33_16, r33_18, r33_19]
        refine call_ro (c_nearer (m_stop I a k)) (by decide) rfl (Nat.le_refl _) (Nat.le_refl _) ?_
        simp only [↓q_nil, ↓q_iconst, ↓q_bipush, ↓q_sipush, ↓q_ldc, ↓q_lconst, ↓q_ldc2, ↓q_null, ↓q_iload, ↓q_iload_n, ↓q_lload, ↓q_lload_n, ↓q_aload, ↓q_aload_n, ↓q_istore, ↓q_istore_n, ↓q_lstore, ↓q_lstore_n, ↓q_astore, ↓q_astore_n, ↓q_iinc, ↓q_iadd, ↓q_isub, ↓q_imul, ↓q_iand, ↓q_idiv, ↓q_irem, ↓q_ineg, ↓q_ladd, ↓q_lsub, ↓q_lmul, ↓q_land, ↓q_ldiv, ↓q_lrem, ↓q_i2l, ↓q_l2i, ↓q_dup, ↓q_pop, ↓q_dup2, ↓q_dup_x1, ↓q_goto, ↓q_if_eq, ↓q_if_ne, ↓q_if_lt, ↓q_if_ge, ↓q_if_gt, ↓q_if_le, ↓q_icmp_eq, ↓q_icmp_ne, ↓q_icmp_lt, ↓q_icmp_ge, ↓q_icmp_gt, ↓q_icmp_le, ↓q_ifnullN, ↓q_ifnull, ↓q_ifnonnullN, ↓q_ifnonnull, ↓q_table, ↓q_lookup, ↓q_getf, ↓q_putI, ↓q_putJ, ↓q_putR, ↓q_iald, ↓q_sld, ↓q_slen, ↓q_alen, ↓q_iast, ↓q_bald, ↓q_bast, ↓q_aald, ↓q_aast, ↓q_newa, ↓q_newq, ↓q_new, ↓q_objInit, ↓q_max, ↓q_min, ↓q_copy, ↓q_callS0, ↓q_callV0, ↓q_callI0, ↓q_callS1, ↓q_callV1, ↓q_callI1, ↓q_callS2, ↓q_callV2, ↓q_callI2, ↓q_callS3, ↓q_callV3, ↓q_callI3, ↓q_callS4, ↓q_callV4, ↓q_callI4, ↓q_callS5, ↓q_callV5, ↓q_callI5, ↓q_callS6, ↓q_callV6, ↓q_callI6, ↓q_callS7, ↓q_callV7, ↓q_callI7, ↓q_callS8, ↓q_callV8, ↓q_callI8, ↓q_iret, ↓q_lret, ↓q_vret, q_e_i_int, q_e_l_long, q_e_a_ref, q_e_a_null, q_cat_int, q_cat_ref, q_cat_null, q_cat_long, q_na_int, q_lgt_z, q_lgt_s, q_lst0, q_lst1, q_lstS, q_lst20, q_lst21, q_lst2S, q_clr_i, q_clr_r, q_clr_n, q_clr_0, q_clr_l, q_cv_i, q_cv_l, q_cv_r, q_rv_s, q_rv_n, q_toL_s, q_toL_n, true_and, and_true, Nat.reduceAdd, s33, s34, s35, s36, s37, s38, s39, s40, s41, s42, s43, s44, s45, s46, r33_3, r33_4, r33_6, r33_7, r33_8, r33_10, r33_11, r33_12, r33_13, r33_15, r33_16, r33_18, r33_19, nI_inc]
        exact ih
      refine go_wp B_M_gapIn_175_ok ?_; simp only [B_M_gapIn_175, ↓q_nil, ↓q_iconst, ↓q_bipush, ↓q_sipush, ↓q_ldc, ↓q_lconst, ↓q_ldc2, ↓q_null, ↓q_iload, ↓q_iload_n, ↓q_lload, ↓q_lload_n, ↓q_aload, ↓q_aload_n, ↓q_istore, ↓q_istore_n, ↓q_lstore, ↓q_lstore_n, ↓q_astore, ↓q_astore_n, ↓q_iinc, ↓q_iadd, ↓q_isub, ↓q_imul, ↓q_iand, ↓q_idiv, ↓q_irem, ↓q_ineg, ↓q_ladd, ↓q_lsub, ↓q_lmul, ↓q_land, ↓q_ldiv, ↓q_lrem, ↓q_i2l, ↓q_l2i, ↓q_dup, ↓q_pop, ↓q_dup2, ↓q_dup_x1, ↓q_goto, ↓q_if_eq, ↓q_if_ne, ↓q_if_lt, ↓q_if_ge, ↓q_if_gt, ↓q_if_le, ↓q_icmp_eq, ↓q_icmp_ne, ↓q_icmp_lt, ↓q_icmp_ge, ↓q_icmp_gt, ↓q_icmp_le, ↓q_ifnullN, ↓q_ifnull, ↓q_ifnonnullN, ↓q_ifnonnull, ↓q_table, ↓q_lookup, ↓q_getf, ↓q_putI, ↓q_putJ, ↓q_putR, ↓q_iald, ↓q_sld, ↓q_slen, ↓q_alen, ↓q_iast, ↓q_bald, ↓q_bast, ↓q_aald, ↓q_aast, ↓q_newa, ↓q_newq, ↓q_new, ↓q_objInit, ↓q_max, ↓q_min, ↓q_copy, ↓q_callS0, ↓q_callV0, ↓q_callI0, ↓q_callS1, ↓q_callV1, ↓q_callI1, ↓q_callS2, ↓q_callV2, ↓q_callI2, ↓q_callS3, ↓q_callV3, ↓q_callI3, ↓q_callS4, ↓q_callV4, ↓q_callI4, ↓q_callS5, ↓q_callV5, ↓q_callI5, ↓q_callS6, ↓q_callV6, ↓q_callI6, ↓q_callS7, ↓q_callV7, ↓q_callI7, ↓q_callS8, ↓q_callV8, ↓q_callI8, ↓q_iret, ↓q_lret, ↓q_vret, q_e_i_int, q_e_l_long, q_e_a_ref, q_e_a_null, q_cat_int, q_cat_ref, q_cat_null, q_cat_long, q_na_int, q_lgt_z, q_lgt_s, q_lst0, q_lst1, q_lstS, q_lst20, q_lst21, q_lst2S, q_clr_i, q_clr_r, q_clr_n, q_clr_0, q_clr_l, q_cv_i, q_cv_l, q_cv_r, q_rv_s, q_rv_n, q_toL_s, q_toL_n, true_and, and_true, Nat.reduceAdd, s33, s34, s35, s36, s37, s38, s39, s40, s41, s42, s43, s44, s45, s46, r33_3, r33_4, r33_6, r33_7, r33_8, r33_10, r33_11, r33_12, r33_13, r33_15, r33_16, r33_18, r33_19, hns, cl_nI (show k < 2147483648 by omega)]
      refine ⟨fun _ => ⟨vp_nI hk4 (by decide), ?_⟩, fun h => absurd (nI_lt hk (by omega)) h⟩
      refine call_ro (c_of hs (p := 0) ha (by decide)) (by decide) rfl (Nat.le_refl _) (Nat.le_refl _) ?_
      simp only [↓q_nil, ↓q_iconst, ↓q_bipush, ↓q_sipush, ↓q_ldc, ↓q_lconst, ↓q_ldc2, ↓q_null, ↓q_iload, ↓q_iload_n, ↓q_lload, ↓q_lload_n, ↓q_aload, ↓q_aload_n, ↓q_istore, ↓q_istore_n, ↓q_lstore, ↓q_lstore_n, ↓q_astore, ↓q_astore_n, ↓q_iinc, ↓q_iadd, ↓q_isub, ↓q_imul, ↓q_iand, ↓q_idiv, ↓q_irem, ↓q_ineg, ↓q_ladd, ↓q_lsub, ↓q_lmul, ↓q_land, ↓q_ldiv, ↓q_lrem, ↓q_i2l, ↓q_l2i, ↓q_dup, ↓q_pop, ↓q_dup2, ↓q_dup_x1, ↓q_goto, ↓q_if_eq, ↓q_if_ne, ↓q_if_lt, ↓q_if_ge, ↓q_if_gt, ↓q_if_le, ↓q_icmp_eq, ↓q_icmp_ne, ↓q_icmp_lt, ↓q_icmp_ge, ↓q_icmp_gt, ↓q_icmp_le, ↓q_ifnullN, ↓q_ifnull, ↓q_ifnonnullN, ↓q_ifnonnull, ↓q_table, ↓q_lookup, ↓q_getf, ↓q_putI, ↓q_putJ, ↓q_putR, ↓q_iald, ↓q_sld, ↓q_slen, ↓q_alen, ↓q_iast, ↓q_bald, ↓q_bast, ↓q_aald, ↓q_aast, ↓q_newa, ↓q_newq, ↓q_new, ↓q_objInit, ↓q_max, ↓q_min, ↓q_copy, ↓q_callS0, ↓q_callV0, ↓q_callI0, ↓q_callS1, ↓q_callV1, ↓q_callI1, ↓q_callS2, ↓q_callV2, ↓q_callI2, ↓q_callS3, ↓q_callV3, ↓q_callI3, ↓q_callS4, ↓q_callV4, ↓q_callI4, ↓q_callS5, ↓q_callV5, ↓q_callI5, ↓q_callS6, ↓q_callV6, ↓q_callI6, ↓q_callS7, ↓q_callV7, ↓q_callI7, ↓q_callS8, ↓q_callV8, ↓q_callI8, ↓q_iret, ↓q_lret, ↓q_vret, q_e_i_int, q_e_l_long, q_e_a_ref, q_e_a_null, q_cat_int, q_cat_ref, q_cat_null, q_cat_long, q_na_int, q_lgt_z, q_lgt_s, q_lst0, q_lst1, q_lstS, q_lst20, q_lst21, q_lst2S, q_clr_i, q_clr_r, q_clr_n, q_clr_0, q_clr_l, q_cv_i, q_cv_l, q_cv_r, q_rv_s, q_rv_n, q_toL_s, q_toL_n, true_and, and_true, Nat.reduceAdd, s33, s34, s35, s36, s37, s38, s39, s40, s41, s42, s43, s44, s45, s46, r33_3, r33_4, r33_6, r33_7, r33_8, r33_10, r33_11, r33_12, r33_13, r33_15, r33_16, r33_18, r33_19, nI_11]
      refine ⟨fun h1 => ?_, fun h1 => ?_⟩
      · refine call_ro (c_of hs (p := 11 + k) ha (by omega)) (by decide) rfl (Nat.le_refl _) (Nat.le_refl _) ?_
        simp only [↓q_nil, ↓q_iconst, ↓q_bipush, ↓q_sipush, ↓q_ldc, ↓q_lconst, ↓q_ldc2, ↓q_null, ↓q_iload, ↓q_iload_n, ↓q_lload, ↓q_lload_n, ↓q_aload, ↓q_aload_n, ↓q_istore, ↓q_istore_n, ↓q_lstore, ↓q_lstore_n, ↓q_astore, ↓q_astore_n, ↓q_iinc, ↓q_iadd, ↓q_isub, ↓q_imul, ↓q_iand, ↓q_idiv, ↓q_irem, ↓q_ineg, ↓q_ladd, ↓q_lsub, ↓q_lmul, ↓q_land, ↓q_ldiv, ↓q_lrem, ↓q_i2l, ↓q_l2i, ↓q_dup, ↓q_pop, ↓q_dup2, ↓q_dup_x1, ↓q_goto, ↓q_if_eq, ↓q_if_ne, ↓q_if_lt, ↓q_if_ge, ↓q_if_gt, ↓q_if_le, ↓q_icmp_eq, ↓q_icmp_ne, ↓q_icmp_lt, ↓q_icmp_ge, ↓q_icmp_gt, ↓q_icmp_le, ↓q_ifnullN, ↓q_ifnull, ↓q_ifnonnullN, ↓q_ifnonnull, ↓q_table, ↓q_lookup, ↓q_getf, ↓q_putI, ↓q_putJ, ↓q_putR, ↓q_iald, ↓q_sld, ↓q_slen, ↓q_alen, ↓q_iast, ↓q_bald, ↓q_bast, ↓q_aald, ↓q_aast, ↓q_newa, ↓q_newq, ↓q_new, ↓q_objInit, ↓q_max, ↓q_min, ↓q_copy, ↓q_callS0, ↓q_callV0, ↓q_callI0, ↓q_callS1, ↓q_callV1, ↓q_callI1, ↓q_callS2, ↓q_callV2, ↓q_callI2, ↓q_callS3, ↓q_callV3, ↓q_callI3, ↓q_callS4, ↓q_callV4, ↓q_callI4, ↓q_callS5, ↓q_callV5, ↓q_callI5, ↓q_callS6, ↓q_callV6, ↓q_callI6, ↓q_callS7, ↓q_callV7, ↓q_callI7, ↓q_callS8, ↓q_callV8, ↓q_callI8, ↓q_iret, ↓q_lret, ↓q_vret, q_e_i_int, q_e_l_long, q_e_a_ref, q_e_a_null, q_cat_int, q_cat_ref, q_cat_null, q_cat_long, q_na_int, q_lgt_z, q_lgt_s, q_lst0, q_lst1, q_lstS, q_lst20, q_lst21, q_lst2S, q_clr_i, q_clr_r, q_clr_n, q_clr_0, q_clr_l, q_cv_i, q_cv_l, q_cv_r, q_rv_s, q_rv_n, q_toL_s, q_toL_n, true_and, and_true, Nat.reduceAdd, s33, s34, s35, s36, s37, s38, s39, s40, s41, s42, s43, s44, s45, s46, r33_3, r33_4, r33_6, r33_7, r33_8, r33_10, r33_11, r33_12, r33_13, r33_15, r33_16, r33_18, r33_19, cl_nI (show k < 2147483648 by omega)]
        refine ⟨vp_nI hk4 (by decide), fun h2 => ?_, fun h2 => ?_⟩
        · rw [bI_t (show m_stop I a k from ⟨h1, h2⟩)] at h229
          exact h229
        · refine go_wp B_M_gapIn_228_ok ?_; simp only [B_M_gapIn_228, ↓q_nil, ↓q_iconst, ↓q_bipush, ↓q_sipush, ↓q_ldc, ↓q_lconst, ↓q_ldc2, ↓q_null, ↓q_iload, ↓q_iload_n, ↓q_lload, ↓q_lload_n, ↓q_aload, ↓q_aload_n, ↓q_istore, ↓q_istore_n, ↓q_lstore, ↓q_lstore_n, ↓q_astore, ↓q_astore_n, ↓q_iinc, ↓q_iadd, ↓q_isub, ↓q_imul, ↓q_iand, ↓q_idiv, ↓q_irem, ↓q_ineg, ↓q_ladd, ↓q_lsub, ↓q_lmul, ↓q_land, ↓q_ldiv, ↓q_lrem, ↓q_i2l, ↓q_l2i, ↓q_dup, ↓q_pop, ↓q_dup2, ↓q_dup_x1, ↓q_goto, ↓q_if_eq, ↓q_if_ne, ↓q_if_lt, ↓q_if_ge, ↓q_if_gt, ↓q_if_le, ↓q_icmp_eq, ↓q_icmp_ne, ↓q_icmp_lt, ↓q_icmp_ge, ↓q_icmp_gt, ↓q_icmp_le, ↓q_ifnullN, ↓q_ifnull, ↓q_ifnonnullN, ↓q_ifnonnull, ↓q_table, ↓q_lookup, ↓q_getf, ↓q_putI, ↓q_putJ, ↓q_putR, ↓q_iald, ↓q_sld, ↓q_slen, ↓q_alen, ↓q_iast, ↓q_bald, ↓q_bast, ↓q_aald, ↓q_aast, ↓q_newa, ↓q_newq, ↓q_new, ↓q_objInit, ↓q_max, ↓q_min, ↓q_copy, ↓q_callS0, ↓q_callV0, ↓q_callI0, ↓q_callS1, ↓q_callV1, ↓q_callI1, ↓q_callS2, ↓q_callV2, ↓q_callI2, ↓q_callS3, ↓q_callV3, ↓q_callI3, ↓q_callS4, ↓q_callV4, ↓q_callI4, ↓q_callS5, ↓q_callV5, ↓q_callI5, ↓q_callS6, ↓q_callV6, ↓q_callI6, ↓q_callS7, ↓q_callV7, ↓q_callI7, ↓q_callS8, ↓q_callV8, ↓q_callI8, ↓q_iret, ↓q_lret, ↓q_vret, q_e_i_int, q_e_l_long, q_e_a_ref, q_e_a_null, q_cat_int, q_cat_ref, q_cat_null, q_cat_long, q_na_int, q_lgt_z, q_lgt_s, q_lst0, q_lst1, q_lstS, q_lst20, q_lst21, q_lst2S, q_clr_i, q_clr_r, q_clr_n, q_clr_0, q_clr_l, q_cv_i, q_cv_l, q_cv_r, q_rv_s, q_rv_n, q_toL_s, q_toL_n, true_and, and_true, Nat.reduceAdd, s33, s34, s35, s36, s37, s38, s39, s40, s41, s42, s43, s44, s45, s46, r33_3, r33_4, r33_6, r33_7, r33_8, r33_10, r33_11, r33_12, r33_13, r33_15, r33_16, r33_18, r33_19]
          rw [bI_f (show ¬ m_stop I a k from fun q => h2 q.2)] at h229
          exact h229
      · refine go_wp B_M_gapIn_228_ok ?_; simp only [B_M_gapIn_228, ↓q_nil, ↓q_iconst, ↓q_bipush, ↓q_sipush, ↓q_ldc, ↓q_lconst, ↓q_ldc2, ↓q_null, ↓q_iload, ↓q_iload_n, ↓q_lload, ↓q_lload_n, ↓q_aload, ↓q_aload_n, ↓q_istore, ↓q_istore_n, ↓q_lstore, ↓q_lstore_n, ↓q_astore, ↓q_astore_n, ↓q_iinc, ↓q_iadd, ↓q_isub, ↓q_imul, ↓q_iand, ↓q_idiv, ↓q_irem, ↓q_ineg, ↓q_ladd, ↓q_lsub, ↓q_lmul, ↓q_land, ↓q_ldiv, ↓q_lrem, ↓q_i2l, ↓q_l2i, ↓q_dup, ↓q_pop, ↓q_dup2, ↓q_dup_x1, ↓q_goto, ↓q_if_eq, ↓q_if_ne, ↓q_if_lt, ↓q_if_ge, ↓q_if_gt, ↓q_if_le, ↓q_icmp_eq, ↓q_icmp_ne, ↓q_icmp_lt, ↓q_icmp_ge, ↓q_icmp_gt, ↓q_icmp_le, ↓q_ifnullN, ↓q_ifnull, ↓q_ifnonnullN, ↓q_ifnonnull, ↓q_table, ↓q_lookup, ↓q_getf, ↓q_putI, ↓q_putJ, ↓q_putR, ↓q_iald, ↓q_sld, ↓q_slen, ↓q_alen, ↓q_iast, ↓q_bald, ↓q_bast, ↓q_aald, ↓q_aast, ↓q_newa, ↓q_newq, ↓q_new, ↓q_objInit, ↓q_max, ↓q_min, ↓q_copy, ↓q_callS0, ↓q_callV0, ↓q_callI0, ↓q_callS1, ↓q_callV1, ↓q_callI1, ↓q_callS2, ↓q_callV2, ↓q_callI2, ↓q_callS3, ↓q_callV3, ↓q_callI3, ↓q_callS4, ↓q_callV4, ↓q_callI4, ↓q_callS5, ↓q_callV5, ↓q_callI5, ↓q_callS6, ↓q_callV6, ↓q_callI6, ↓q_callS7, ↓q_callV7, ↓q_callI7, ↓q_callS8, ↓q_callV8, ↓q_callI8, ↓q_iret, ↓q_lret, ↓q_vret, q_e_i_int, q_e_l_long, q_e_a_ref, q_e_a_null, q_cat_int, q_cat_ref, q_cat_null, q_cat_long, q_na_int, q_lgt_z, q_lgt_s, q_lst0, q_lst1, q_lstS, q_lst20, q_lst21, q_lst2S, q_clr_i, q_clr_r, q_clr_n, q_clr_0, q_clr_l, q_cv_i, q_cv_l, q_cv_r, q_rv_s, q_rv_n, q_toL_s, q_toL_n, true_and, and_true, Nat.reduceAdd, s33, s34, s35, s36, s37, s38, s39, s40, s41, s42, s43, s44, s45, s46, r33_3, r33_4, r33_6, r33_7, r33_8, r33_10, r33_11, r33_12, r33_13, r33_15, r33_16, r33_18, r33_19]
        rw [bI_f (show ¬ m_stop I a k from fun q => h1 q.1)] at h229
        exact h229
  have h98 : Go (g, M_M_gapIn, 3, n, z, 0, 0, Q) 98 [some (.ref (gB g + 33)), some (.int (nI a)), some (.int l), some (.int f), some (.int (oV bf)), some (.int (m_gc I f l (m_gl I f g0 nl) 0)), some (.int (nI 0))] [] (n, z, S, I, J, R) := by
    refine go_loop (P := fun k => Go (g, M_M_gapIn, 3, n, z, 0, 0, Q) 98 [some (.ref (gB g + 33)), some (.int (nI a)), some (.int l), some (.int f), some (.int (oV bf)), some (.int (m_gc I f l (m_gl I f g0 nl) k)), some (.int (nI k))] [] (n, z, S, I, J, R)) nc ?_ ?_
    · refine go_wp B_M_gapIn_98_ok ?_; simp only [B_M_gapIn_98, ↓q_nil, ↓q_iconst, ↓q_bipush, ↓q_sipush, ↓q_ldc, ↓q_lconst, ↓q_ldc2, ↓q_null, ↓q_iload, ↓q_iload_n, ↓q_lload, ↓q_lload_n, ↓q_aload, ↓q_aload_n, ↓q_istore, ↓q_istore_n, ↓q_lstore, ↓q_lstore_n, ↓q_astore, ↓q_astore_n, ↓q_iinc, ↓q_iadd, ↓q_isub, ↓q_imul, ↓q_iand, ↓q_idiv, ↓q_irem, ↓q_ineg, ↓q_ladd, ↓q_lsub, ↓q_lmul, ↓q_land, ↓q_ldiv, ↓q_lrem, ↓q_i2l, ↓q_l2i, ↓q_dup, ↓q_pop, ↓q_dup2, ↓q_dup_x1, ↓q_goto, ↓q_if_eq, ↓q_if_ne, ↓q_if_lt, ↓q_if_ge, ↓q_if_gt, ↓q_if_le, ↓q_icmp_eq, ↓q_icmp_ne, ↓q_icmp_lt, ↓q_icmp_ge, ↓q_icmp_gt, ↓q_icmp_le, ↓q_ifnullN, ↓q_ifnull, ↓q_ifnonnullN, ↓q_ifnonnull, ↓q_table, ↓q_lookup, ↓q_getf, ↓q_putI, ↓q_putJ, ↓q_putR, ↓q_iald, ↓q_sld, ↓q_slen, ↓q_alen, ↓q_iast, ↓q_bald, ↓q_bast, ↓q_aald, ↓q_aast, ↓q_newa, ↓q_newq, ↓q_new, ↓q_objInit, ↓q_max, ↓q_min, ↓q_copy, ↓q_callS0, ↓q_callV0, ↓q_callI0, ↓q_callS1, ↓q_callV1, ↓q_callI1, ↓q_callS2, ↓q_callV2, ↓q_callI2, ↓q_callS3, ↓q_callV3, ↓q_callI3, ↓q_callS4, ↓q_callV4, ↓q_callI4, ↓q_callS5, ↓q_callV5, ↓q_callI5, ↓q_callS6, ↓q_callV6, ↓q_callI6, ↓q_callS7, ↓q_callV7, ↓q_callI7, ↓q_callS8, ↓q_callV8, ↓q_callI8, ↓q_iret, ↓q_lret, ↓q_vret, q_e_i_int, q_e_l_long, q_e_a_ref, q_e_a_null, q_cat_int, q_cat_ref, q_cat_null, q_cat_long, q_na_int, q_lgt_z, q_lgt_s, q_lst0, q_lst1, q_lstS, q_lst20, q_lst21, q_lst2S, q_clr_i, q_clr_r, q_clr_n, q_clr_0, q_clr_l, q_cv_i, q_cv_l, q_cv_r, q_rv_s, q_rv_n, q_toL_s, q_toL_n, true_and, and_true, Nat.reduceAdd, s33, s34, s35, s36, s37, s38, s39, s40, s41, s42, s43, s44, s45, s46, r33_3, r33_4, r33_6, r33_7, r33_8, r33_10, r33_11, r33_12, r33_13, r33_15, r33_16, r33_18, r33_19, hnc]
      refine ⟨fun h => absurd h (nI_nlt (Nat.le_refl _) (by omega)), fun _ => ?_⟩
      refine go_wp B_M_gapIn_172_ok ?_; simp only [B_M_gapIn_172, ↓q_nil, ↓q_iconst, ↓q_bipush, ↓q_sipush, ↓q_ldc, ↓q_lconst, ↓q_ldc2, ↓q_null, ↓q_iload, ↓q_iload_n, ↓q_lload, ↓q_lload_n, ↓q_aload, ↓q_aload_n, ↓q_istore, ↓q_istore_n, ↓q_lstore, ↓q_lstore_n, ↓q_astore, ↓q_astore_n, ↓q_iinc, ↓q_iadd, ↓q_isub, ↓q_imul, ↓q_iand, ↓q_idiv, ↓q_irem, ↓q_ineg, ↓q_ladd, ↓q_lsub, ↓q_lmul, ↓q_land, ↓q_ldiv, ↓q_lrem, ↓q_i2l, ↓q_l2i, ↓q_dup, ↓q_pop, ↓q_dup2, ↓q_dup_x1, ↓q_goto, ↓q_if_eq, ↓q_if_ne, ↓q_if_lt, ↓q_if_ge, ↓q_if_gt, ↓q_if_le, ↓q_icmp_eq, ↓q_icmp_ne, ↓q_icmp_lt, ↓q_icmp_ge, ↓q_icmp_gt, ↓q_icmp_le, ↓q_ifnullN, ↓q_ifnull, ↓q_ifnonnullN, ↓q_ifnonnull, ↓q_table, ↓q_lookup, ↓q_getf, ↓q_putI, ↓q_putJ, ↓q_putR, ↓q_iald, ↓q_sld, ↓q_slen, ↓q_alen, ↓q_iast, ↓q_bald, ↓q_bast, ↓q_aald, ↓q_aast, ↓q_newa, ↓q_newq, ↓q_new, ↓q_objInit, ↓q_max, ↓q_min, ↓q_copy, ↓q_callS0, ↓q_callV0, ↓q_callI0, ↓q_callS1, ↓q_callV1, ↓q_callI1, ↓q_callS2, ↓q_callV2, ↓q_callI2, ↓q_callS3, ↓q_callV3, ↓q_callI3, ↓q_callS4, ↓q_callV4, ↓q_callI4, ↓q_callS5, ↓q_callV5, ↓q_callI5, ↓q_callS6, ↓q_callV6, ↓q_callI6, ↓q_callS7, ↓q_callV7, ↓q_callI7, ↓q_callS8, ↓q_callV8, ↓q_callI8, ↓q_iret, ↓q_lret, ↓q_vret, q_e_i_int, q_e_l_long, q_e_a_ref, q_e_a_null, q_cat_int, q_cat_ref, q_cat_null, q_cat_long, q_na_int, q_lgt_z, q_lgt_s, q_lst0, q_lst1, q_lstS, q_lst20, q_lst21, q_lst2S, q_clr_i, q_clr_r, q_clr_n, q_clr_0, q_clr_l, q_cv_i, q_cv_l, q_cv_r, q_rv_s, q_rv_n, q_toL_s, q_toL_n, true_and, and_true, Nat.reduceAdd, s33, s34, s35, s36, s37, s38, s39, s40, s41, s42, s43, s44, s45, s46, r33_3, r33_4, r33_6, r33_7, r33_8, r33_10, r33_11, r33_12, r33_13, r33_15, r33_16, r33_18, r33_19]
      exact h240
    · intro k hk ih
      have hk6 : k < 6 := by omega
      have h161 : Go (g, M_M_gapIn, 3, n, z, 0, 0, Q) 161 [some (.ref (gB g + 33)), some (.int (nI a)), some (.int l), some (.int f), some (.int (oV bf)), some (.int (m_gc I f l (m_gl I f g0 nl) k)), some (.int (nI k))] [.int (bI (m_shut I l k)), .int (I 40 k), .int f, .int (m_gc I f l (m_gl I f g0 nl) k)] (n, z, S, I, J, R) := by
        refine go_wp B_M_gapIn_161_ok ?_; simp only [B_M_gapIn_161, ↓q_nil, ↓q_iconst, ↓q_bipush, ↓q_sipush, ↓q_ldc, ↓q_lconst, ↓q_ldc2, ↓q_null, ↓q_iload, ↓q_iload_n, ↓q_lload, ↓q_lload_n, ↓q_aload, ↓q_aload_n, ↓q_istore, ↓q_istore_n, ↓q_lstore, ↓q_lstore_n, ↓q_astore, ↓q_astore_n, ↓q_iinc, ↓q_iadd, ↓q_isub, ↓q_imul, ↓q_iand, ↓q_idiv, ↓q_irem, ↓q_ineg, ↓q_ladd, ↓q_lsub, ↓q_lmul, ↓q_land, ↓q_ldiv, ↓q_lrem, ↓q_i2l, ↓q_l2i, ↓q_dup, ↓q_pop, ↓q_dup2, ↓q_dup_x1, ↓q_goto, ↓q_if_eq, ↓q_if_ne, ↓q_if_lt, ↓q_if_ge, ↓q_if_gt, ↓q_if_le, ↓q_icmp_eq, ↓q_icmp_ne, ↓q_icmp_lt, ↓q_icmp_ge, ↓q_icmp_gt, ↓q_icmp_le, ↓q_ifnullN, ↓q_ifnull, ↓q_ifnonnullN, ↓q_ifnonnull, ↓q_table, ↓q_lookup, ↓q_getf, ↓q_putI, ↓q_putJ, ↓q_putR, ↓q_iald, ↓q_sld, ↓q_slen, ↓q_alen, ↓q_iast, ↓q_bald, ↓q_bast, ↓q_aald, ↓q_aast, ↓q_newa, ↓q_newq, ↓q_new, ↓q_objInit, ↓q_max, ↓q_min, ↓q_copy, ↓q_callS0, ↓q_callV0, ↓q_callI0, ↓q_callS1, ↓q_callV1, ↓q_callI1, ↓q_callS2, ↓q_callV2, ↓q_callI2, ↓q_callS3, ↓q_callV3, ↓q_callI3, ↓q_callS4, ↓q_callV4, ↓q_callI4, ↓q_callS5, ↓q_callV5, ↓q_callI5, ↓q_callS6, ↓q_callV6, ↓q_callI6, ↓q_callS7, ↓q_callV7, ↓q_callI7, ↓q_callS8, ↓q_callV8, ↓q_callI8, ↓q_iret, ↓q_lret, ↓q_vret, q_e_i_int, q_e_l_long, q_e_a_ref, q_e_a_null, q_cat_int, q_cat_ref, q_cat_null, q_cat_long, q_na_int, q_lgt_z, q_lgt_s, q_lst0, q_lst1, q_lstS, q_lst20, q_lst21, q_lst2S, q_clr_i, q_clr_r, q_clr_n, q_clr_0, q_clr_l, q_cv_i, q_cv_l, q_cv_r, q_rv_s, q_rv_n, q_toL_s, q_toL_n, true_and, and_true, Nat.reduceAdd, s33, s34, s35, s36, s37, s38, s39, s40, s41, s42, s43, s44, s45, s46, r33_3, r33_4, r33_6, r33_7, r33_8, r33_10, r33_11, r33_12, r33_13, r33_15, r33_16, r33_18, r33_19]
        refine call_ro (c_nearer (m_shut I l k)) (by decide) rfl (Nat.le_refl _) (Nat.le_refl _) ?_
        simp only [↓q_nil, ↓q_iconst, ↓q_bipush, ↓q_sipush, ↓q_ldc, ↓q_lconst, ↓q_ldc2, ↓q_null, ↓q_iload, ↓q_iload_n, ↓q_lload, ↓q_lload_n, ↓q_aload, ↓q_aload_n, ↓q_istore, ↓q_istore_n, ↓q_lstore, ↓q_lstore_n, ↓q_astore, ↓q_astore_n, ↓q_iinc, ↓q_iadd, ↓q_isub, ↓q_imul, ↓q_iand, ↓q_idiv, ↓q_irem, ↓q_ineg, ↓q_ladd, ↓q_lsub, ↓q_lmul, ↓q_land, ↓q_ldiv, ↓q_lrem, ↓q_i2l, ↓q_l2i, ↓q_dup, ↓q_pop, ↓q_dup2, ↓q_dup_x1, ↓q_goto, ↓q_if_eq, ↓q_if_ne, ↓q_if_lt, ↓q_if_ge, ↓q_if_gt, ↓q_if_le, ↓q_icmp_eq, ↓q_icmp_ne, ↓q_icmp_lt, ↓q_icmp_ge, ↓q_icmp_gt, ↓q_icmp_le, ↓q_ifnullN, ↓q_ifnull, ↓q_ifnonnullN, ↓q_ifnonnull, ↓q_table, ↓q_lookup, ↓q_getf, ↓q_putI, ↓q_putJ, ↓q_putR, ↓q_iald, ↓q_sld, ↓q_slen, ↓q_alen, ↓q_iast, ↓q_bald, ↓q_bast, ↓q_aald, ↓q_aast, ↓q_newa, ↓q_newq, ↓q_new, ↓q_objInit, ↓q_max, ↓q_min, ↓q_copy, ↓q_callS0, ↓q_callV0, ↓q_callI0, ↓q_callS1, ↓q_callV1, ↓q_callI1, ↓q_callS2, ↓q_callV2, ↓q_callI2, ↓q_callS3, ↓q_callV3, ↓q_callI3, ↓q_callS4, ↓q_callV4, ↓q_callI4, ↓q_callS5, ↓q_callV5, ↓q_callI5, ↓q_callS6, ↓q_callV6, ↓q_callI6, ↓q_callS7, ↓q_callV7, ↓q_callI7, ↓q_callS8, ↓q_callV8, ↓q_callI8, ↓q_iret, ↓q_lret, ↓q_vret, q_e_i_int, q_e_l_long, q_e_a_ref, q_e_a_null, q_cat_int, q_cat_ref, q_cat_null, q_cat_long, q_na_int, q_lgt_z, q_lgt_s, q_lst0, q_lst1, q_lstS, q_lst20, q_lst21, q_lst2S, q_clr_i, q_clr_r, q_clr_n, q_clr_0, q_clr_l, q_cv_i, q_cv_l, q_cv_r, q_rv_s, q_rv_n, q_toL_s, q_toL_n, true_and, and_true, Nat.reduceAdd, s33, s34, s35, s36, s37, s38, s39, s40, s41, s42, s43, s44, s45, s46, r33_3, r33_4, r33_6, r33_7, r33_8, r33_10, r33_11, r33_12, r33_13, r33_15, r33_16, r33_18, r33_19, nI_inc]
        exact ih
      have h160 : ¬ m_shut I l k → Go (g, M_M_gapIn, 3, n, z, 0, 0, Q) 160 [some (.ref (gB g + 33)), some (.int (nI a)), some (.int l), some (.int f), some (.int (oV bf)), some (.int (m_gc I f l (m_gl I f g0 nl) k)), some (.int (nI k))] [.int (I 40 k), .int f, .int (m_gc I f l (m_gl I f g0 nl) k)] (n, z, S, I, J, R) := by
        intro hA
        rw [bI_f hA] at h161
        refine go_wp B_M_gapIn_160_ok ?_; simp only [B_M_gapIn_160, ↓q_nil, ↓q_iconst, ↓q_bipush, ↓q_sipush, ↓q_ldc, ↓q_lconst, ↓q_ldc2, ↓q_null, ↓q_iload, ↓q_iload_n, ↓q_lload, ↓q_lload_n, ↓q_aload, ↓q_aload_n, ↓q_istore, ↓q_istore_n, ↓q_lstore, ↓q_lstore_n, ↓q_astore, ↓q_astore_n, ↓q_iinc, ↓q_iadd, ↓q_isub, ↓q_imul, ↓q_iand, ↓q_idiv, ↓q_irem, ↓q_ineg, ↓q_ladd, ↓q_lsub, ↓q_lmul, ↓q_land, ↓q_ldiv, ↓q_lrem, ↓q_i2l, ↓q_l2i, ↓q_dup, ↓q_pop, ↓q_dup2, ↓q_dup_x1, ↓q_goto, ↓q_if_eq, ↓q_if_ne, ↓q_if_lt, ↓q_if_ge, ↓q_if_gt, ↓q_if_le, ↓q_icmp_eq, ↓q_icmp_ne, ↓q_icmp_lt, ↓q_icmp_ge, ↓q_icmp_gt, ↓q_icmp_le, ↓q_ifnullN, ↓q_ifnull, ↓q_ifnonnullN, ↓q_ifnonnull, ↓q_table, ↓q_lookup, ↓q_getf, ↓q_putI, ↓q_putJ, ↓q_putR, ↓q_iald, ↓q_sld, ↓q_slen, ↓q_alen, ↓q_iast, ↓q_bald, ↓q_bast, ↓q_aald, ↓q_aast, ↓q_newa, ↓q_newq, ↓q_new, ↓q_objInit, ↓q_max, ↓q_min, ↓q_copy, ↓q_callS0, ↓q_callV0, ↓q_callI0, ↓q_callS1, ↓q_callV1, ↓q_callI1, ↓q_callS2, ↓q_callV2, ↓q_callI2, ↓q_callS3, ↓q_callV3, ↓q_callI3, ↓q_callS4, ↓q_callV4, ↓q_callI4, ↓q_callS5, ↓q_callV5, ↓q_callI5, ↓q_callS6, ↓q_callV6, ↓q_callI6, ↓q_callS7, ↓q_callV7, ↓q_callI7, ↓q_callS8, ↓q_callV8, ↓q_callI8, ↓q_iret, ↓q_lret, ↓q_vret, q_e_i_int, q_e_l_long, q_e_a_ref, q_e_a_null, q_cat_int, q_cat_ref, q_cat_null, q_cat_long, q_na_int, q_lgt_z, q_lgt_s, q_lst0, q_lst1, q_lstS, q_lst20, q_lst21, q_lst2S, q_clr_i, q_clr_r, q_clr_n, q_clr_0, q_clr_l, q_cv_i, q_cv_l, q_cv_r, q_rv_s, q_rv_n, q_toL_s, q_toL_n, true_and, and_true, Nat.reduceAdd, s33, s34, s35, s36, s37, s38, s39, s40, s41, s42, s43, s44, s45, s46, r33_3, r33_4, r33_6, r33_7, r33_8, r33_10, r33_11, r33_12, r33_13, r33_15, r33_16, r33_18, r33_19]
        exact h161
      have hv := vp_nI hk6 (by decide)
      refine go_wp B_M_gapIn_98_ok ?_; simp only [B_M_gapIn_98, ↓q_nil, ↓q_iconst, ↓q_bipush, ↓q_sipush, ↓q_ldc, ↓q_lconst, ↓q_ldc2, ↓q_null, ↓q_iload, ↓q_iload_n, ↓q_lload, ↓q_lload_n, ↓q_aload, ↓q_aload_n, ↓q_istore, ↓q_istore_n, ↓q_lstore, ↓q_lstore_n, ↓q_astore, ↓q_astore_n, ↓q_iinc, ↓q_iadd, ↓q_isub, ↓q_imul, ↓q_iand, ↓q_idiv, ↓q_irem, ↓q_ineg, ↓q_ladd, ↓q_lsub, ↓q_lmul, ↓q_land, ↓q_ldiv, ↓q_lrem, ↓q_i2l, ↓q_l2i, ↓q_dup, ↓q_pop, ↓q_dup2, ↓q_dup_x1, ↓q_goto, ↓q_if_eq, ↓q_if_ne, ↓q_if_lt, ↓q_if_ge, ↓q_if_gt, ↓q_if_le, ↓q_icmp_eq, ↓q_icmp_ne, ↓q_icmp_lt, ↓q_icmp_ge, ↓q_icmp_gt, ↓q_icmp_le, ↓q_ifnullN, ↓q_ifnull, ↓q_ifnonnullN, ↓q_ifnonnull, ↓q_table, ↓q_lookup, ↓q_getf, ↓q_putI, ↓q_putJ, ↓q_putR, ↓q_iald, ↓q_sld, ↓q_slen, ↓q_alen, ↓q_iast, ↓q_bald, ↓q_bast, ↓q_aald, ↓q_aast, ↓q_newa, ↓q_newq, ↓q_new, ↓q_objInit, ↓q_max, ↓q_min, ↓q_copy, ↓q_callS0, ↓q_callV0, ↓q_callI0, ↓q_callS1, ↓q_callV1, ↓q_callI1, ↓q_callS2, ↓q_callV2, ↓q_callI2, ↓q_callS3, ↓q_callV3, ↓q_callI3, ↓q_callS4, ↓q_callV4, ↓q_callI4, ↓q_callS5, ↓q_callV5, ↓q_callI5, ↓q_callS6, ↓q_callV6, ↓q_callI6, ↓q_callS7, ↓q_callV7, ↓q_callI7, ↓q_callS8, ↓q_callV8, ↓q_callI8, ↓q_iret, ↓q_lret, ↓q_vret, q_e_i_int, q_e_l_long, q_e_a_ref, q_e_a_null, q_cat_int, q_cat_ref, q_cat_null, q_cat_long, q_na_int, q_lgt_z, q_lgt_s, q_lst0, q_lst1, q_lstS, q_lst20, q_lst21, q_lst2S, q_clr_i, q_clr_r, q_clr_n, q_clr_0, q_clr_l, q_cv_i, q_cv_l, q_cv_r, q_rv_s, q_rv_n, q_toL_s, q_toL_n, true_and, and_true, Nat.reduceAdd, s33, s34, s35, s36, s37, s38, s39, s40, s41, s42, s43, s44, s45, s46, r33_3, r33_4, r33_6, r33_7, r33_8, r33_10, r33_11, r33_12, r33_13, r33_15, r33_16, r33_18, r33_19, hnc, cl_nI (show k < 2147483648 by omega)]
      refine ⟨fun _ => ⟨hv, hv, fun h1 => ?_, fun h1 => h160 (fun q => h1 q.1)⟩, fun h => absurd (nI_lt hk (by omega)) h⟩
      refine call_ro (c_now hs) (by decide) rfl (Nat.le_refl _) (Nat.le_refl _) ?_
      simp only [↓q_nil, ↓q_iconst, ↓q_bipush, ↓q_sipush, ↓q_ldc, ↓q_lconst, ↓q_ldc2, ↓q_null, ↓q_iload, ↓q_iload_n, ↓q_lload, ↓q_lload_n, ↓q_aload, ↓q_aload_n, ↓q_istore, ↓q_istore_n, ↓q_lstore, ↓q_lstore_n, ↓q_astore, ↓q_astore_n, ↓q_iinc, ↓q_iadd, ↓q_isub, ↓q_imul, ↓q_iand, ↓q_idiv, ↓q_irem, ↓q_ineg, ↓q_ladd, ↓q_lsub, ↓q_lmul, ↓q_land, ↓q_ldiv, ↓q_lrem, ↓q_i2l, ↓q_l2i, ↓q_dup, ↓q_pop, ↓q_dup2, ↓q_dup_x1, ↓q_goto, ↓q_if_eq, ↓q_if_ne, ↓q_if_lt, ↓q_if_ge, ↓q_if_gt, ↓q_if_le, ↓q_icmp_eq, ↓q_icmp_ne, ↓q_icmp_lt, ↓q_icmp_ge, ↓q_icmp_gt, ↓q_icmp_le, ↓q_ifnullN, ↓q_ifnull, ↓q_ifnonnullN, ↓q_ifnonnull, ↓q_table, ↓q_lookup, ↓q_getf, ↓q_putI, ↓q_putJ, ↓q_putR, ↓q_iald, ↓q_sld, ↓q_slen, ↓q_alen, ↓q_iast, ↓q_bald, ↓q_bast, ↓q_aald, ↓q_aast, ↓q_newa, ↓q_newq, ↓q_new, ↓q_objInit, ↓q_max, ↓q_min, ↓q_copy, ↓q_callS0, ↓q_callV0, ↓q_callI0, ↓q_callS1, ↓q_callV1, ↓q_callI1, ↓q_callS2, ↓q_callV2, ↓q_callI2, ↓q_callS3, ↓q_callV3, ↓q_callI3, ↓q_callS4, ↓q_callV4, ↓q_callI4, ↓q_callS5, ↓q_callV5, ↓q_callI5, ↓q_callS6, ↓q_callV6, ↓q_callI6, ↓q_callS7, ↓q_callV7, ↓q_callI7, ↓q_callS8, ↓q_callV8, ↓q_callI8, ↓q_iret, ↓q_lret, ↓q_vret, q_e_i_int, q_e_l_long, q_e_a_ref, q_e_a_null, q_cat_int, q_cat_ref, q_cat_null, q_cat_long, q_na_int, q_lgt_z, q_lgt_s, q_lst0, q_lst1, q_lstS, q_lst20, q_lst21, q_lst2S, q_clr_i, q_clr_r, q_clr_n, q_clr_0, q_clr_l, q_cv_i, q_cv_l, q_cv_r, q_rv_s, q_rv_n, q_toL_s, q_toL_n, true_and, and_true, Nat.reduceAdd, s33, s34, s35, s36, s37, s38, s39, s40, s41, s42, s43, s44, s45, s46, r33_3, r33_4, r33_6, r33_7, r33_8, r33_10, r33_11, r33_12, r33_13, r33_15, r33_16, r33_18, r33_19, cl_nI (show k < 2147483648 by omega)]
      refine ⟨hv, fun h2 => h160 (fun q => Int32.not_lt.mpr q.2.1 h2), fun h2 => ?_⟩
      refine call_ro (c_now hs) (by decide) rfl (Nat.le_refl _) (Nat.le_refl _) ?_
      simp only [↓q_nil, ↓q_iconst, ↓q_bipush, ↓q_sipush, ↓q_ldc, ↓q_lconst, ↓q_ldc2, ↓q_null, ↓q_iload, ↓q_iload_n, ↓q_lload, ↓q_lload_n, ↓q_aload, ↓q_aload_n, ↓q_istore, ↓q_istore_n, ↓q_lstore, ↓q_lstore_n, ↓q_astore, ↓q_astore_n, ↓q_iinc, ↓q_iadd, ↓q_isub, ↓q_imul, ↓q_iand, ↓q_idiv, ↓q_irem, ↓q_ineg, ↓q_ladd, ↓q_lsub, ↓q_lmul, ↓q_land, ↓q_ldiv, ↓q_lrem, ↓q_i2l, ↓q_l2i, ↓q_dup, ↓q_pop, ↓q_dup2, ↓q_dup_x1, ↓q_goto, ↓q_if_eq, ↓q_if_ne, ↓q_if_lt, ↓q_if_ge, ↓q_if_gt, ↓q_if_le, ↓q_icmp_eq, ↓q_icmp_ne, ↓q_icmp_lt, ↓q_icmp_ge, ↓q_icmp_gt, ↓q_icmp_le, ↓q_ifnullN, ↓q_ifnull, ↓q_ifnonnullN, ↓q_ifnonnull, ↓q_table, ↓q_lookup, ↓q_getf, ↓q_putI, ↓q_putJ, ↓q_putR, ↓q_iald, ↓q_sld, ↓q_slen, ↓q_alen, ↓q_iast, ↓q_bald, ↓q_bast, ↓q_aald, ↓q_aast, ↓q_newa, ↓q_newq, ↓q_new, ↓q_objInit, ↓q_max, ↓q_min, ↓q_copy, ↓q_callS0, ↓q_callV0, ↓q_callI0, ↓q_callS1, ↓q_callV1, ↓q_callI1, ↓q_callS2, ↓q_callV2, ↓q_callI2, ↓q_callS3, ↓q_callV3, ↓q_callI3, ↓q_callS4, ↓q_callV4, ↓q_callI4, ↓q_callS5, ↓q_callV5, ↓q_callI5, ↓q_callS6, ↓q_callV6, ↓q_callI6, ↓q_callS7, ↓q_callV7, ↓q_callI7, ↓q_callS8, ↓q_callV8, ↓q_callI8, ↓q_iret, ↓q_lret, ↓q_vret, q_e_i_int, q_e_l_long, q_e_a_ref, q_e_a_null, q_cat_int, q_cat_ref, q_cat_null, q_cat_long, q_na_int, q_lgt_z, q_lgt_s, q_lst0, q_lst1, q_lstS, q_lst20, q_lst21, q_lst2S, q_clr_i, q_clr_r, q_clr_n, q_clr_0, q_clr_l, q_cv_i, q_cv_l, q_cv_r, q_rv_s, q_rv_n, q_toL_s, q_toL_n, true_and, and_true, Nat.reduceAdd, s33, s34, s35, s36, s37, s38, s39, s40, s41, s42, s43, s44, s45, s46, r33_3, r33_4, r33_6, r33_7, r33_8, r33_10, r33_11, r33_12, r33_13, r33_15, r33_16, r33_18, r33_19, cl_nI (show k < 2147483648 by omega)]
      refine ⟨hv, fun h3 => ?_, fun h3 => h160 (fun q => h3 q.2.2)⟩
      rw [bI_t (show m_shut I l k from ⟨h1, Int32.not_lt.mp h2, h3⟩)] at h161
      exact h161
  have h38 : Go (g, M_M_gapIn, 3, n, z, 0, 0, Q) 38 [some (.ref (gB g + 33)), some (.int (nI a)), some (.int l), some (.int f), some (.int (oV bf)), some (.int (m_gl I f g0 0)), some (.int (nI 0))] [] (n, z, S, I, J, R) := by
    refine go_loop (P := fun k => Go (g, M_M_gapIn, 3, n, z, 0, 0, Q) 38 [some (.ref (gB g + 33)), some (.int (nI a)), some (.int l), some (.int f), some (.int (oV bf)), some (.int (m_gl I f g0 k)), some (.int (nI k))] [] (n, z, S, I, J, R)) nl ?_ ?_
    · refine go_wp B_M_gapIn_38_ok ?_; simp only [B_M_gapIn_38, ↓q_nil, ↓q_iconst, ↓q_bipush, ↓q_sipush, ↓q_ldc, ↓q_lconst, ↓q_ldc2, ↓q_null, ↓q_iload, ↓q_iload_n, ↓q_lload, ↓q_lload_n, ↓q_aload, ↓q_aload_n, ↓q_istore, ↓q_istore_n, ↓q_lstore, ↓q_lstore_n, ↓q_astore, ↓q_astore_n, ↓q_iinc, ↓q_iadd, ↓q_isub, ↓q_imul, ↓q_iand, ↓q_idiv, ↓q_irem, ↓q_ineg, ↓q_ladd, ↓q_lsub, ↓q_lmul, ↓q_land, ↓q_ldiv, ↓q_lrem, ↓q_i2l, ↓q_l2i, ↓q_dup, ↓q_pop, ↓q_dup2, ↓q_dup_x1, ↓q_goto, ↓q_if_eq, ↓q_if_ne, ↓q_if_lt, ↓q_if_ge, ↓q_if_gt, ↓q_if_le, ↓q_icmp_eq, ↓q_icmp_ne, ↓q_icmp_lt, ↓q_icmp_ge, ↓q_icmp_gt, ↓q_icmp_le, ↓q_ifnullN, ↓q_ifnull, ↓q_ifnonnullN, ↓q_ifnonnull, ↓q_table, ↓q_lookup, ↓q_getf, ↓q_putI, ↓q_putJ, ↓q_putR, ↓q_iald, ↓q_sld, ↓q_slen, ↓q_alen, ↓q_iast, ↓q_bald, ↓q_bast, ↓q_aald, ↓q_aast, ↓q_newa, ↓q_newq, ↓q_new, ↓q_objInit, ↓q_max, ↓q_min, ↓q_copy, ↓q_callS0, ↓q_callV0, ↓q_callI0, ↓q_callS1, ↓q_callV1, ↓q_callI1, ↓q_callS2, ↓q_callV2, ↓q_callI2, ↓q_callS3, ↓q_callV3, ↓q_callI3, ↓q_callS4, ↓q_callV4, ↓q_callI4, ↓q_callS5, ↓q_callV5, ↓q_callI5, ↓q_callS6, ↓q_callV6, ↓q_callI6, ↓q_callS7, ↓q_callV7, ↓q_callI7, ↓q_callS8, ↓q_callV8, ↓q_callI8, ↓q_iret, ↓q_lret, ↓q_vret, q_e_i_int, q_e_l_long, q_e_a_ref, q_e_a_null, q_cat_int, q_cat_ref, q_cat_null, q_cat_long, q_na_int, q_lgt_z, q_lgt_s, q_lst0, q_lst1, q_lstS, q_lst20, q_lst21, q_lst2S, q_clr_i, q_clr_r, q_clr_n, q_clr_0, q_clr_l, q_cv_i, q_cv_l, q_cv_r, q_rv_s, q_rv_n, q_toL_s, q_toL_n, true_and, and_true, Nat.reduceAdd, s33, s34, s35, s36, s37, s38, s39, s40, s41, s42, s43, s44, s45, s46, r33_3, r33_4, r33_6, r33_7, r33_8, r33_10, r33_11, r33_12, r33_13, r33_15, r33_16, r33_18, r33_19, hnl]
      refine ⟨fun h => absurd h (nI_nlt (Nat.le_refl _) (by omega)), fun _ => ?_⟩
      refine go_wp B_M_gapIn_95_ok ?_; simp only [B_M_gapIn_95, ↓q_nil, ↓q_iconst, ↓q_bipush, ↓q_sipush, ↓q_ldc, ↓q_lconst, ↓q_ldc2, ↓q_null, ↓q_iload, ↓q_iload_n, ↓q_lload, ↓q_lload_n, ↓q_aload, ↓q_aload_n, ↓q_istore, ↓q_istore_n, ↓q_lstore, ↓q_lstore_n, ↓q_astore, ↓q_astore_n, ↓q_iinc, ↓q_iadd, ↓q_isub, ↓q_imul, ↓q_iand, ↓q_idiv, ↓q_irem, ↓q_ineg, ↓q_ladd, ↓q_lsub, ↓q_lmul, ↓q_land, ↓q_ldiv, ↓q_lrem, ↓q_i2l, ↓q_l2i, ↓q_dup, ↓q_pop, ↓q_dup2, ↓q_dup_x1, ↓q_goto, ↓q_if_eq, ↓q_if_ne, ↓q_if_lt, ↓q_if_ge, ↓q_if_gt, ↓q_if_le, ↓q_icmp_eq, ↓q_icmp_ne, ↓q_icmp_lt, ↓q_icmp_ge, ↓q_icmp_gt, ↓q_icmp_le, ↓q_ifnullN, ↓q_ifnull, ↓q_ifnonnullN, ↓q_ifnonnull, ↓q_table, ↓q_lookup, ↓q_getf, ↓q_putI, ↓q_putJ, ↓q_putR, ↓q_iald, ↓q_sld, ↓q_slen, ↓q_alen, ↓q_iast, ↓q_bald, ↓q_bast, ↓q_aald, ↓q_aast, ↓q_newa, ↓q_newq, ↓q_new, ↓q_objInit, ↓q_max, ↓q_min, ↓q_copy, ↓q_callS0, ↓q_callV0, ↓q_callI0, ↓q_callS1, ↓q_callV1, ↓q_callI1, ↓q_callS2, ↓q_callV2, ↓q_callI2, ↓q_callS3, ↓q_callV3, ↓q_callI3, ↓q_callS4, ↓q_callV4, ↓q_callI4, ↓q_callS5, ↓q_callV5, ↓q_callI5, ↓q_callS6, ↓q_callV6, ↓q_callI6, ↓q_callS7, ↓q_callV7, ↓q_callI7, ↓q_callS8, ↓q_callV8, ↓q_callI8, ↓q_iret, ↓q_lret, ↓q_vret, q_e_i_int, q_e_l_long, q_e_a_ref, q_e_a_null, q_cat_int, q_cat_ref, q_cat_null, q_cat_long, q_na_int, q_lgt_z, q_lgt_s, q_lst0, q_lst1, q_lstS, q_lst20, q_lst21, q_lst2S, q_clr_i, q_clr_r, q_clr_n, q_clr_0, q_clr_l, q_cv_i, q_cv_l, q_cv_r, q_rv_s, q_rv_n, q_toL_s, q_toL_n, true_and, and_true, Nat.reduceAdd, s33, s34, s35, s36, s37, s38, s39, s40, s41, s42, s43, s44, s45, s46, r33_3, r33_4, r33_6, r33_7, r33_8, r33_10, r33_11, r33_12, r33_13, r33_15, r33_16, r33_18, r33_19]
      exact h98
    · intro k hk ih
      have hk4 : k < 4 := by omega
      have h84 : Go (g, M_M_gapIn, 3, n, z, 0, 0, Q) 84 [some (.ref (gB g + 33)), some (.int (nI a)), some (.int l), some (.int f), some (.int (oV bf)), some (.int (m_gl I f g0 k)), some (.int (nI k))] [.int (bI (m_red I k)), .int (I 36 k), .int f, .int (m_gl I f g0 k)] (n, z, S, I, J, R) := by
        refine go_wp B_M_gapIn_84_ok ?_; simp only [B_M_gapIn_84, ↓q_nil, ↓q_iconst, ↓q_bipush, ↓q_sipush, ↓q_ldc, ↓q_lconst, ↓q_ldc2, ↓q_null, ↓q_iload, ↓q_iload_n, ↓q_lload, ↓q_lload_n, ↓q_aload, ↓q_aload_n, ↓q_istore, ↓q_istore_n, ↓q_lstore, ↓q_lstore_n, ↓q_astore, ↓q_astore_n, ↓q_iinc, ↓q_iadd, ↓q_isub, ↓q_imul, ↓q_iand, ↓q_idiv, ↓q_irem, ↓q_ineg, ↓q_ladd, ↓q_lsub, ↓q_lmul, ↓q_land, ↓q_ldiv, ↓q_lrem, ↓q_i2l, ↓q_l2i, ↓q_dup, ↓q_pop, ↓q_dup2, ↓q_dup_x1, ↓q_goto, ↓q_if_eq, ↓q_if_ne, ↓q_if_lt, ↓q_if_ge, ↓q_if_gt, ↓q_if_le, ↓q_icmp_eq, ↓q_icmp_ne, ↓q_icmp_lt, ↓q_icmp_ge, ↓q_icmp_gt, ↓q_icmp_le, ↓q_ifnullN, ↓q_ifnull, ↓q_ifnonnullN, ↓q_ifnonnull, ↓q_table, ↓q_lookup, ↓q_getf, ↓q_putI, ↓q_putJ, ↓q_putR, ↓q_iald, ↓q_sld, ↓q_slen, ↓q_alen, ↓q_iast, ↓q_bald, ↓q_bast, ↓q_aald, ↓q_aast, ↓q_newa, ↓q_newq, ↓q_new, ↓q_objInit, ↓q_max, ↓q_min, ↓q_copy, ↓q_callS0, ↓q_callV0, ↓q_callI0, ↓q_callS1, ↓q_callV1, ↓q_callI1, ↓q_callS2, ↓q_callV2, ↓q_callI2, ↓q_callS3, ↓q_callV3, ↓q_callI3, ↓q_callS4, ↓q_callV4, ↓q_callI4, ↓q_callS5, ↓q_callV5, ↓q_callI5, ↓q_callS6, ↓q_callV6, ↓q_callI6, ↓q_callS7, ↓q_callV7, ↓q_callI7, ↓q_callS8, ↓q_callV8, ↓q_callI8, ↓q_iret, ↓q_lret, ↓q_vret, q_e_i_int, q_e_l_long, q_e_a_ref, q_e_a_null, q_cat_int, q_cat_ref, q_cat_null, q_cat_long, q_na_int, q_lgt_z, q_lgt_s, q_lst0, q_lst1, q_lstS, q_lst20, q_lst21, q_lst2S, q_clr_i, q_clr_r, q_clr_n, q_clr_0, q_clr_l, q_cv_i, q_cv_l, q_cv_r, q_rv_s, q_rv_n, q_toL_s, q_toL_n, true_and, and_true, Nat.reduceAdd, s33, s34, s35, s36, s37, s38, s39, s40, s41, s42, s43, s44, s45, s46, r33_3, r33_4, r33_6, r33_7, r33_8, r33_10, r33_11, r33_12, r33_13, r33_15, r33_16, r33_18, r33_19]
        refine call_ro (c_nearer (m_red I k)) (by decide) rfl (Nat.le_refl _) (Nat.le_refl _) ?_
        simp only [↓q_nil, ↓q_iconst, ↓q_bipush, ↓q_sipush, ↓q_ldc, ↓q_lconst, ↓q_ldc2, ↓q_null, ↓q_iload, ↓q_iload_n, ↓q_lload, ↓q_lload_n, ↓q_aload, ↓q_aload_n, ↓q_istore, ↓q_istore_n, ↓q_lstore, ↓q_lstore_n, ↓q_astore, ↓q_astore_n, ↓q_iinc, ↓q_iadd, ↓q_isub, ↓q_imul, ↓q_iand, ↓q_idiv, ↓q_irem, ↓q_ineg, ↓q_ladd, ↓q_lsub, ↓q_lmul, ↓q_land, ↓q_ldiv, ↓q_lrem, ↓q_i2l, ↓q_l2i, ↓q_dup, ↓q_pop, ↓q_dup2, ↓q_dup_x1, ↓q_goto, ↓q_if_eq, ↓q_if_ne, ↓q_if_lt, ↓q_if_ge, ↓q_if_gt, ↓q_if_le, ↓q_icmp_eq, ↓q_icmp_ne, ↓q_icmp_lt, ↓q_icmp_ge, ↓q_icmp_gt, ↓q_icmp_le, ↓q_ifnullN, ↓q_ifnull, ↓q_ifnonnullN, ↓q_ifnonnull, ↓q_table, ↓q_lookup, ↓q_getf, ↓q_putI, ↓q_putJ, ↓q_putR, ↓q_iald, ↓q_sld, ↓q_slen, ↓q_alen, ↓q_iast, ↓q_bald, ↓q_bast, ↓q_aald, ↓q_aast, ↓q_newa, ↓q_newq, ↓q_new, ↓q_objInit, ↓q_max, ↓q_min, ↓q_copy, ↓q_callS0, ↓q_callV0, ↓q_callI0, ↓q_callS1, ↓q_callV1, ↓q_callI1, ↓q_callS2, ↓q_callV2, ↓q_callI2, ↓q_callS3, ↓q_callV3, ↓q_callI3, ↓q_callS4, ↓q_callV4, ↓q_callI4, ↓q_callS5, ↓q_callV5, ↓q_callI5, ↓q_callS6, ↓q_callV6, ↓q_callI6, ↓q_callS7, ↓q_callV7, ↓q_callI7, ↓q_callS8, ↓q_callV8, ↓q_callI8, ↓q_iret, ↓q_lret, ↓q_vret, q_e_i_int, q_e_l_long, q_e_a_ref, q_e_a_null, q_cat_int, q_cat_ref, q_cat_null, q_cat_long, q_na_int, q_lgt_z, q_lgt_s, q_lst0, q_lst1, q_lstS, q_lst20, q_lst21, q_lst2S, q_clr_i, q_clr_r, q_clr_n, q_clr_0, q_clr_l, q_cv_i, q_cv_l, q_cv_r, q_rv_s, q_rv_n, q_toL_s, q_toL_n, true_and, and_true, Nat.reduceAdd, s33, s34, s35, s36, s37, s38, s39, s40, s41, s42, s43, s44, s45, s46, r33_3, r33_4, r33_6, r33_7, r33_8, r33_10, r33_11, r33_12, r33_13, r33_15, r33_16, r33_18, r33_19, nI_inc]
        exact ih
      have hv := vp_nI hk4 (by decide)
      refine go_wp B_M_gapIn_38_ok ?_; simp only [B_M_gapIn_38, ↓q_nil, ↓q_iconst, ↓q_bipush, ↓q_sipush, ↓q_ldc, ↓q_lconst, ↓q_ldc2, ↓q_null, ↓q_iload, ↓q_iload_n, ↓q_lload, ↓q_lload_n, ↓q_aload, ↓q_aload_n, ↓q_istore, ↓q_istore_n, ↓q_lstore, ↓q_lstore_n, ↓q_astore, ↓q_astore_n, ↓q_iinc, ↓q_iadd, ↓q_isub, ↓q_imul, ↓q_iand, ↓q_idiv, ↓q_irem, ↓q_ineg, ↓q_ladd, ↓q_lsub, ↓q_lmul, ↓q_land, ↓q_ldiv, ↓q_lrem, ↓q_i2l, ↓q_l2i, ↓q_dup, ↓q_pop, ↓q_dup2, ↓q_dup_x1, ↓q_goto, ↓q_if_eq, ↓q_if_ne, ↓q_if_lt, ↓q_if_ge, ↓q_if_gt, ↓q_if_le, ↓q_icmp_eq, ↓q_icmp_ne, ↓q_icmp_lt, ↓q_icmp_ge, ↓q_icmp_gt, ↓q_icmp_le, ↓q_ifnullN, ↓q_ifnull, ↓q_ifnonnullN, ↓q_ifnonnull, ↓q_table, ↓q_lookup, ↓q_getf, ↓q_putI, ↓q_putJ, ↓q_putR, ↓q_iald, ↓q_sld, ↓q_slen, ↓q_alen, ↓q_iast, ↓q_bald, ↓q_bast, ↓q_aald, ↓q_aast, ↓q_newa, ↓q_newq, ↓q_new, ↓q_objInit, ↓q_max, ↓q_min, ↓q_copy, ↓q_callS0, ↓q_callV0, ↓q_callI0, ↓q_callS1, ↓q_callV1, ↓q_callI1, ↓q_callS2, ↓q_callV2, ↓q_callI2, ↓q_callS3, ↓q_callV3, ↓q_callI3, ↓q_callS4, ↓q_callV4, ↓q_callI4, ↓q_callS5, ↓q_callV5, ↓q_callI5, ↓q_callS6, ↓q_callV6, ↓q_callI6, ↓q_callS7, ↓q_callV7, ↓q_callI7, ↓q_callS8, ↓q_callV8, ↓q_callI8, ↓q_iret, ↓q_lret, ↓q_vret, q_e_i_int, q_e_l_long, q_e_a_ref, q_e_a_null, q_cat_int, q_cat_ref, q_cat_null, q_cat_long, q_na_int, q_lgt_z, q_lgt_s, q_lst0, q_lst1, q_lstS, q_lst20, q_lst21, q_lst2S, q_clr_i, q_clr_r, q_clr_n, q_clr_0, q_clr_l, q_cv_i, q_cv_l, q_cv_r, q_rv_s, q_rv_n, q_toL_s, q_toL_n, true_and, and_true, Nat.reduceAdd, s33, s34, s35, s36, s37, s38, s39, s40, s41, s42, s43, s44, s45, s46, r33_3, r33_4, r33_6, r33_7, r33_8, r33_10, r33_11, r33_12, r33_13, r33_15, r33_16, r33_18, r33_19, hnl, cl_nI (show k < 2147483648 by omega)]
      refine ⟨fun _ => ⟨hv, ?_⟩, fun h => absurd (nI_lt hk (by omega)) h⟩
      refine call_ro (c_now hs) (by decide) rfl (Nat.le_refl _) (Nat.le_refl _) ?_
      simp only [↓q_nil, ↓q_iconst, ↓q_bipush, ↓q_sipush, ↓q_ldc, ↓q_lconst, ↓q_ldc2, ↓q_null, ↓q_iload, ↓q_iload_n, ↓q_lload, ↓q_lload_n, ↓q_aload, ↓q_aload_n, ↓q_istore, ↓q_istore_n, ↓q_lstore, ↓q_lstore_n, ↓q_astore, ↓q_astore_n, ↓q_iinc, ↓q_iadd, ↓q_isub, ↓q_imul, ↓q_iand, ↓q_idiv, ↓q_irem, ↓q_ineg, ↓q_ladd, ↓q_lsub, ↓q_lmul, ↓q_land, ↓q_ldiv, ↓q_lrem, ↓q_i2l, ↓q_l2i, ↓q_dup, ↓q_pop, ↓q_dup2, ↓q_dup_x1, ↓q_goto, ↓q_if_eq, ↓q_if_ne, ↓q_if_lt, ↓q_if_ge, ↓q_if_gt, ↓q_if_le, ↓q_icmp_eq, ↓q_icmp_ne, ↓q_icmp_lt, ↓q_icmp_ge, ↓q_icmp_gt, ↓q_icmp_le, ↓q_ifnullN, ↓q_ifnull, ↓q_ifnonnullN, ↓q_ifnonnull, ↓q_table, ↓q_lookup, ↓q_getf, ↓q_putI, ↓q_putJ, ↓q_putR, ↓q_iald, ↓q_sld, ↓q_slen, ↓q_alen, ↓q_iast, ↓q_bald, ↓q_bast, ↓q_aald, ↓q_aast, ↓q_newa, ↓q_newq, ↓q_new, ↓q_objInit, ↓q_max, ↓q_min, ↓q_copy, ↓q_callS0, ↓q_callV0, ↓q_callI0, ↓q_callS1, ↓q_callV1, ↓q_callI1, ↓q_callS2, ↓q_callV2, ↓q_callI2, ↓q_callS3, ↓q_callV3, ↓q_callI3, ↓q_callS4, ↓q_callV4, ↓q_callI4, ↓q_callS5, ↓q_callV5, ↓q_callI5, ↓q_callS6, ↓q_callV6, ↓q_callI6, ↓q_callS7, ↓q_callV7, ↓q_callI7, ↓q_callS8, ↓q_callV8, ↓q_callI8, ↓q_iret, ↓q_lret, ↓q_vret, q_e_i_int, q_e_l_long, q_e_a_ref, q_e_a_null, q_cat_int, q_cat_ref, q_cat_null, q_cat_long, q_na_int, q_lgt_z, q_lgt_s, q_lst0, q_lst1, q_lstS, q_lst20, q_lst21, q_lst2S, q_clr_i, q_clr_r, q_clr_n, q_clr_0, q_clr_l, q_cv_i, q_cv_l, q_cv_r, q_rv_s, q_rv_n, q_toL_s, q_toL_n, true_and, and_true, Nat.reduceAdd, s33, s34, s35, s36, s37, s38, s39, s40, s41, s42, s43, s44, s45, s46, r33_3, r33_4, r33_6, r33_7, r33_8, r33_10, r33_11, r33_12, r33_13, r33_15, r33_16, r33_18, r33_19, cl_nI (show k < 2147483648 by omega)]
      refine ⟨hv, hcy k hk, hv, fun h2 => ?_, fun h2 => ?_⟩
      · rw [bI_t (show m_red I k from h2)] at h84
        exact h84
      · refine go_wp B_M_gapIn_83_ok ?_; simp only [B_M_gapIn_83, ↓q_nil, ↓q_iconst, ↓q_bipush, ↓q_sipush, ↓q_ldc, ↓q_lconst, ↓q_ldc2, ↓q_null, ↓q_iload, ↓q_iload_n, ↓q_lload, ↓q_lload_n, ↓q_aload, ↓q_aload_n, ↓q_istore, ↓q_istore_n, ↓q_lstore, ↓q_lstore_n, ↓q_astore, ↓q_astore_n, ↓q_iinc, ↓q_iadd, ↓q_isub, ↓q_imul, ↓q_iand, ↓q_idiv, ↓q_irem, ↓q_ineg, ↓q_ladd, ↓q_lsub, ↓q_lmul, ↓q_land, ↓q_ldiv, ↓q_lrem, ↓q_i2l, ↓q_l2i, ↓q_dup, ↓q_pop, ↓q_dup2, ↓q_dup_x1, ↓q_goto, ↓q_if_eq, ↓q_if_ne, ↓q_if_lt, ↓q_if_ge, ↓q_if_gt, ↓q_if_le, ↓q_icmp_eq, ↓q_icmp_ne, ↓q_icmp_lt, ↓q_icmp_ge, ↓q_icmp_gt, ↓q_icmp_le, ↓q_ifnullN, ↓q_ifnull, ↓q_ifnonnullN, ↓q_ifnonnull, ↓q_table, ↓q_lookup, ↓q_getf, ↓q_putI, ↓q_putJ, ↓q_putR, ↓q_iald, ↓q_sld, ↓q_slen, ↓q_alen, ↓q_iast, ↓q_bald, ↓q_bast, ↓q_aald, ↓q_aast, ↓q_newa, ↓q_newq, ↓q_new, ↓q_objInit, ↓q_max, ↓q_min, ↓q_copy, ↓q_callS0, ↓q_callV0, ↓q_callI0, ↓q_callS1, ↓q_callV1, ↓q_callI1, ↓q_callS2, ↓q_callV2, ↓q_callI2, ↓q_callS3, ↓q_callV3, ↓q_callI3, ↓q_callS4, ↓q_callV4, ↓q_callI4, ↓q_callS5, ↓q_callV5, ↓q_callI5, ↓q_callS6, ↓q_callV6, ↓q_callI6, ↓q_callS7, ↓q_callV7, ↓q_callI7, ↓q_callS8, ↓q_callV8, ↓q_callI8, ↓q_iret, ↓q_lret, ↓q_vret, q_e_i_int, q_e_l_long, q_e_a_ref, q_e_a_null, q_cat_int, q_cat_ref, q_cat_null, q_cat_long, q_na_int, q_lgt_z, q_lgt_s, q_lst0, q_lst1, q_lstS, q_lst20, q_lst21, q_lst2S, q_clr_i, q_clr_r, q_clr_n, q_clr_0, q_clr_l, q_cv_i, q_cv_l, q_cv_r, q_rv_s, q_rv_n, q_toL_s, q_toL_n, true_and, and_true, Nat.reduceAdd, s33, s34, s35, s36, s37, s38, s39, s40, s41, s42, s43, s44, s45, s46, r33_3, r33_4, r33_6, r33_7, r33_8, r33_10, r33_11, r33_12, r33_13, r33_15, r33_16, r33_18, r33_19]
        rw [bI_f (show ¬ m_red I k from h2)] at h84
        exact h84
  have h33 : Go (g, M_M_gapIn, 3, n, z, 0, 0, Q) 33 [some (.ref (gB g + 33)), some (.int (nI a)), some (.int l), some (.int f), some (.int (oV bf)), none, none] [.int g0] (n, z, S, I, J, R) := by
    refine go_wp B_M_gapIn_33_ok ?_; simp only [B_M_gapIn_33, ↓q_nil, ↓q_iconst, ↓q_bipush, ↓q_sipush, ↓q_ldc, ↓q_lconst, ↓q_ldc2, ↓q_null, ↓q_iload, ↓q_iload_n, ↓q_lload, ↓q_lload_n, ↓q_aload, ↓q_aload_n, ↓q_istore, ↓q_istore_n, ↓q_lstore, ↓q_lstore_n, ↓q_astore, ↓q_astore_n, ↓q_iinc, ↓q_iadd, ↓q_isub, ↓q_imul, ↓q_iand, ↓q_idiv, ↓q_irem, ↓q_ineg, ↓q_ladd, ↓q_lsub, ↓q_lmul, ↓q_land, ↓q_ldiv, ↓q_lrem, ↓q_i2l, ↓q_l2i, ↓q_dup, ↓q_pop, ↓q_dup2, ↓q_dup_x1, ↓q_goto, ↓q_if_eq, ↓q_if_ne, ↓q_if_lt, ↓q_if_ge, ↓q_if_gt, ↓q_if_le, ↓q_icmp_eq, ↓q_icmp_ne, ↓q_icmp_lt, ↓q_icmp_ge, ↓q_icmp_gt, ↓q_icmp_le, ↓q_ifnullN, ↓q_ifnull, ↓q_ifnonnullN, ↓q_ifnonnull, ↓q_table, ↓q_lookup, ↓q_getf, ↓q_putI, ↓q_putJ, ↓q_putR, ↓q_iald, ↓q_sld, ↓q_slen, ↓q_alen, ↓q_iast, ↓q_bald, ↓q_bast, ↓q_aald, ↓q_aast, ↓q_newa, ↓q_newq, ↓q_new, ↓q_objInit, ↓q_max, ↓q_min, ↓q_copy, ↓q_callS0, ↓q_callV0, ↓q_callI0, ↓q_callS1, ↓q_callV1, ↓q_callI1, ↓q_callS2, ↓q_callV2, ↓q_callI2, ↓q_callS3, ↓q_callV3, ↓q_callI3, ↓q_callS4, ↓q_callV4, ↓q_callI4, ↓q_callS5, ↓q_callV5, ↓q_callI5, ↓q_callS6, ↓q_callV6, ↓q_callI6, ↓q_callS7, ↓q_callV7, ↓q_callI7, ↓q_callS8, ↓q_callV8, ↓q_callI8, ↓q_iret, ↓q_lret, ↓q_vret, q_e_i_int, q_e_l_long, q_e_a_ref, q_e_a_null, q_cat_int, q_cat_ref, q_cat_null, q_cat_long, q_na_int, q_lgt_z, q_lgt_s, q_lst0, q_lst1, q_lstS, q_lst20, q_lst21, q_lst2S, q_clr_i, q_clr_r, q_clr_n, q_clr_0, q_clr_l, q_cv_i, q_cv_l, q_cv_r, q_rv_s, q_rv_n, q_toL_s, q_toL_n, true_and, and_true, Nat.reduceAdd, s33, s34, s35, s36, s37, s38, s39, s40, s41, s42, s43, s44, s45, s46, r33_3, r33_4, r33_6, r33_7, r33_8, r33_10, r33_11, r33_12, r33_13, r33_15, r33_16, r33_18, r33_19]
    exact h38
  refine go_wp B_M_gapIn_0_ok ?_; simp only [B_M_gapIn_0, ↓q_nil, ↓q_iconst, ↓q_bipush, ↓q_sipush, ↓q_ldc, ↓q_lconst, ↓q_ldc2, ↓q_null, ↓q_iload, ↓q_iload_n, ↓q_lload, ↓q_lload_n, ↓q_aload, ↓q_aload_n, ↓q_istore, ↓q_istore_n, ↓q_lstore, ↓q_lstore_n, ↓q_astore, ↓q_astore_n, ↓q_iinc, ↓q_iadd, ↓q_isub, ↓q_imul, ↓q_iand, ↓q_idiv, ↓q_irem, ↓q_ineg, ↓q_ladd, ↓q_lsub, ↓q_lmul, ↓q_land, ↓q_ldiv, ↓q_lrem, ↓q_i2l, ↓q_l2i, ↓q_dup, ↓q_pop, ↓q_dup2, ↓q_dup_x1, ↓q_goto, ↓q_if_eq, ↓q_if_ne, ↓q_if_lt, ↓q_if_ge, ↓q_if_gt, ↓q_if_le, ↓q_icmp_eq, ↓q_icmp_ne, ↓q_icmp_lt, ↓q_icmp_ge, ↓q_icmp_gt, ↓q_icmp_le, ↓q_ifnullN, ↓q_ifnull, ↓q_ifnonnullN, ↓q_ifnonnull, ↓q_table, ↓q_lookup, ↓q_getf, ↓q_putI, ↓q_putJ, ↓q_putR, ↓q_iald, ↓q_sld, ↓q_slen, ↓q_alen, ↓q_iast, ↓q_bald, ↓q_bast, ↓q_aald, ↓q_aast, ↓q_newa, ↓q_newq, ↓q_new, ↓q_objInit, ↓q_max, ↓q_min, ↓q_copy, ↓q_callS0, ↓q_callV0, ↓q_callI0, ↓q_callS1, ↓q_callV1, ↓q_callI1, ↓q_callS2, ↓q_callV2, ↓q_callI2, ↓q_callS3, ↓q_callV3, ↓q_callI3, ↓q_callS4, ↓q_callV4, ↓q_callI4, ↓q_callS5, ↓q_callV5, ↓q_callI5, ↓q_callS6, ↓q_callV6, ↓q_callI6, ↓q_callS7, ↓q_callV7, ↓q_callI7, ↓q_callS8, ↓q_callV8, ↓q_callI8, ↓q_iret, ↓q_lret, ↓q_vret, q_e_i_int, q_e_l_long, q_e_a_ref, q_e_a_null, q_cat_int, q_cat_ref, q_cat_null, q_cat_long, q_na_int, q_lgt_z, q_lgt_s, q_lst0, q_lst1, q_lstS, q_lst20, q_lst21, q_lst2S, q_clr_i, q_clr_r, q_clr_n, q_clr_0, q_clr_l, q_cv_i, q_cv_l, q_cv_r, q_rv_s, q_rv_n, q_toL_s, q_toL_n, true_and, and_true, Nat.reduceAdd, s33, s34, s35, s36, s37, s38, s39, s40, s41, s42, s43, s44, s45, s46, r33_3, r33_4, r33_6, r33_7, r33_8, r33_10, r33_11, r33_12, r33_13, r33_15, r33_16, r33_18, r33_19]
  refine call_ro (c_of hs (p := 3) ha (by decide)) (by decide) rfl (Nat.le_refl _) (Nat.le_refl _) ?_
  simp only [↓q_nil, ↓q_iconst, ↓q_bipush, ↓q_sipush, ↓q_ldc, ↓q_lconst, ↓q_ldc2, ↓q_null, ↓q_iload, ↓q_iload_n, ↓q_lload, ↓q_lload_n, ↓q_aload, ↓q_aload_n, ↓q_istore, ↓q_istore_n, ↓q_lstore, ↓q_lstore_n, ↓q_astore, ↓q_astore_n, ↓q_iinc, ↓q_iadd, ↓q_isub, ↓q_imul, ↓q_iand, ↓q_idiv, ↓q_irem, ↓q_ineg, ↓q_ladd, ↓q_lsub, ↓q_lmul, ↓q_land, ↓q_ldiv, ↓q_lrem, ↓q_i2l, ↓q_l2i, ↓q_dup, ↓q_pop, ↓q_dup2, ↓q_dup_x1, ↓q_goto, ↓q_if_eq, ↓q_if_ne, ↓q_if_lt, ↓q_if_ge, ↓q_if_gt, ↓q_if_le, ↓q_icmp_eq, ↓q_icmp_ne, ↓q_icmp_lt, ↓q_icmp_ge, ↓q_icmp_gt, ↓q_icmp_le, ↓q_ifnullN, ↓q_ifnull, ↓q_ifnonnullN, ↓q_ifnonnull, ↓q_table, ↓q_lookup, ↓q_getf, ↓q_putI, ↓q_putJ, ↓q_putR, ↓q_iald, ↓q_sld, ↓q_slen, ↓q_alen, ↓q_iast, ↓q_bald, ↓q_bast, ↓q_aald, ↓q_aast, ↓q_newa, ↓q_newq, ↓q_new, ↓q_objInit, ↓q_max, ↓q_min, ↓q_copy, ↓q_callS0, ↓q_callV0, ↓q_callI0, ↓q_callS1, ↓q_callV1, ↓q_callI1, ↓q_callS2, ↓q_callV2, ↓q_callI2, ↓q_callS3, ↓q_callV3, ↓q_callI3, ↓q_callS4, ↓q_callV4, ↓q_callI4, ↓q_callS5, ↓q_callV5, ↓q_callI5, ↓q_callS6, ↓q_callV6, ↓q_callI6, ↓q_callS7, ↓q_callV7, ↓q_callI7, ↓q_callS8, ↓q_callV8, ↓q_callI8, ↓q_iret, ↓q_lret, ↓q_vret, q_e_i_int, q_e_l_long, q_e_a_ref, q_e_a_null, q_cat_int, q_cat_ref, q_cat_null, q_cat_long, q_na_int, q_lgt_z, q_lgt_s, q_lst0, q_lst1, q_lstS, q_lst20, q_lst21, q_lst2S, q_clr_i, q_clr_r, q_clr_n, q_clr_0, q_clr_l, q_cv_i, q_cv_l, q_cv_r, q_rv_s, q_rv_n, q_toL_s, q_toL_n, true_and, and_true, Nat.reduceAdd, s33, s34, s35, s36, s37, s38, s39, s40, s41, s42, s43, s44, s45, s46, r33_3, r33_4, r33_6, r33_7, r33_8, r33_10, r33_11, r33_12, r33_13, r33_15, r33_16, r33_18, r33_19]
  refine call_ro (c_before hs hN hN60 ha) (by decide) rfl (Nat.le_refl _) (Nat.le_refl _) ?_
  simp only [↓q_nil, ↓q_iconst, ↓q_bipush, ↓q_sipush, ↓q_ldc, ↓q_lconst, ↓q_ldc2, ↓q_null, ↓q_iload, ↓q_iload_n, ↓q_lload, ↓q_lload_n, ↓q_aload, ↓q_aload_n, ↓q_istore, ↓q_istore_n, ↓q_lstore, ↓q_lstore_n, ↓q_astore, ↓q_astore_n, ↓q_iinc, ↓q_iadd, ↓q_isub, ↓q_imul, ↓q_iand, ↓q_idiv, ↓q_irem, ↓q_ineg, ↓q_ladd, ↓q_lsub, ↓q_lmul, ↓q_land, ↓q_ldiv, ↓q_lrem, ↓q_i2l, ↓q_l2i, ↓q_dup, ↓q_pop, ↓q_dup2, ↓q_dup_x1, ↓q_goto, ↓q_if_eq, ↓q_if_ne, ↓q_if_lt, ↓q_if_ge, ↓q_if_gt, ↓q_if_le, ↓q_icmp_eq, ↓q_icmp_ne, ↓q_icmp_lt, ↓q_icmp_ge, ↓q_icmp_gt, ↓q_icmp_le, ↓q_ifnullN, ↓q_ifnull, ↓q_ifnonnullN, ↓q_ifnonnull, ↓q_table, ↓q_lookup, ↓q_getf, ↓q_putI, ↓q_putJ, ↓q_putR, ↓q_iald, ↓q_sld, ↓q_slen, ↓q_alen, ↓q_iast, ↓q_bald, ↓q_bast, ↓q_aald, ↓q_aast, ↓q_newa, ↓q_newq, ↓q_new, ↓q_objInit, ↓q_max, ↓q_min, ↓q_copy, ↓q_callS0, ↓q_callV0, ↓q_callI0, ↓q_callS1, ↓q_callV1, ↓q_callI1, ↓q_callS2, ↓q_callV2, ↓q_callI2, ↓q_callS3, ↓q_callV3, ↓q_callI3, ↓q_callS4, ↓q_callV4, ↓q_callI4, ↓q_callS5, ↓q_callV5, ↓q_callI5, ↓q_callS6, ↓q_callV6, ↓q_callI6, ↓q_callS7, ↓q_callV7, ↓q_callI7, ↓q_callS8, ↓q_callV8, ↓q_callI8, ↓q_iret, ↓q_lret, ↓q_vret, q_e_i_int, q_e_l_long, q_e_a_ref, q_e_a_null, q_cat_int, q_cat_ref, q_cat_null, q_cat_long, q_na_int, q_lgt_z, q_lgt_s, q_lst0, q_lst1, q_lstS, q_lst20, q_lst21, q_lst2S, q_clr_i, q_clr_r, q_clr_n, q_clr_0, q_clr_l, q_cv_i, q_cv_l, q_cv_r, q_rv_s, q_rv_n, q_toL_s, q_toL_n, true_and, and_true, Nat.reduceAdd, s33, s34, s35, s36, s37, s38, s39, s40, s41, s42, s43, s44, s45, s46, r33_3, r33_4, r33_6, r33_7, r33_8, r33_10, r33_11, r33_12, r33_13, r33_15, r33_16, r33_18, r33_19]
  rw [hb]
  have hbl : ∀ q, bf = some q → q < 60 := fun q hq => by have := m_bef_lt N q (hb.trans hq); omega
  have hf' : I 34 (20 + 20 * a + 3) = f := hf
  rw [hf']
  cases bf with
  | none =>
    refine ⟨fun _ => ?_, fun h => absurd (by decide) h⟩
    rw [← hg0] at h33
    exact h33
  | some q =>
    have hq := hbl q rfl
    refine ⟨fun h => absurd h (nI_pos (by omega)), fun _ => ?_⟩
    refine go_wp B_M_gapIn_25_ok ?_; simp only [B_M_gapIn_25, ↓q_nil, ↓q_iconst, ↓q_bipush, ↓q_sipush, ↓q_ldc, ↓q_lconst, ↓q_ldc2, ↓q_null, ↓q_iload, ↓q_iload_n, ↓q_lload, ↓q_lload_n, ↓q_aload, ↓q_aload_n, ↓q_istore, ↓q_istore_n, ↓q_lstore, ↓q_lstore_n, ↓q_astore, ↓q_astore_n, ↓q_iinc, ↓q_iadd, ↓q_isub, ↓q_imul, ↓q_iand, ↓q_idiv, ↓q_irem, ↓q_ineg, ↓q_ladd, ↓q_lsub, ↓q_lmul, ↓q_land, ↓q_ldiv, ↓q_lrem, ↓q_i2l, ↓q_l2i, ↓q_dup, ↓q_pop, ↓q_dup2, ↓q_dup_x1, ↓q_goto, ↓q_if_eq, ↓q_if_ne, ↓q_if_lt, ↓q_if_ge, ↓q_if_gt, ↓q_if_le, ↓q_icmp_eq, ↓q_icmp_ne, ↓q_icmp_lt, ↓q_icmp_ge, ↓q_icmp_gt, ↓q_icmp_le, ↓q_ifnullN, ↓q_ifnull, ↓q_ifnonnullN, ↓q_ifnonnull, ↓q_table, ↓q_lookup, ↓q_getf, ↓q_putI, ↓q_putJ, ↓q_putR, ↓q_iald, ↓q_sld, ↓q_slen, ↓q_alen, ↓q_iast, ↓q_bald, ↓q_bast, ↓q_aald, ↓q_aast, ↓q_newa, ↓q_newq, ↓q_new, ↓q_objInit, ↓q_max, ↓q_min, ↓q_copy, ↓q_callS0, ↓q_callV0, ↓q_callI0, ↓q_callS1, ↓q_callV1, ↓q_callI1, ↓q_callS2, ↓q_callV2, ↓q_callI2, ↓q_callS3, ↓q_callV3, ↓q_callI3, ↓q_callS4, ↓q_callV4, ↓q_callI4, ↓q_callS5, ↓q_callV5, ↓q_callI5, ↓q_callS6, ↓q_callV6, ↓q_callI6, ↓q_callS7, ↓q_callV7, ↓q_callI7, ↓q_callS8, ↓q_callV8, ↓q_callI8, ↓q_iret, ↓q_lret, ↓q_vret, q_e_i_int, q_e_l_long, q_e_a_ref, q_e_a_null, q_cat_int, q_cat_ref, q_cat_null, q_cat_long, q_na_int, q_lgt_z, q_lgt_s, q_lst0, q_lst1, q_lstS, q_lst20, q_lst21, q_lst2S, q_clr_i, q_clr_r, q_clr_n, q_clr_0, q_clr_l, q_cv_i, q_cv_l, q_cv_r, q_rv_s, q_rv_n, q_toL_s, q_toL_n, true_and, and_true, Nat.reduceAdd, s33, s34, s35, s36, s37, s38, s39, s40, s41, s42, s43, s44, s45, s46, r33_3, r33_4, r33_6, r33_7, r33_8, r33_10, r33_11, r33_12, r33_13, r33_15, r33_16, r33_18, r33_19]
    refine call_ro (c_rear hs hq) (by decide) rfl (Nat.le_refl _) (Nat.le_refl _) ?_
    simp only [↓q_nil, ↓q_iconst, ↓q_bipush, ↓q_sipush, ↓q_ldc, ↓q_lconst, ↓q_ldc2, ↓q_null, ↓q_iload, ↓q_iload_n, ↓q_lload, ↓q_lload_n, ↓q_aload, ↓q_aload_n, ↓q_istore, ↓q_istore_n, ↓q_lstore, ↓q_lstore_n, ↓q_astore, ↓q_astore_n, ↓q_iinc, ↓q_iadd, ↓q_isub, ↓q_imul, ↓q_iand, ↓q_idiv, ↓q_irem, ↓q_ineg, ↓q_ladd, ↓q_lsub, ↓q_lmul, ↓q_land, ↓q_ldiv, ↓q_lrem, ↓q_i2l, ↓q_l2i, ↓q_dup, ↓q_pop, ↓q_dup2, ↓q_dup_x1, ↓q_goto, ↓q_if_eq, ↓q_if_ne, ↓q_if_lt, ↓q_if_ge, ↓q_if_gt, ↓q_if_le, ↓q_icmp_eq, ↓q_icmp_ne, ↓q_icmp_lt, ↓q_icmp_ge, ↓q_icmp_gt, ↓q_icmp_le, ↓q_ifnullN, ↓q_ifnull, ↓q_ifnonnullN, ↓q_ifnonnull, ↓q_table, ↓q_lookup, ↓q_getf, ↓q_putI, ↓q_putJ, ↓q_putR, ↓q_iald, ↓q_sld, ↓q_slen, ↓q_alen, ↓q_iast, ↓q_bald, ↓q_bast, ↓q_aald, ↓q_aast, ↓q_newa, ↓q_newq, ↓q_new, ↓q_objInit, ↓q_max, ↓q_min, ↓q_copy, ↓q_callS0, ↓q_callV0, ↓q_callI0, ↓q_callS1, ↓q_callV1, ↓q_callI1, ↓q_callS2, ↓q_callV2, ↓q_callI2, ↓q_callS3, ↓q_callV3, ↓q_callI3, ↓q_callS4, ↓q_callV4, ↓q_callI4, ↓q_callS5, ↓q_callV5, ↓q_callI5, ↓q_callS6, ↓q_callV6, ↓q_callI6, ↓q_callS7, ↓q_callV7, ↓q_callI7, ↓q_callS8, ↓q_callV8, ↓q_callI8, ↓q_iret, ↓q_lret, ↓q_vret, q_e_i_int, q_e_l_long, q_e_a_ref, q_e_a_null, q_cat_int, q_cat_ref, q_cat_null, q_cat_long, q_na_int, q_lgt_z, q_lgt_s, q_lst0, q_lst1, q_lstS, q_lst20, q_lst21, q_lst2S, q_clr_i, q_clr_r, q_clr_n, q_clr_0, q_clr_l, q_cv_i, q_cv_l, q_cv_r, q_rv_s, q_rv_n, q_toL_s, q_toL_n, true_and, and_true, Nat.reduceAdd, s33, s34, s35, s36, s37, s38, s39, s40, s41, s42, s43, s44, s45, s46, r33_3, r33_4, r33_6, r33_7, r33_8, r33_10, r33_11, r33_12, r33_13, r33_15, r33_16, r33_18, r33_19]
    rw [← hg0] at h33
    rw [← hf]
    rw [← hf] at h33
    exact h33
end
end
section
/-! the reference: put again (mp), enter -/
def mp (I : Nat → Nat → Int32) (i p : Nat) (v : Int32) : Nat → Nat → Int32 := va_up I 34 (va_up (I 34) (20 + 20 * i + p) v)
theorem mp_34 (I : Nat → Nat → Int32) (i p : Nat) (v : Int32) : mp I i p v 34 = va_up (I 34) (20 + 20 * i + p) v := va_up_self _ _ _
theorem mp_ne (I : Nat → Nat → Int32) (i p : Nat) (v : Int32) {a : Nat} (h : a ≠ 34) : mp I i p v a = I a := va_up_ne _ _ h
theorem mp_lo (I : Nat → Nat → Int32) (i p : Nat) (v : Int32) {k : Nat} (h : k < 20) : mp I i p v 34 k = I 34 k := by
  rw [mp_34, va_up_ne _ _ (by omega)]
theorem MW.mp {I : Nat → Nat → Int32} {N nl nc ns nn i p : Nat} {v : Int32} (h : MW I N nl nc ns nn) : MW (mp I i p v) N nl nc ns nn := by
  obtain ⟨h1, h2, h3, h4, h5, h6⟩ := h
  refine ⟨by rw [mp_lo _ _ _ _ (by decide)]; exact h1, by rw [mp_ne _ _ _ _ (by decide)]; exact h2, by rw [mp_ne _ _ _ _ (by decide)]; exact h3, by rw [mp_ne _ _ _ _ (by decide)]; exact h4, by rw [mp_ne _ _ _ _ (by decide)]; exact h5, by rw [mp_ne _ _ _ _ (by decide)]; exact h6⟩
abbrev m_wt (c : Nat → Int32) (l : Int32) (k : Nat) : Prop := pt c 2 k = 0 ∧ pt c 1 k = l
def m_fw (c : Nat → Int32) (l : Int32) : Nat → Nat → Nat
  | 0, k => k
  | m + 1, k => if m_wt c l k then k else m_fw c l m (k + 1)
theorem m_fw_le {c : Nat → Int32} {l : Int32} : ∀ m k, m_fw c l m k ≤ k + m
  | 0, k => Nat.le_refl k
  | m + 1, k => by
    rw [m_fw]
    split
    · omega
    · have := m_fw_le (c := c) (l := l) m (k + 1)
      omega
theorem m_fw_is {c : Nat → Int32} {l : Int32} : ∀ m k, m_fw c l m k < k + m → m_wt c l (m_fw c l m k)
  | 0, k, h => by rw [m_fw] at h; omega
  | m + 1, k, h => by
    rw [m_fw] at h ⊢
    split at h
    · next hw => rw [if_pos hw]; exact hw
    · next hw => rw [if_neg hw]; exact m_fw_is m (k + 1) (by omega)
theorem m_fw_no {c : Nat → Int32} {l : Int32} : ∀ m k j, k ≤ j → j < m_fw c l m k → ¬ m_wt c l j
  | 0, k, j, h1, h2 => by rw [m_fw] at h2; omega
  | m + 1, k, j, h1, h2 => by
    rw [m_fw] at h2
    split at h2
    · omega
    · next hw =>
      by_cases hj : j = k
      · rw [hj]; exact hw
      · exact m_fw_no m (k + 1) j (by omega) h2
abbrev m_blk (c : Nat → Int32) (l : Int32) (w j : Nat) : Prop := (pt c 2 j = 1 ∧ pt c 1 j = l) ∧ rr c j < pt c 8 w + 200
def m_ent (I : Nat → Nat → Int32) (N nl nc ns w : Nat) (l : Int32) : Nat → Nat → Int32 :=
  let I1 := mp I w 2 1
  let I2 := mp I1 w 3 (pt (I1 34) 8 w)
  let I3 := mp I2 w 5 (I2 34 1)
  let I4 := mp I3 w 7 (I3 34 1)
  mp I4 w 4 (lsr (pt (I4 34) 9 w) (alw (m_gap I4 N nl nc ns w l)))
def m_enter (I : Nat → Nat → Int32) (N nl nc ns : Nat) (l : Int32) : Nat → Nat → Int32 :=
  if m_fw (I 34) l N 0 < N ∧ ∀ j, j < N → ¬ m_blk (I 34) l (m_fw (I 34) l N 0) j then m_ent I N nl nc ns (m_fw (I 34) l N 0) l else I
section
variable {g : GT} {n z : Nat} {S : Nat → Nat × Nat} {I : Nat → Nat → Int32} {J : Nat → Nat → Int64} {R : Nat → Nat → Option Nat}
theorem c_putm (hs : ShM S R) {i p : Nat} {v : Int32} (hi : i < 60) (hp : p < 20) : Cn g M_M_put 0 0 0 [.ref (gB g + 33), .int (nI i), .int (nI p), .int v] (n, z, S, I, J, R) (Is none (n, z, S, mp I i p v, J, R)) := c_put hs hi hp
set_option maxRecDepth 100000 in set_option maxHeartbeats 4000000 in
theorem c_enter (hs : ShM S R) {N nl nc ns nn : Nat} {l : Int32} (hw : MW I N nl nc ns nn) : Cn g M_M_enter 4 0 0 [.ref (gB g + 33), .int l] (n, z, S, I, J, R) (Is none (n, z, S, m_enter I N nl nc ns l, J, R)) := by
  have hs' := hs; obtain ⟨⟨s33, s34, s35, s36, s37, s38, s39, s40, s41, s42, s43, s44, s45, s46⟩, r33_3, r33_4, r33_6, r33_7, r33_8, r33_10, r33_11, r33_12, r33_13, r33_15, r33_16, r33_18, r33_19⟩ := hs'
  obtain ⟨hN, hN60⟩ := hw.1
  refine cn_go (ls := [some (.ref (gB g + 33)), some (.int l), none, none]) kc_M_enter (by decide) rfl rfl ?_
  generalize hQ : Is none (n, z, S, m_enter I N nl nc ns l, J, R) = Q
  rw [m_enter] at hQ
  generalize hww : m_fw (I 34) l N 0 = w at hQ
  have hwN : w ≤ N := by rw [← hww]; have := m_fw_le (c := I 34) (l := l) N 0; omega
  have h46 : w < N → Go (g, M_M_enter, 4, n, z, 0, 0, Q) 46 [some (.ref (gB g + 33)), some (.int l), some (.int (nI w)), some (.int (nI 0))] [] (n, z, S, I, J, R) := by
    intro hlt
    have hw60 : w < 60 := by omega
    refine go_loop (P := fun k => (∀ j, j < k → ¬ m_blk (I 34) l w j) → Go (g, M_M_enter, 4, n, z, 0, 0, Q) 46 [some (.ref (gB g + 33)), some (.int l), some (.int (nI w)), some (.int (nI k))] [] (n, z, S, I, J, R)) N ?_ ?_ (fun j hj => absurd hj (Nat.not_lt_zero j))
    · intro hall
      refine go_wp B_M_enter_46_ok ?_; simp only [B_M_enter_46, ↓q_nil, ↓q_iconst, ↓q_bipush, ↓q_sipush, ↓q_ldc, ↓q_lconst, ↓q_ldc2, ↓q_null, ↓q_iload, ↓q_iload_n, ↓q_lload, ↓q_lload_n, ↓q_aload, ↓q_aload_n, ↓q_istore, ↓q_istore_n, ↓q_lstore, ↓q_lstore_n, ↓q_astore, ↓q_astore_n, ↓q_iinc, ↓q_iadd, ↓q_isub, ↓q_imul, ↓q_iand, ↓q_idiv, ↓q_irem, ↓q_ineg, ↓q_ladd, ↓q_lsub, ↓q_lmul, ↓q_land, ↓q_ldiv, ↓q_lrem, ↓q_i2l, ↓q_l2i, ↓q_dup, ↓q_pop, ↓q_dup2, ↓q_dup_x1, ↓q_goto, ↓q_if_eq, ↓q_if_ne, ↓q_if_lt, ↓q_if_ge, ↓q_if_gt, ↓q_if_le, ↓q_icmp_eq, ↓q_icmp_ne, ↓q_icmp_lt, ↓q_icmp_ge, ↓q_icmp_gt, ↓q_icmp_le, ↓q_ifnullN, ↓q_ifnull, ↓q_ifnonnullN, ↓q_ifnonnull, ↓q_table, ↓q_lookup, ↓q_getf, ↓q_putI, ↓q_putJ, ↓q_putR, ↓q_iald, ↓q_sld, ↓q_slen, ↓q_alen, ↓q_iast, ↓q_bald, ↓q_bast, ↓q_aald, ↓q_aast, ↓q_newa, ↓q_newq, ↓q_new, ↓q_objInit, ↓q_max, ↓q_min, ↓q_copy, ↓q_callS0, ↓q_callV0, ↓q_callI0, ↓q_callS1, ↓q_callV1, ↓q_callI1, ↓q_callS2, ↓q_callV2, ↓q_callI2, ↓q_callS3, ↓q_callV3, ↓q_callI3, ↓q_callS4, ↓q_callV4, ↓q_callI4, ↓q_callS5, ↓q_callV5, ↓q_callI5, ↓q_callS6, ↓q_callV6, ↓q_callI6, ↓q_callS7, ↓q_callV7, ↓q_callI7, ↓q_callS8, ↓q_callV8, ↓q_callI8, ↓q_iret, ↓q_lret, ↓q_vret, q_e_i_int, q_e_l_long, q_e_a_ref, q_e_a_null, q_cat_int, q_cat_ref, q_cat_null, q_cat_long, q_na_int, q_lgt_z, q_lgt_s, q_lst0, q_lst1, q_lstS, q_lst20, q_lst21, q_lst2S, q_clr_i, q_clr_r, q_clr_n, q_clr_0, q_clr_l, q_cv_i, q_cv_l, q_cv_r, q_rv_s, q_rv_n, q_toL_s, q_toL_n, true_and, and_true, Nat.reduceAdd, s33, s34, s35, s36, s37, s38, s39, s40, s41, s42, s43, s44, s45, s46, r33_3, r33_4, r33_6, r33_7, r33_8, r33_10, r33_11, r33_12, r33_13, r33_15, r33_16, r33_18, r33_19]
      refine call_ro (c_cars hs) (by decide) rfl (Nat.le_refl _) (Nat.le_refl _) ?_
      simp only [↓q_nil, ↓q_iconst, ↓q_bipush, ↓q_sipush, ↓q_ldc, ↓q_lconst, ↓q_ldc2, ↓q_null, ↓q_iload, ↓q_iload_n, ↓q_lload, ↓q_lload_n, ↓q_aload, ↓q_aload_n, ↓q_istore, ↓q_istore_n, ↓q_lstore, ↓q_lstore_n, ↓q_astore, ↓q_astore_n, ↓q_iinc, ↓q_iadd, ↓q_isub, ↓q_imul, ↓q_iand, ↓q_idiv, ↓q_irem, ↓q_ineg, ↓q_ladd, ↓q_lsub, ↓q_lmul, ↓q_land, ↓q_ldiv, ↓q_lrem, ↓q_i2l, ↓q_l2i, ↓q_dup, ↓q_pop, ↓q_dup2, ↓q_dup_x1, ↓q_goto, ↓q_if_eq, ↓q_if_ne, ↓q_if_lt, ↓q_if_ge, ↓q_if_gt, ↓q_if_le, ↓q_icmp_eq, ↓q_icmp_ne, ↓q_icmp_lt, ↓q_icmp_ge, ↓q_icmp_gt, ↓q_icmp_le, ↓q_ifnullN, ↓q_ifnull, ↓q_ifnonnullN, ↓q_ifnonnull, ↓q_table, ↓q_lookup, ↓q_getf, ↓q_putI, ↓q_putJ, ↓q_putR, ↓q_iald, ↓q_sld, ↓q_slen, ↓q_alen, ↓q_iast, ↓q_bald, ↓q_bast, ↓q_aald, ↓q_aast, ↓q_newa, ↓q_newq, ↓q_new, ↓q_objInit, ↓q_max, ↓q_min, ↓q_copy, ↓q_callS0, ↓q_callV0, ↓q_callI0, ↓q_callS1, ↓q_callV1, ↓q_callI1, ↓q_callS2, ↓q_callV2, ↓q_callI2, ↓q_callS3, ↓q_callV3, ↓q_callI3, ↓q_callS4, ↓q_callV4, ↓q_callI4, ↓q_callS5, ↓q_callV5, ↓q_callI5, ↓q_callS6, ↓q_callV6, ↓q_callI6, ↓q_callS7, ↓q_callV7, ↓q_callI7, ↓q_callS8, ↓q_callV8, ↓q_callI8, ↓q_iret, ↓q_lret, ↓q_vret, q_e_i_int, q_e_l_long, q_e_a_ref, q_e_a_null, q_cat_int, q_cat_ref, q_cat_null, q_cat_long, q_na_int, q_lgt_z, q_lgt_s, q_lst0, q_lst1, q_lstS, q_lst20, q_lst21, q_lst2S, q_clr_i, q_clr_r, q_clr_n, q_clr_0, q_clr_l, q_cv_i, q_cv_l, q_cv_r, q_rv_s, q_rv_n, q_toL_s, q_toL_n, true_and, and_true, Nat.reduceAdd, s33, s34, s35, s36, s37, s38, s39, s40, s41, s42, s43, s44, s45, s46, r33_3, r33_4, r33_6, r33_7, r33_8, r33_10, r33_11, r33_12, r33_13, r33_15, r33_16, r33_18, r33_19, hN]
      refine ⟨fun h => absurd h (nI_nlt (Nat.le_refl _) (by omega)), fun _ => ?_⟩
      refine go_wp B_M_enter_89_ok ?_; simp only [B_M_enter_89, ↓q_nil, ↓q_iconst, ↓q_bipush, ↓q_sipush, ↓q_ldc, ↓q_lconst, ↓q_ldc2, ↓q_null, ↓q_iload, ↓q_iload_n, ↓q_lload, ↓q_lload_n, ↓q_aload, ↓q_aload_n, ↓q_istore, ↓q_istore_n, ↓q_lstore, ↓q_lstore_n, ↓q_astore, ↓q_astore_n, ↓q_iinc, ↓q_iadd, ↓q_isub, ↓q_imul, ↓q_iand, ↓q_idiv, ↓q_irem, ↓q_ineg, ↓q_ladd, ↓q_lsub, ↓q_lmul, ↓q_land, ↓q_ldiv, ↓q_lrem, ↓q_i2l, ↓q_l2i, ↓q_dup, ↓q_pop, ↓q_dup2, ↓q_dup_x1, ↓q_goto, ↓q_if_eq, ↓q_if_ne, ↓q_if_lt, ↓q_if_ge, ↓q_if_gt, ↓q_if_le, ↓q_icmp_eq, ↓q_icmp_ne, ↓q_icmp_lt, ↓q_icmp_ge, ↓q_icmp_gt, ↓q_icmp_le, ↓q_ifnullN, ↓q_ifnull, ↓q_ifnonnullN, ↓q_ifnonnull, ↓q_table, ↓q_lookup, ↓q_getf, ↓q_putI, ↓q_putJ, ↓q_putR, ↓q_iald, ↓q_sld, ↓q_slen, ↓q_alen, ↓q_iast, ↓q_bald, ↓q_bast, ↓q_aald, ↓q_aast, ↓q_newa, ↓q_newq, ↓q_new, ↓q_objInit, ↓q_max, ↓q_min, ↓q_copy, ↓q_callS0, ↓q_callV0, ↓q_callI0, ↓q_callS1, ↓q_callV1, ↓q_callI1, ↓q_callS2, ↓q_callV2, ↓q_callI2, ↓q_callS3, ↓q_callV3, ↓q_callI3, ↓q_callS4, ↓q_callV4, ↓q_callI4, ↓q_callS5, ↓q_callV5, ↓q_callI5, ↓q_callS6, ↓q_callV6, ↓q_callI6, ↓q_callS7, ↓q_callV7, ↓q_callI7, ↓q_callS8, ↓q_callV8, ↓q_callI8, ↓q_iret, ↓q_lret, ↓q_vret, q_e_i_int, q_e_l_long, q_e_a_ref, q_e_a_null, q_cat_int, q_cat_ref, q_cat_null, q_cat_long, q_na_int, q_lgt_z, q_lgt_s, q_lst0, q_lst1, q_lstS, q_lst20, q_lst21, q_lst2S, q_clr_i, q_clr_r, q_clr_n, q_clr_0, q_clr_l, q_cv_i, q_cv_l, q_cv_r, q_rv_s, q_rv_n, q_toL_s, q_toL_n, true_and, and_true, Nat.reduceAdd, s33, s34, s35, s36, s37, s38, s39, s40, s41, s42, s43, s44, s45, s46, r33_3, r33_4, r33_6, r33_7, r33_8, r33_10, r33_11, r33_12, r33_13, r33_15, r33_16, r33_18, r33_19]
      refine call_ro (c_putm hs (p := 2) (v := 1) hw60 (by decide)) (by decide) rfl (Nat.le_refl _) (Nat.le_refl _) ?_
      simp only [↓q_nil, ↓q_iconst, ↓q_bipush, ↓q_sipush, ↓q_ldc, ↓q_lconst, ↓q_ldc2, ↓q_null, ↓q_iload, ↓q_iload_n, ↓q_lload, ↓q_lload_n, ↓q_aload, ↓q_aload_n, ↓q_istore, ↓q_istore_n, ↓q_lstore, ↓q_lstore_n, ↓q_astore, ↓q_astore_n, ↓q_iinc, ↓q_iadd, ↓q_isub, ↓q_imul, ↓q_iand, ↓q_idiv, ↓q_irem, ↓q_ineg, ↓q_ladd, ↓q_lsub, ↓q_lmul, ↓q_land, ↓q_ldiv, ↓q_lrem, ↓q_i2l, ↓q_l2i, ↓q_dup, ↓q_pop, ↓q_dup2, ↓q_dup_x1, ↓q_goto, ↓q_if_eq, ↓q_if_ne, ↓q_if_lt, ↓q_if_ge, ↓q_if_gt, ↓q_if_le, ↓q_icmp_eq, ↓q_icmp_ne, ↓q_icmp_lt, ↓q_icmp_ge, ↓q_icmp_gt, ↓q_icmp_le, ↓q_ifnullN, ↓q_ifnull, ↓q_ifnonnullN, ↓q_ifnonnull, ↓q_table, ↓q_lookup, ↓q_getf, ↓q_putI, ↓q_putJ, ↓q_putR, ↓q_iald, ↓q_sld, ↓q_slen, ↓q_alen, ↓q_iast, ↓q_bald, ↓q_bast, ↓q_aald, ↓q_aast, ↓q_newa, ↓q_newq, ↓q_new, ↓q_objInit, ↓q_max, ↓q_min, ↓q_copy, ↓q_callS0, ↓q_callV0, ↓q_callI0, ↓q_callS1, ↓q_callV1, ↓q_callI1, ↓q_callS2, ↓q_callV2, ↓q_callI2, ↓q_callS3, ↓q_callV3, ↓q_callI3, ↓q_callS4, ↓q_callV4, ↓q_callI4, ↓q_callS5, ↓q_callV5, ↓q_callI5, ↓q_callS6, ↓q_callV6, ↓q_callI6, ↓q_callS7, ↓q_callV7, ↓q_callI7, ↓q_callS8, ↓q_callV8, ↓q_callI8, ↓q_iret, ↓q_lret, ↓q_vret, q_e_i_int, q_e_l_long, q_e_a_ref, q_e_a_null, q_cat_int, q_cat_ref, q_cat_null, q_cat_long, q_na_int, q_lgt_z, q_lgt_s, q_lst0, q_lst1, q_lstS, q_lst20, q_lst21, q_lst2S, q_clr_i, q_clr_r, q_clr_n, q_clr_0, q_clr_l, q_cv_i, q_cv_l, q_cv_r, q_rv_s, q_rv_n, q_toL_s, q_toL_n, true_and, and_true, Nat.reduceAdd, s33, s34, s35, s36, s37, s38, s39, s40, s41, s42, s43, s44, s45, s46, r33_3, r33_4, r33_6, r33_7, r33_8, r33_10, r33_11, r33_12, r33_13, r33_15, r33_16, r33_18, r33_19]
      refine call_ro (c_of hs (p := 8) hw60 (by decide)) (by decide) rfl (Nat.le_refl _) (Nat.le_refl _) ?_
      simp only [↓q_nil, ↓q_iconst, ↓q_bipush, ↓q_sipush, ↓q_ldc, ↓q_lconst, ↓q_ldc2, ↓q_null, ↓q_iload, ↓q_iload_n, ↓q_lload, ↓q_lload_n, ↓q_aload, ↓q_aload_n, ↓q_istore, ↓q_istore_n, ↓q_lstore, ↓q_lstore_n, ↓q_astore, ↓q_astore_n, ↓q_iinc, ↓q_iadd, ↓q_isub, ↓q_imul, ↓q_iand, ↓q_idiv, ↓q_irem, ↓q_ineg, ↓q_ladd, ↓q_lsub, ↓q_lmul, ↓q_land, ↓q_ldiv, ↓q_lrem, ↓q_i2l, ↓q_l2i, ↓q_dup, ↓q_pop, ↓q_dup2, ↓q_dup_x1, ↓q_goto, ↓q_if_eq, ↓q_if_ne, ↓q_if_lt, ↓q_if_ge, ↓q_if_gt, ↓q_if_le, ↓q_icmp_eq, ↓q_icmp_ne, ↓q_icmp_lt, ↓q_icmp_ge, ↓q_icmp_gt, ↓q_icmp_le, ↓q_ifnullN, ↓q_ifnull, ↓q_ifnonnullN, ↓q_ifnonnull, ↓q_table, ↓q_lookup, ↓q_getf, ↓q_putI, ↓q_putJ, ↓q_putR, ↓q_iald, ↓q_sld, ↓q_slen, ↓q_alen, ↓q_iast, ↓q_bald, ↓q_bast, ↓q_aald, ↓q_aast, ↓q_newa, ↓q_newq, ↓q_new, ↓q_objInit, ↓q_max, ↓q_min, ↓q_copy, ↓q_callS0, ↓q_callV0, ↓q_callI0, ↓q_callS1, ↓q_callV1, ↓q_callI1, ↓q_callS2, ↓q_callV2, ↓q_callI2, ↓q_callS3, ↓q_callV3, ↓q_callI3, ↓q_callS4, ↓q_callV4, ↓q_callI4, ↓q_callS5, ↓q_callV5, ↓q_callI5, ↓q_callS6, ↓q_callV6, ↓q_callI6, ↓q_callS7, ↓q_callV7, ↓q_callI7, ↓q_callS8, ↓q_callV8, ↓q_callI8, ↓q_iret, ↓q_lret, ↓q_vret, q_e_i_int, q_e_l_long, q_e_a_ref, q_e_a_null, q_cat_int, q_cat_ref, q_cat_null, q_cat_long, q_na_int, q_lgt_z, q_lgt_s, q_lst0, q_lst1, q_lstS, q_lst20, q_lst21, q_lst2S, q_clr_i, q_clr_r, q_clr_n, q_clr_0, q_clr_l, q_cv_i, q_cv_l, q_cv_r, q_rv_s, q_rv_n, q_toL_s, q_toL_n, true_and, and_true, Nat.reduceAdd, s33, s34, s35, s36, s37, s38, s39, s40, s41, s42, s43, s44, s45, s46, r33_3, r33_4, r33_6, r33_7, r33_8, r33_10, r33_11, r33_12, r33_13, r33_15, r33_16, r33_18, r33_19]
      refine call_ro (c_putm hs (p := 3) hw60 (by decide)) (by decide) rfl (Nat.le_refl _) (Nat.le_refl _) ?_
      simp only [↓q_nil, ↓q_iconst, ↓q_bipush, ↓q_sipush, ↓q_ldc, ↓q_lconst, ↓q_ldc2, ↓q_null, ↓q_iload, ↓q_iload_n, ↓q_lload, ↓q_lload_n, ↓q_aload, ↓q_aload_n, ↓q_istore, ↓q_istore_n, ↓q_lstore, ↓q_lstore_n, ↓q_astore, ↓q_astore_n, ↓q_iinc, ↓q_iadd, ↓q_isub, ↓q_imul, ↓q_iand, ↓q_idiv, ↓q_irem, ↓q_ineg, ↓q_ladd, ↓q_lsub, ↓q_lmul, ↓q_land, ↓q_ldiv, ↓q_lrem, ↓q_i2l, ↓q_l2i, ↓q_dup, ↓q_pop, ↓q_dup2, ↓q_dup_x1, ↓q_goto, ↓q_if_eq, ↓q_if_ne, ↓q_if_lt, ↓q_if_ge, ↓q_if_gt, ↓q_if_le, ↓q_icmp_eq, ↓q_icmp_ne, ↓q_icmp_lt, ↓q_icmp_ge, ↓q_icmp_gt, ↓q_icmp_le, ↓q_ifnullN, ↓q_ifnull, ↓q_ifnonnullN, ↓q_ifnonnull, ↓q_table, ↓q_lookup, ↓q_getf, ↓q_putI, ↓q_putJ, ↓q_putR, ↓q_iald, ↓q_sld, ↓q_slen, ↓q_alen, ↓q_iast, ↓q_bald, ↓q_bast, ↓q_aald, ↓q_aast, ↓q_newa, ↓q_newq, ↓q_new, ↓q_objInit, ↓q_max, ↓q_min, ↓q_copy, ↓q_callS0, ↓q_callV0, ↓q_callI0, ↓q_callS1, ↓q_callV1, ↓q_callI1, ↓q_callS2, ↓q_callV2, ↓q_callI2, ↓q_callS3, ↓q_callV3, ↓q_callI3, ↓q_callS4, ↓q_callV4, ↓q_callI4, ↓q_callS5, ↓q_callV5, ↓q_callI5, ↓q_callS6, ↓q_callV6, ↓q_callI6, ↓q_callS7, ↓q_callV7, ↓q_callI7, ↓q_callS8, ↓q_callV8, ↓q_callI8, ↓q_iret, ↓q_lret, ↓q_vret, q_e_i_int, q_e_l_long, q_e_a_ref, q_e_a_null, q_cat_int, q_cat_ref, q_cat_null, q_cat_long, q_na_int, q_lgt_z, q_lgt_s, q_lst0, q_lst1, q_lstS, q_lst20, q_lst21, q_lst2S, q_clr_i, q_clr_r, q_clr_n, q_clr_0, q_clr_l, q_cv_i, q_cv_l, q_cv_r, q_rv_s, q_rv_n, q_toL_s, q_toL_n, true_and, and_true, Nat.reduceAdd, s33, s34, s35, s36, s37, s38, s39, s40, s41, s42, s43, s44, s45, s46, r33_3, r33_4, r33_6, r33_7, r33_8, r33_10, r33_11, r33_12, r33_13, r33_15, r33_16, r33_18, r33_19]
      refine call_ro (c_now hs) (by decide) rfl (Nat.le_refl _) (Nat.le_refl _) ?_
      simp only [↓q_nil, ↓q_iconst, ↓q_bipush, ↓q_sipush, ↓q_ldc, ↓q_lconst, ↓q_ldc2, ↓q_null, ↓q_iload, ↓q_iload_n, ↓q_lload, ↓q_lload_n, ↓q_aload, ↓q_aload_n, ↓q_istore, ↓q_istore_n, ↓q_lstore, ↓q_lstore_n, ↓q_astore, ↓q_astore_n, ↓q_iinc, ↓q_iadd, ↓q_isub, ↓q_imul, ↓q_iand, ↓q_idiv, ↓q_irem, ↓q_ineg, ↓q_ladd, ↓q_lsub, ↓q_lmul, ↓q_land, ↓q_ldiv, ↓q_lrem, ↓q_i2l, ↓q_l2i, ↓q_dup, ↓q_pop, ↓q_dup2, ↓q_dup_x1, ↓q_goto, ↓q_if_eq, ↓q_if_ne, ↓q_if_lt, ↓q_if_ge, ↓q_if_gt, ↓q_if_le, ↓q_icmp_eq, ↓q_icmp_ne, ↓q_icmp_lt, ↓q_icmp_ge, ↓q_icmp_gt, ↓q_icmp_le, ↓q_ifnullN, ↓q_ifnull, ↓q_ifnonnullN, ↓q_ifnonnull, ↓q_table, ↓q_lookup, ↓q_getf, ↓q_putI, ↓q_putJ, ↓q_putR, ↓q_iald, ↓q_sld, ↓q_slen, ↓q_alen, ↓q_iast, ↓q_bald, ↓q_bast, ↓q_aald, ↓q_aast, ↓q_newa, ↓q_newq, ↓q_new, ↓q_objInit, ↓q_max, ↓q_min, ↓q_copy, ↓q_callS0, ↓q_callV0, ↓q_callI0, ↓q_callS1, ↓q_callV1, ↓q_callI1, ↓q_callS2, ↓q_callV2, ↓q_callI2, ↓q_callS3, ↓q_callV3, ↓q_callI3, ↓q_callS4, ↓q_callV4, ↓q_callI4, ↓q_callS5, ↓q_callV5, ↓q_callI5, ↓q_callS6, ↓q_callV6, ↓q_callI6, ↓q_callS7, ↓q_callV7, ↓q_callI7, ↓q_callS8, ↓q_callV8, ↓q_callI8, ↓q_iret, ↓q_lret, ↓q_vret, q_e_i_int, q_e_l_long, q_e_a_ref, q_e_a_null, q_cat_int, q_cat_ref, q_cat_null, q_cat_long, q_na_int, q_lgt_z, q_lgt_s, q_lst0, q_lst1, q_lstS, q_lst20, q_lst21, q_lst2S, q_clr_i, q_clr_r, q_clr_n, q_clr_0, q_clr_l, q_cv_i, q_cv_l, q_cv_r, q_rv_s, q_rv_n, q_toL_s, q_toL_n, true_and, and_true, Nat.reduceAdd, s33, s34, s35, s36, s37, s38, s39, s40, s41, s42, s43, s44, s45, s46, r33_3, r33_4, r33_6, r33_7, r33_8, r33_10, r33_11, r33_12, r33_13, r33_15, r33_16, r33_18, r33_19]
      refine call_ro (c_putm hs (p := 5) hw60 (by decide)) (by decide) rfl (Nat.le_refl _) (Nat.le_refl _) ?_
      simp only [↓q_nil, ↓q_iconst, ↓q_bipush, ↓q_sipush, ↓q_ldc, ↓q_lconst, ↓q_ldc2, ↓q_null, ↓q_iload, ↓q_iload_n, ↓q_lload, ↓q_lload_n, ↓q_aload, ↓q_aload_n, ↓q_istore, ↓q_istore_n, ↓q_lstore, ↓q_lstore_n, ↓q_astore, ↓q_astore_n, ↓q_iinc, ↓q_iadd, ↓q_isub, ↓q_imul, ↓q_iand, ↓q_idiv, ↓q_irem, ↓q_ineg, ↓q_ladd, ↓q_lsub, ↓q_lmul, ↓q_land, ↓q_ldiv, ↓q_lrem, ↓q_i2l, ↓q_l2i, ↓q_dup, ↓q_pop, ↓q_dup2, ↓q_dup_x1, ↓q_goto, ↓q_if_eq, ↓q_if_ne, ↓q_if_lt, ↓q_if_ge, ↓q_if_gt, ↓q_if_le, ↓q_icmp_eq, ↓q_icmp_ne, ↓q_icmp_lt, ↓q_icmp_ge, ↓q_icmp_gt, ↓q_icmp_le, ↓q_ifnullN, ↓q_ifnull, ↓q_ifnonnullN, ↓q_ifnonnull, ↓q_table, ↓q_lookup, ↓q_getf, ↓q_putI, ↓q_putJ, ↓q_putR, ↓q_iald, ↓q_sld, ↓q_slen, ↓q_alen, ↓q_iast, ↓q_bald, ↓q_bast, ↓q_aald, ↓q_aast, ↓q_newa, ↓q_newq, ↓q_new, ↓q_objInit, ↓q_max, ↓q_min, ↓q_copy, ↓q_callS0, ↓q_callV0, ↓q_callI0, ↓q_callS1, ↓q_callV1, ↓q_callI1, ↓q_callS2, ↓q_callV2, ↓q_callI2, ↓q_callS3, ↓q_callV3, ↓q_callI3, ↓q_callS4, ↓q_callV4, ↓q_callI4, ↓q_callS5, ↓q_callV5, ↓q_callI5, ↓q_callS6, ↓q_callV6, ↓q_callI6, ↓q_callS7, ↓q_callV7, ↓q_callI7, ↓q_callS8, ↓q_callV8, ↓q_callI8, ↓q_iret, ↓q_lret, ↓q_vret, q_e_i_int, q_e_l_long, q_e_a_ref, q_e_a_null, q_cat_int, q_cat_ref, q_cat_null, q_cat_long, q_na_int, q_lgt_z, q_lgt_s, q_lst0, q_lst1, q_lstS, q_lst20, q_lst21, q_lst2S, q_clr_i, q_clr_r, q_clr_n, q_clr_0, q_clr_l, q_cv_i, q_cv_l, q_cv_r, q_rv_s, q_rv_n, q_toL_s, q_toL_n, true_and, and_true, Nat.reduceAdd, s33, s34, s35, s36, s37, s38, s39, s40, s41, s42, s43, s44, s45, s46, r33_3, r33_4, r33_6, r33_7, r33_8, r33_10, r33_11, r33_12, r33_13, r33_15, r33_16, r33_18, r33_19]
      refine call_ro (c_now hs) (by decide) rfl (Nat.le_refl _) (Nat.le_refl _) ?_
      simp only [↓q_nil, ↓q_iconst, ↓q_bipush, ↓q_sipush, ↓q_ldc, ↓q_lconst, ↓q_ldc2, ↓q_null, ↓q_iload, ↓q_iload_n, ↓q_lload, ↓q_lload_n, ↓q_aload, ↓q_aload_n, ↓q_istore, ↓q_istore_n, ↓q_lstore, ↓q_lstore_n, ↓q_astore, ↓q_astore_n, ↓q_iinc, ↓q_iadd, ↓q_isub, ↓q_imul, ↓q_iand, ↓q_idiv, ↓q_irem, ↓q_ineg, ↓q_ladd, ↓q_lsub, ↓q_lmul, ↓q_land, ↓q_ldiv, ↓q_lrem, ↓q_i2l, ↓q_l2i, ↓q_dup, ↓q_pop, ↓q_dup2, ↓q_dup_x1, ↓q_goto, ↓q_if_eq, ↓q_if_ne, ↓q_if_lt, ↓q_if_ge, ↓q_if_gt, ↓q_if_le, ↓q_icmp_eq, ↓q_icmp_ne, ↓q_icmp_lt, ↓q_icmp_ge, ↓q_icmp_gt, ↓q_icmp_le, ↓q_ifnullN, ↓q_ifnull, ↓q_ifnonnullN, ↓q_ifnonnull, ↓q_table, ↓q_lookup, ↓q_getf, ↓q_putI, ↓q_putJ, ↓q_putR, ↓q_iald, ↓q_sld, ↓q_slen, ↓q_alen, ↓q_iast, ↓q_bald, ↓q_bast, ↓q_aald, ↓q_aast, ↓q_newa, ↓q_newq, ↓q_new, ↓q_objInit, ↓q_max, ↓q_min, ↓q_copy, ↓q_callS0, ↓q_callV0, ↓q_callI0, ↓q_callS1, ↓q_callV1, ↓q_callI1, ↓q_callS2, ↓q_callV2, ↓q_callI2, ↓q_callS3, ↓q_callV3, ↓q_callI3, ↓q_callS4, ↓q_callV4, ↓q_callI4, ↓q_callS5, ↓q_callV5, ↓q_callI5, ↓q_callS6, ↓q_callV6, ↓q_callI6, ↓q_callS7, ↓q_callV7, ↓q_callI7, ↓q_callS8, ↓q_callV8, ↓q_callI8, ↓q_iret, ↓q_lret, ↓q_vret, q_e_i_int, q_e_l_long, q_e_a_ref, q_e_a_null, q_cat_int, q_cat_ref, q_cat_null, q_cat_long, q_na_int, q_lgt_z, q_lgt_s, q_lst0, q_lst1, q_lstS, q_lst20, q_lst21, q_lst2S, q_clr_i, q_clr_r, q_clr_n, q_clr_0, q_clr_l, q_cv_i, q_cv_l, q_cv_r, q_rv_s, q_rv_n, q_toL_s, q_toL_n, true_and, and_true, Nat.reduceAdd, s33, s34, s35, s36, s37, s38, s39, s40, s41, s42, s43, s44, s45, s46, r33_3, r33_4, r33_6, r33_7, r33_8, r33_10, r33_11, r33_12, r33_13, r33_15, r33_16, r33_18, r33_19]
      refine call_ro (c_putm hs (p := 7) hw60 (by decide)) (by decide) rfl (Nat.le_refl _) (Nat.le_refl _) ?_
      simp only [↓q_nil, ↓q_iconst, ↓q_bipush, ↓q_sipush, ↓q_ldc, ↓q_lconst, ↓q_ldc2, ↓q_null, ↓q_iload, ↓q_iload_n, ↓q_lload, ↓q_lload_n, ↓q_aload, ↓q_aload_n, ↓q_istore, ↓q_istore_n, ↓q_lstore, ↓q_lstore_n, ↓q_astore, ↓q_astore_n, ↓q_iinc, ↓q_iadd, ↓q_isub, ↓q_imul, ↓q_iand, ↓q_idiv, ↓q_irem, ↓q_ineg, ↓q_ladd, ↓q_lsub, ↓q_lmul, ↓q_land, ↓q_ldiv, ↓q_lrem, ↓q_i2l, ↓q_l2i, ↓q_dup, ↓q_pop, ↓q_dup2, ↓q_dup_x1, ↓q_goto, ↓q_if_eq, ↓q_if_ne, ↓q_if_lt, ↓q_if_ge, ↓q_if_gt, ↓q_if_le, ↓q_icmp_eq, ↓q_icmp_ne, ↓q_icmp_lt, ↓q_icmp_ge, ↓q_icmp_gt, ↓q_icmp_le, ↓q_ifnullN, ↓q_ifnull, ↓q_ifnonnullN, ↓q_ifnonnull, ↓q_table, ↓q_lookup, ↓q_getf, ↓q_putI, ↓q_putJ, ↓q_putR, ↓q_iald, ↓q_sld, ↓q_slen, ↓q_alen, ↓q_iast, ↓q_bald, ↓q_bast, ↓q_aald, ↓q_aast, ↓q_newa, ↓q_newq, ↓q_new, ↓q_objInit, ↓q_max, ↓q_min, ↓q_copy, ↓q_callS0, ↓q_callV0, ↓q_callI0, ↓q_callS1, ↓q_callV1, ↓q_callI1, ↓q_callS2, ↓q_callV2, ↓q_callI2, ↓q_callS3, ↓q_callV3, ↓q_callI3, ↓q_callS4, ↓q_callV4, ↓q_callI4, ↓q_callS5, ↓q_callV5, ↓q_callI5, ↓q_callS6, ↓q_callV6, ↓q_callI6, ↓q_callS7, ↓q_callV7, ↓q_callI7, ↓q_callS8, ↓q_callV8, ↓q_callI8, ↓q_iret, ↓q_lret, ↓q_vret, q_e_i_int, q_e_l_long, q_e_a_ref, q_e_a_null, q_cat_int, q_cat_ref, q_cat_null, q_cat_long, q_na_int, q_lgt_z, q_lgt_s, q_lst0, q_lst1, q_lstS, q_lst20, q_lst21, q_lst2S, q_clr_i, q_clr_r, q_clr_n, q_clr_0, q_clr_l, q_cv_i, q_cv_l, q_cv_r, q_rv_s, q_rv_n, q_toL_s, q_toL_n, true_and, and_true, Nat.reduceAdd, s33, s34, s35, s36, s37, s38, s39, s40, s41, s42, s43, s44, s45, s46, r33_3, r33_4, r33_6, r33_7, r33_8, r33_10, r33_11, r33_12, r33_13, r33_15, r33_16, r33_18, r33_19]
      refine call_ro (c_of hs (p := 9) hw60 (by decide)) (by decide) rfl (Nat.le_refl _) (Nat.le_refl _) ?_
      simp only [↓q_nil, ↓q_iconst, ↓q_bipush, ↓q_sipush, ↓q_ldc, ↓q_lconst, ↓q_ldc2, ↓q_null, ↓q_iload, ↓q_iload_n, ↓q_lload, ↓q_lload_n, ↓q_aload, ↓q_aload_n, ↓q_istore, ↓q_istore_n, ↓q_lstore, ↓q_lstore_n, ↓q_astore, ↓q_astore_n, ↓q_iinc, ↓q_iadd, ↓q_isub, ↓q_imul, ↓q_iand, ↓q_idiv, ↓q_irem, ↓q_ineg, ↓q_ladd, ↓q_lsub, ↓q_lmul, ↓q_land, ↓q_ldiv, ↓q_lrem, ↓q_i2l, ↓q_l2i, ↓q_dup, ↓q_pop, ↓q_dup2, ↓q_dup_x1, ↓q_goto, ↓q_if_eq, ↓q_if_ne, ↓q_if_lt, ↓q_if_ge, ↓q_if_gt, ↓q_if_le, ↓q_icmp_eq, ↓q_icmp_ne, ↓q_icmp_lt, ↓q_icmp_ge, ↓q_icmp_gt, ↓q_icmp_le, ↓q_ifnullN, ↓q_ifnull, ↓q_ifnonnullN, ↓q_ifnonnull, ↓q_table, ↓q_lookup, ↓q_getf, ↓q_putI, ↓q_putJ, ↓q_putR, ↓q_iald, ↓q_sld, ↓q_slen, ↓q_alen, ↓q_iast, ↓q_bald, ↓q_bast, ↓q_aald, ↓q_aast, ↓q_newa, ↓q_newq, ↓q_new, ↓q_objInit, ↓q_max, ↓q_min, ↓q_copy, ↓q_callS0, ↓q_callV0, ↓q_callI0, ↓q_callS1, ↓q_callV1, ↓q_callI1, ↓q_callS2, ↓q_callV2, ↓q_callI2, ↓q_callS3, ↓q_callV3, ↓q_callI3, ↓q_callS4, ↓q_callV4, ↓q_callI4, ↓q_callS5, ↓q_callV5, ↓q_callI5, ↓q_callS6, ↓q_callV6, ↓q_callI6, ↓q_callS7, ↓q_callV7, ↓q_callI7, ↓q_callS8, ↓q_callV8, ↓q_callI8, ↓q_iret, ↓q_lret, ↓q_vret, q_e_i_int, q_e_l_long, q_e_a_ref, q_e_a_null, q_cat_int, q_cat_ref, q_cat_null, q_cat_long, q_na_int, q_lgt_z, q_lgt_s, q_lst0, q_lst1, q_lstS, q_lst20, q_lst21, q_lst2S, q_clr_i, q_clr_r, q_clr_n, q_clr_0, q_clr_l, q_cv_i, q_cv_l, q_cv_r, q_rv_s, q_rv_n, q_toL_s, q_toL_n, true_and, and_true, Nat.reduceAdd, s33, s34, s35, s36, s37, s38, s39, s40, s41, s42, s43, s44, s45, s46, r33_3, r33_4, r33_6, r33_7, r33_8, r33_10, r33_11, r33_12, r33_13, r33_15, r33_16, r33_18, r33_19]
      refine call_ro (c_gapIn hs (MW.mp (MW.mp (MW.mp (MW.mp hw)))) hw60) (by decide) rfl (Nat.le_refl _) (Nat.le_refl _) ?_
      simp only [↓q_nil, ↓q_iconst, ↓q_bipush, ↓q_sipush, ↓q_ldc, ↓q_lconst, ↓q_ldc2, ↓q_null, ↓q_iload, ↓q_iload_n, ↓q_lload, ↓q_lload_n, ↓q_aload, ↓q_aload_n, ↓q_istore, ↓q_istore_n, ↓q_lstore, ↓q_lstore_n, ↓q_astore, ↓q_astore_n, ↓q_iinc, ↓q_iadd, ↓q_isub, ↓q_imul, ↓q_iand, ↓q_idiv, ↓q_irem, ↓q_ineg, ↓q_ladd, ↓q_lsub, ↓q_lmul, ↓q_land, ↓q_ldiv, ↓q_lrem, ↓q_i2l, ↓q_l2i, ↓q_dup, ↓q_pop, ↓q_dup2, ↓q_dup_x1, ↓q_goto, ↓q_if_eq, ↓q_if_ne, ↓q_if_lt, ↓q_if_ge, ↓q_if_gt, ↓q_if_le, ↓q_icmp_eq, ↓q_icmp_ne, ↓q_icmp_lt, ↓q_icmp_ge, ↓q_icmp_gt, ↓q_icmp_le, ↓q_ifnullN, ↓q_ifnull, ↓q_ifnonnullN, ↓q_ifnonnull, ↓q_table, ↓q_lookup, ↓q_getf, ↓q_putI, ↓q_putJ, ↓q_putR, ↓q_iald, ↓q_sld, ↓q_slen, ↓q_alen, ↓q_iast, ↓q_bald, ↓q_bast, ↓q_aald, ↓q_aast, ↓q_newa, ↓q_newq, ↓q_new, ↓q_objInit, ↓q_max, ↓q_min, ↓q_copy, ↓q_callS0, ↓q_callV0, ↓q_callI0, ↓q_callS1, ↓q_callV1, ↓q_callI1, ↓q_callS2, ↓q_callV2, ↓q_callI2, ↓q_callS3, ↓q_callV3, ↓q_callI3, ↓q_callS4, ↓q_callV4, ↓q_callI4, ↓q_callS5, ↓q_callV5, ↓q_callI5, ↓q_callS6, ↓q_callV6, ↓q_callI6, ↓q_callS7, ↓q_callV7, ↓q_callI7, ↓q_callS8, ↓q_callV8, ↓q_callI8, ↓q_iret, ↓q_lret, ↓q_vret, q_e_i_int, q_e_l_long, q_e_a_ref, q_e_a_null, q_cat_int, q_cat_ref, q_cat_null, q_cat_long, q_na_int, q_lgt_z, q_lgt_s, q_lst0, q_lst1, q_lstS, q_lst20, q_lst21, q_lst2S, q_clr_i, q_clr_r, q_clr_n, q_clr_0, q_clr_l, q_cv_i, q_cv_l, q_cv_r, q_rv_s, q_rv_n, q_toL_s, q_toL_n, true_and, and_true, Nat.reduceAdd, s33, s34, s35, s36, s37, s38, s39, s40, s41, s42, s43, s44, s45, s46, r33_3, r33_4, r33_6, r33_7, r33_8, r33_10, r33_11, r33_12, r33_13, r33_15, r33_16, r33_18, r33_19]
      refine call_ro (c_allowed) (by decide) rfl (Nat.le_refl _) (Nat.le_refl _) ?_
      simp only [↓q_nil, ↓q_iconst, ↓q_bipush, ↓q_sipush, ↓q_ldc, ↓q_lconst, ↓q_ldc2, ↓q_null, ↓q_iload, ↓q_iload_n, ↓q_lload, ↓q_lload_n, ↓q_aload, ↓q_aload_n, ↓q_istore, ↓q_istore_n, ↓q_lstore, ↓q_lstore_n, ↓q_astore, ↓q_astore_n, ↓q_iinc, ↓q_iadd, ↓q_isub, ↓q_imul, ↓q_iand, ↓q_idiv, ↓q_irem, ↓q_ineg, ↓q_ladd, ↓q_lsub, ↓q_lmul, ↓q_land, ↓q_ldiv, ↓q_lrem, ↓q_i2l, ↓q_l2i, ↓q_dup, ↓q_pop, ↓q_dup2, ↓q_dup_x1, ↓q_goto, ↓q_if_eq, ↓q_if_ne, ↓q_if_lt, ↓q_if_ge, ↓q_if_gt, ↓q_if_le, ↓q_icmp_eq, ↓q_icmp_ne, ↓q_icmp_lt, ↓q_icmp_ge, ↓q_icmp_gt, ↓q_icmp_le, ↓q_ifnullN, ↓q_ifnull, ↓q_ifnonnullN, ↓q_ifnonnull, ↓q_table, ↓q_lookup, ↓q_getf, ↓q_putI, ↓q_putJ, ↓q_putR, ↓q_iald, ↓q_sld, ↓q_slen, ↓q_alen, ↓q_iast, ↓q_bald, ↓q_bast, ↓q_aald, ↓q_aast, ↓q_newa, ↓q_newq, ↓q_new, ↓q_objInit, ↓q_max, ↓q_min, ↓q_copy, ↓q_callS0, ↓q_callV0, ↓q_callI0, ↓q_callS1, ↓q_callV1, ↓q_callI1, ↓q_callS2, ↓q_callV2, ↓q_callI2, ↓q_callS3, ↓q_callV3, ↓q_callI3, ↓q_callS4, ↓q_callV4, ↓q_callI4, ↓q_callS5, ↓q_callV5, ↓q_callI5, ↓q_callS6, ↓q_callV6, ↓q_callI6, ↓q_callS7, ↓q_callV7, ↓q_callI7, ↓q_callS8, ↓q_callV8, ↓q_callI8, ↓q_iret, ↓q_lret, ↓q_vret, q_e_i_int, q_e_l_long, q_e_a_ref, q_e_a_null, q_cat_int, q_cat_ref, q_cat_null, q_cat_long, q_na_int, q_lgt_z, q_lgt_s, q_lst0, q_lst1, q_lstS, q_lst20, q_lst21, q_lst2S, q_clr_i, q_clr_r, q_clr_n, q_clr_0, q_clr_l, q_cv_i, q_cv_l, q_cv_r, q_rv_s, q_rv_n, q_toL_s, q_toL_n, true_and, and_true, Nat.reduceAdd, s33, s34, s35, s36, s37, s38, s39, s40, s41, s42, s43, s44, s45, s46, r33_3, r33_4, r33_6, r33_7, r33_8, r33_10, r33_11, r33_12, r33_13, r33_15, r33_16, r33_18, r33_19]
      refine call_ro (c_lesser) (by decide) rfl (Nat.le_refl _) (Nat.le_refl _) ?_
      simp only [↓q_nil, ↓q_iconst, ↓q_bipush, ↓q_sipush, ↓q_ldc, ↓q_lconst, ↓q_ldc2, ↓q_null, ↓q_iload, ↓q_iload_n, ↓q_lload, ↓q_lload_n, ↓q_aload, ↓q_aload_n, ↓q_istore, ↓q_istore_n, ↓q_lstore, ↓q_lstore_n, ↓q_astore, ↓q_astore_n, ↓q_iinc, ↓q_iadd, ↓q_isub, ↓q_imul, ↓q_iand, ↓q_idiv, ↓q_irem, ↓q_ineg, ↓q_ladd, ↓q_lsub, ↓q_lmul, ↓q_land, ↓q_ldiv, ↓q_lrem, ↓q_i2l, ↓q_l2i, ↓q_dup, ↓q_pop, ↓q_dup2, ↓q_dup_x1, ↓q_goto, ↓q_if_eq, ↓q_if_ne, ↓q_if_lt, ↓q_if_ge, ↓q_if_gt, ↓q_if_le, ↓q_icmp_eq, ↓q_icmp_ne, ↓q_icmp_lt, ↓q_icmp_ge, ↓q_icmp_gt, ↓q_icmp_le, ↓q_ifnullN, ↓q_ifnull, ↓q_ifnonnullN, ↓q_ifnonnull, ↓q_table, ↓q_lookup, ↓q_getf, ↓q_putI, ↓q_putJ, ↓q_putR, ↓q_iald, ↓q_sld, ↓q_slen, ↓q_alen, ↓q_iast, ↓q_bald, ↓q_bast, ↓q_aald, ↓q_aast, ↓q_newa, ↓q_newq, ↓q_new, ↓q_objInit, ↓q_max, ↓q_min, ↓q_copy, ↓q_callS0, ↓q_callV0, ↓q_callI0, ↓q_callS1, ↓q_callV1, ↓q_callI1, ↓q_callS2, ↓q_callV2, ↓q_callI2, ↓q_callS3, ↓q_callV3, ↓q_callI3, ↓q_callS4, ↓q_callV4, ↓q_callI4, ↓q_callS5, ↓q_callV5, ↓q_callI5, ↓q_callS6, ↓q_callV6, ↓q_callI6, ↓q_callS7, ↓q_callV7, ↓q_callI7, ↓q_callS8, ↓q_callV8, ↓q_callI8, ↓q_iret, ↓q_lret, ↓q_vret, q_e_i_int, q_e_l_long, q_e_a_ref, q_e_a_null, q_cat_int, q_cat_ref, q_cat_null, q_cat_long, q_na_int, q_lgt_z, q_lgt_s, q_lst0, q_lst1, q_lstS, q_lst20, q_lst21, q_lst2S, q_clr_i, q_clr_r, q_clr_n, q_clr_0, q_clr_l, q_cv_i, q_cv_l, q_cv_r, q_rv_s, q_rv_n, q_toL_s, q_toL_n, true_and, and_true, Nat.reduceAdd, s33, s34, s35, s36, s37, s38, s39, s40, s41, s42, s43, s44, s45, s46, r33_3, r33_4, r33_6, r33_7, r33_8, r33_10, r33_11, r33_12, r33_13, r33_15, r33_16, r33_18, r33_19]
      refine call_ro (c_putm hs (p := 4) hw60 (by decide)) (by decide) rfl (Nat.le_refl _) (Nat.le_refl _) ?_
      simp only [↓q_nil, ↓q_iconst, ↓q_bipush, ↓q_sipush, ↓q_ldc, ↓q_lconst, ↓q_ldc2, ↓q_null, ↓q_iload, ↓q_iload_n, ↓q_lload, ↓q_lload_n, ↓q_aload, ↓q_aload_n, ↓q_istore, ↓q_istore_n, ↓q_lstore, ↓q_lstore_n, ↓q_astore, ↓q_astore_n, ↓q_iinc, ↓q_iadd, ↓q_isub, ↓q_imul, ↓q_iand, ↓q_idiv, ↓q_irem, ↓q_ineg, ↓q_ladd, ↓q_lsub, ↓q_lmul, ↓q_land, ↓q_ldiv, ↓q_lrem, ↓q_i2l, ↓q_l2i, ↓q_dup, ↓q_pop, ↓q_dup2, ↓q_dup_x1, ↓q_goto, ↓q_if_eq, ↓q_if_ne, ↓q_if_lt, ↓q_if_ge, ↓q_if_gt, ↓q_if_le, ↓q_icmp_eq, ↓q_icmp_ne, ↓q_icmp_lt, ↓q_icmp_ge, ↓q_icmp_gt, ↓q_icmp_le, ↓q_ifnullN, ↓q_ifnull, ↓q_ifnonnullN, ↓q_ifnonnull, ↓q_table, ↓q_lookup, ↓q_getf, ↓q_putI, ↓q_putJ, ↓q_putR, ↓q_iald, ↓q_sld, ↓q_slen, ↓q_alen, ↓q_iast, ↓q_bald, ↓q_bast, ↓q_aald, ↓q_aast, ↓q_newa, ↓q_newq, ↓q_new, ↓q_objInit, ↓q_max, ↓q_min, ↓q_copy, ↓q_callS0, ↓q_callV0, ↓q_callI0, ↓q_callS1, ↓q_callV1, ↓q_callI1, ↓q_callS2, ↓q_callV2, ↓q_callI2, ↓q_callS3, ↓q_callV3, ↓q_callI3, ↓q_callS4, ↓q_callV4, ↓q_callI4, ↓q_callS5, ↓q_callV5, ↓q_callI5, ↓q_callS6, ↓q_callV6, ↓q_callI6, ↓q_callS7, ↓q_callV7, ↓q_callI7, ↓q_callS8, ↓q_callV8, ↓q_callI8, ↓q_iret, ↓q_lret, ↓q_vret, q_e_i_int, q_e_l_long, q_e_a_ref, q_e_a_null, q_cat_int, q_cat_ref, q_cat_null, q_cat_long, q_na_int, q_lgt_z, q_lgt_s, q_lst0, q_lst1, q_lstS, q_lst20, q_lst21, q_lst2S, q_clr_i, q_clr_r, q_clr_n, q_clr_0, q_clr_l, q_cv_i, q_cv_l, q_cv_r, q_rv_s, q_rv_n, q_toL_s, q_toL_n, true_and, and_true, Nat.reduceAdd, s33, s34, s35, s36, s37, s38, s39, s40, s41, s42, s43, s44, s45, s46, r33_3, r33_4, r33_6, r33_7, r33_8, r33_10, r33_11, r33_12, r33_13, r33_15, r33_16, r33_18, r33_19]
      rw [← hQ, if_pos ⟨hlt, hall⟩]
      exact ⟨rfl, rfl, rfl, rfl⟩
    · intro k hk ih hall
      have hk60 : k < 60 := by omega
      have h83 : ¬ m_blk (I 34) l w k → Go (g, M_M_enter, 4, n, z, 0, 0, Q) 83 [some (.ref (gB g + 33)), some (.int l), some (.int (nI w)), some (.int (nI k))] [] (n, z, S, I, J, R) := by
        intro hb
        refine go_wp B_M_enter_83_ok ?_; simp only [B_M_enter_83, ↓q_nil, ↓q_iconst, ↓q_bipush, ↓q_sipush, ↓q_ldc, ↓q_lconst, ↓q_ldc2, ↓q_null, ↓q_iload, ↓q_iload_n, ↓q_lload, ↓q_lload_n, ↓q_aload, ↓q_aload_n, ↓q_istore, ↓q_istore_n, ↓q_lstore, ↓q_lstore_n, ↓q_astore, ↓q_astore_n, ↓q_iinc, ↓q_iadd, ↓q_isub, ↓q_imul, ↓q_iand, ↓q_idiv, ↓q_irem, ↓q_ineg, ↓q_ladd, ↓q_lsub, ↓q_lmul, ↓q_land, ↓q_ldiv, ↓q_lrem, ↓q_i2l, ↓q_l2i, ↓q_dup, ↓q_pop, ↓q_dup2, ↓q_dup_x1, ↓q_goto, ↓q_if_eq, ↓q_if_ne, ↓q_if_lt, ↓q_if_ge, ↓q_if_gt, ↓q_if_le, ↓q_icmp_eq, ↓q_icmp_ne, ↓q_icmp_lt, ↓q_icmp_ge, ↓q_icmp_gt, ↓q_icmp_le, ↓q_ifnullN, ↓q_ifnull, ↓q_ifnonnullN, ↓q_ifnonnull, ↓q_table, ↓q_lookup, ↓q_getf, ↓q_putI, ↓q_putJ, ↓q_putR, ↓q_iald, ↓q_sld, ↓q_slen, ↓q_alen, ↓q_iast, ↓q_bald, ↓q_bast, ↓q_aald, ↓q_aast, ↓q_newa, ↓q_newq, ↓q_new, ↓q_objInit, ↓q_max, ↓q_min, ↓q_copy, ↓q_callS0, ↓q_callV0, ↓q_callI0, ↓q_callS1, ↓q_callV1, ↓q_callI1, ↓q_callS2, ↓q_callV2, ↓q_callI2, ↓q_callS3, ↓q_callV3, ↓q_callI3, ↓q_callS4, ↓q_callV4, ↓q_callI4, ↓q_callS5, ↓q_callV5, ↓q_callI5, ↓q_callS6, ↓q_callV6, ↓q_callI6, ↓q_callS7, ↓q_callV7, ↓q_callI7, ↓q_callS8, ↓q_callV8, ↓q_callI8, ↓q_iret, ↓q_lret, ↓q_vret, q_e_i_int, q_e_l_long, q_e_a_ref, q_e_a_null, q_cat_int, q_cat_ref, q_cat_null, q_cat_long, q_na_int, q_lgt_z, q_lgt_s, q_lst0, q_lst1, q_lstS, q_lst20, q_lst21, q_lst2S, q_clr_i, q_clr_r, q_clr_n, q_clr_0, q_clr_l, q_cv_i, q_cv_l, q_cv_r, q_rv_s, q_rv_n, q_toL_s, q_toL_n, true_and, and_true, Nat.reduceAdd, s33, s34, s35, s36, s37, s38, s39, s40, s41, s42, s43, s44, s45, s46, r33_3, r33_4, r33_6, r33_7, r33_8, r33_10, r33_11, r33_12, r33_13, r33_15, r33_16, r33_18, r33_19, nI_inc]
        refine ih (fun j hj => ?_)
        by_cases hjk : j = k
        · rw [hjk]; exact hb
        · exact hall j (by omega)
      refine go_wp B_M_enter_46_ok ?_; simp only [B_M_enter_46, ↓q_nil, ↓q_iconst, ↓q_bipush, ↓q_sipush, ↓q_ldc, ↓q_lconst, ↓q_ldc2, ↓q_null, ↓q_iload, ↓q_iload_n, ↓q_lload, ↓q_lload_n, ↓q_aload, ↓q_aload_n, ↓q_istore, ↓q_istore_n, ↓q_lstore, ↓q_lstore_n, ↓q_astore, ↓q_astore_n, ↓q_iinc, ↓q_iadd, ↓q_isub, ↓q_imul, ↓q_iand, ↓q_idiv, ↓q_irem, ↓q_ineg, ↓q_ladd, ↓q_lsub, ↓q_lmul, ↓q_land, ↓q_ldiv, ↓q_lrem, ↓q_i2l, ↓q_l2i, ↓q_dup, ↓q_pop, ↓q_dup2, ↓q_dup_x1, ↓q_goto, ↓q_if_eq, ↓q_if_ne, ↓q_if_lt, ↓q_if_ge, ↓q_if_gt, ↓q_if_le, ↓q_icmp_eq, ↓q_icmp_ne, ↓q_icmp_lt, ↓q_icmp_ge, ↓q_icmp_gt, ↓q_icmp_le, ↓q_ifnullN, ↓q_ifnull, ↓q_ifnonnullN, ↓q_ifnonnull, ↓q_table, ↓q_lookup, ↓q_getf, ↓q_putI, ↓q_putJ, ↓q_putR, ↓q_iald, ↓q_sld, ↓q_slen, ↓q_alen, ↓q_iast, ↓q_bald, ↓q_bast, ↓q_aald, ↓q_aast, ↓q_newa, ↓q_newq, ↓q_new, ↓q_objInit, ↓q_max, ↓q_min, ↓q_copy, ↓q_callS0, ↓q_callV0, ↓q_callI0, ↓q_callS1, ↓q_callV1, ↓q_callI1, ↓q_callS2, ↓q_callV2, ↓q_callI2, ↓q_callS3, ↓q_callV3, ↓q_callI3, ↓q_callS4, ↓q_callV4, ↓q_callI4, ↓q_callS5, ↓q_callV5, ↓q_callI5, ↓q_callS6, ↓q_callV6, ↓q_callI6, ↓q_callS7, ↓q_callV7, ↓q_callI7, ↓q_callS8, ↓q_callV8, ↓q_callI8, ↓q_iret, ↓q_lret, ↓q_vret, q_e_i_int, q_e_l_long, q_e_a_ref, q_e_a_null, q_cat_int, q_cat_ref, q_cat_null, q_cat_long, q_na_int, q_lgt_z, q_lgt_s, q_lst0, q_lst1, q_lstS, q_lst20, q_lst21, q_lst2S, q_clr_i, q_clr_r, q_clr_n, q_clr_0, q_clr_l, q_cv_i, q_cv_l, q_cv_r, q_rv_s, q_rv_n, q_toL_s, q_toL_n, true_and, and_true, Nat.reduceAdd, s33, s34, s35, s36, s37, s38, s39, s40, s41, s42, s43, s44, s45, s46, r33_3, r33_4, r33_6, r33_7, r33_8, r33_10, r33_11, r33_12, r33_13, r33_15, r33_16, r33_18, r33_19]
      refine call_ro (c_cars hs) (by decide) rfl (Nat.le_refl _) (Nat.le_refl _) ?_
      simp only [↓q_nil, ↓q_iconst, ↓q_bipush, ↓q_sipush, ↓q_ldc, ↓q_lconst, ↓q_ldc2, ↓q_null, ↓q_iload, ↓q_iload_n, ↓q_lload, ↓q_lload_n, ↓q_aload, ↓q_aload_n, ↓q_istore, ↓q_istore_n, ↓q_lstore, ↓q_lstore_n, ↓q_astore, ↓q_astore_n, ↓q_iinc, ↓q_iadd, ↓q_isub, ↓q_imul, ↓q_iand, ↓q_idiv, ↓q_irem, ↓q_ineg, ↓q_ladd, ↓q_lsub, ↓q_lmul, ↓q_land, ↓q_ldiv, ↓q_lrem, ↓q_i2l, ↓q_l2i, ↓q_dup, ↓q_pop, ↓q_dup2, ↓q_dup_x1, ↓q_goto, ↓q_if_eq, ↓q_if_ne, ↓q_if_lt, ↓q_if_ge, ↓q_if_gt, ↓q_if_le, ↓q_icmp_eq, ↓q_icmp_ne, ↓q_icmp_lt, ↓q_icmp_ge, ↓q_icmp_gt, ↓q_icmp_le, ↓q_ifnullN, ↓q_ifnull, ↓q_ifnonnullN, ↓q_ifnonnull, ↓q_table, ↓q_lookup, ↓q_getf, ↓q_putI, ↓q_putJ, ↓q_putR, ↓q_iald, ↓q_sld, ↓q_slen, ↓q_alen, ↓q_iast, ↓q_bald, ↓q_bast, ↓q_aald, ↓q_aast, ↓q_newa, ↓q_newq, ↓q_new, ↓q_objInit, ↓q_max, ↓q_min, ↓q_copy, ↓q_callS0, ↓q_callV0, ↓q_callI0, ↓q_callS1, ↓q_callV1, ↓q_callI1, ↓q_callS2, ↓q_callV2, ↓q_callI2, ↓q_callS3, ↓q_callV3, ↓q_callI3, ↓q_callS4, ↓q_callV4, ↓q_callI4, ↓q_callS5, ↓q_callV5, ↓q_callI5, ↓q_callS6, ↓q_callV6, ↓q_callI6, ↓q_callS7, ↓q_callV7, ↓q_callI7, ↓q_callS8, ↓q_callV8, ↓q_callI8, ↓q_iret, ↓q_lret, ↓q_vret, q_e_i_int, q_e_l_long, q_e_a_ref, q_e_a_null, q_cat_int, q_cat_ref, q_cat_null, q_cat_long, q_na_int, q_lgt_z, q_lgt_s, q_lst0, q_lst1, q_lstS, q_lst20, q_lst21, q_lst2S, q_clr_i, q_clr_r, q_clr_n, q_clr_0, q_clr_l, q_cv_i, q_cv_l, q_cv_r, q_rv_s, q_rv_n, q_toL_s, q_toL_n, true_and, and_true, Nat.reduceAdd, s33, s34, s35, s36, s37, s38, s39, s40, s41, s42, s43, s44, s45, s46, r33_3, r33_4, r33_6, r33_7, r33_8, r33_10, r33_11, r33_12, r33_13, r33_15, r33_16, r33_18, r33_19, hN]
      refine ⟨fun _ => ?_, fun h => absurd (nI_lt hk (by omega)) h⟩
      refine call_ro (c_isOn hs hk60) (by decide) rfl (Nat.le_refl _) (Nat.le_refl _) ?_
      simp only [↓q_nil, ↓q_iconst, ↓q_bipush, ↓q_sipush, ↓q_ldc, ↓q_lconst, ↓q_ldc2, ↓q_null, ↓q_iload, ↓q_iload_n, ↓q_lload, ↓q_lload_n, ↓q_aload, ↓q_aload_n, ↓q_istore, ↓q_istore_n, ↓q_lstore, ↓q_lstore_n, ↓q_astore, ↓q_astore_n, ↓q_iinc, ↓q_iadd, ↓q_isub, ↓q_imul, ↓q_iand, ↓q_idiv, ↓q_irem, ↓q_ineg, ↓q_ladd, ↓q_lsub, ↓q_lmul, ↓q_land, ↓q_ldiv, ↓q_lrem, ↓q_i2l, ↓q_l2i, ↓q_dup, ↓q_pop, ↓q_dup2, ↓q_dup_x1, ↓q_goto, ↓q_if_eq, ↓q_if_ne, ↓q_if_lt, ↓q_if_ge, ↓q_if_gt, ↓q_if_le, ↓q_icmp_eq, ↓q_icmp_ne, ↓q_icmp_lt, ↓q_icmp_ge, ↓q_icmp_gt, ↓q_icmp_le, ↓q_ifnullN, ↓q_ifnull, ↓q_ifnonnullN, ↓q_ifnonnull, ↓q_table, ↓q_lookup, ↓q_getf, ↓q_putI, ↓q_putJ, ↓q_putR, ↓q_iald, ↓q_sld, ↓q_slen, ↓q_alen, ↓q_iast, ↓q_bald, ↓q_bast, ↓q_aald, ↓q_aast, ↓q_newa, ↓q_newq, ↓q_new, ↓q_objInit, ↓q_max, ↓q_min, ↓q_copy, ↓q_callS0, ↓q_callV0, ↓q_callI0, ↓q_callS1, ↓q_callV1, ↓q_callI1, ↓q_callS2, ↓q_callV2, ↓q_callI2, ↓q_callS3, ↓q_callV3, ↓q_callI3, ↓q_callS4, ↓q_callV4, ↓q_callI4, ↓q_callS5, ↓q_callV5, ↓q_callI5, ↓q_callS6, ↓q_callV6, ↓q_callI6, ↓q_callS7, ↓q_callV7, ↓q_callI7, ↓q_callS8, ↓q_callV8, ↓q_callI8, ↓q_iret, ↓q_lret, ↓q_vret, q_e_i_int, q_e_l_long, q_e_a_ref, q_e_a_null, q_cat_int, q_cat_ref, q_cat_null, q_cat_long, q_na_int, q_lgt_z, q_lgt_s, q_lst0, q_lst1, q_lstS, q_lst20, q_lst21, q_lst2S, q_clr_i, q_clr_r, q_clr_n, q_clr_0, q_clr_l, q_cv_i, q_cv_l, q_cv_r, q_rv_s, q_rv_n, q_toL_s, q_toL_n, true_and, and_true, Nat.reduceAdd, s33, s34, s35, s36, s37, s38, s39, s40, s41, s42, s43, s44, s45, s46, r33_3, r33_4, r33_6, r33_7, r33_8, r33_10, r33_11, r33_12, r33_13, r33_15, r33_16, r33_18, r33_19]
      refine ⟨fun e => h83 (fun q => by rw [bI_t q.1] at e; exact absurd e (by decide)), fun e => ?_⟩
      have hon : pt (I 34) 2 k = 1 ∧ pt (I 34) 1 k = l := Decidable.byContradiction (fun q => e (bI_f q))
      refine call_ro (c_rear hs hk60) (by decide) rfl (Nat.le_refl _) (Nat.le_refl _) ?_
      simp only [↓q_nil, ↓q_iconst, ↓q_bipush, ↓q_sipush, ↓q_ldc, ↓q_lconst, ↓q_ldc2, ↓q_null, ↓q_iload, ↓q_iload_n, ↓q_lload, ↓q_lload_n, ↓q_aload, ↓q_aload_n, ↓q_istore, ↓q_istore_n, ↓q_lstore, ↓q_lstore_n, ↓q_astore, ↓q_astore_n, ↓q_iinc, ↓q_iadd, ↓q_isub, ↓q_imul, ↓q_iand, ↓q_idiv, ↓q_irem, ↓q_ineg, ↓q_ladd, ↓q_lsub, ↓q_lmul, ↓q_land, ↓q_ldiv, ↓q_lrem, ↓q_i2l, ↓q_l2i, ↓q_dup, ↓q_pop, ↓q_dup2, ↓q_dup_x1, ↓q_goto, ↓q_if_eq, ↓q_if_ne, ↓q_if_lt, ↓q_if_ge, ↓q_if_gt, ↓q_if_le, ↓q_icmp_eq, ↓q_icmp_ne, ↓q_icmp_lt, ↓q_icmp_ge, ↓q_icmp_gt, ↓q_icmp_le, ↓q_ifnullN, ↓q_ifnull, ↓q_ifnonnullN, ↓q_ifnonnull, ↓q_table, ↓q_lookup, ↓q_getf, ↓q_putI, ↓q_putJ, ↓q_putR, ↓q_iald, ↓q_sld, ↓q_slen, ↓q_alen, ↓q_iast, ↓q_bald, ↓q_bast, ↓q_aald, ↓q_aast, ↓q_newa, ↓q_newq, ↓q_new, ↓q_objInit, ↓q_max, ↓q_min, ↓q_copy, ↓q_callS0, ↓q_callV0, ↓q_callI0, ↓q_callS1, ↓q_callV1, ↓q_callI1, ↓q_callS2, ↓q_callV2, ↓q_callI2, ↓q_callS3, ↓q_callV3, ↓q_callI3, ↓q_callS4, ↓q_callV4, ↓q_callI4, ↓q_callS5, ↓q_callV5, ↓q_callI5, ↓q_callS6, ↓q_callV6, ↓q_callI6, ↓q_callS7, ↓q_callV7, ↓q_callI7, ↓q_callS8, ↓q_callV8, ↓q_callI8, ↓q_iret, ↓q_lret, ↓q_vret, q_e_i_int, q_e_l_long, q_e_a_ref, q_e_a_null, q_cat_int, q_cat_ref, q_cat_null, q_cat_long, q_na_int, q_lgt_z, q_lgt_s, q_lst0, q_lst1, q_lstS, q_lst20, q_lst21, q_lst2S, q_clr_i, q_clr_r, q_clr_n, q_clr_0, q_clr_l, q_cv_i, q_cv_l, q_cv_r, q_rv_s, q_rv_n, q_toL_s, q_toL_n, true_and, and_true, Nat.reduceAdd, s33, s34, s35, s36, s37, s38, s39, s40, s41, s42, s43, s44, s45, s46, r33_3, r33_4, r33_6, r33_7, r33_8, r33_10, r33_11, r33_12, r33_13, r33_15, r33_16, r33_18, r33_19]
      refine call_ro (c_of hs (p := 8) hw60 (by decide)) (by decide) rfl (Nat.le_refl _) (Nat.le_refl _) ?_
      simp only [↓q_nil, ↓q_iconst, ↓q_bipush, ↓q_sipush, ↓q_ldc, ↓q_lconst, ↓q_ldc2, ↓q_null, ↓q_iload, ↓q_iload_n, ↓q_lload, ↓q_lload_n, ↓q_aload, ↓q_aload_n, ↓q_istore, ↓q_istore_n, ↓q_lstore, ↓q_lstore_n, ↓q_astore, ↓q_astore_n, ↓q_iinc, ↓q_iadd, ↓q_isub, ↓q_imul, ↓q_iand, ↓q_idiv, ↓q_irem, ↓q_ineg, ↓q_ladd, ↓q_lsub, ↓q_lmul, ↓q_land, ↓q_ldiv, ↓q_lrem, ↓q_i2l, ↓q_l2i, ↓q_dup, ↓q_pop, ↓q_dup2, ↓q_dup_x1, ↓q_goto, ↓q_if_eq, ↓q_if_ne, ↓q_if_lt, ↓q_if_ge, ↓q_if_gt, ↓q_if_le, ↓q_icmp_eq, ↓q_icmp_ne, ↓q_icmp_lt, ↓q_icmp_ge, ↓q_icmp_gt, ↓q_icmp_le, ↓q_ifnullN, ↓q_ifnull, ↓q_ifnonnullN, ↓q_ifnonnull, ↓q_table, ↓q_lookup, ↓q_getf, ↓q_putI, ↓q_putJ, ↓q_putR, ↓q_iald, ↓q_sld, ↓q_slen, ↓q_alen, ↓q_iast, ↓q_bald, ↓q_bast, ↓q_aald, ↓q_aast, ↓q_newa, ↓q_newq, ↓q_new, ↓q_objInit, ↓q_max, ↓q_min, ↓q_copy, ↓q_callS0, ↓q_callV0, ↓q_callI0, ↓q_callS1, ↓q_callV1, ↓q_callI1, ↓q_callS2, ↓q_callV2, ↓q_callI2, ↓q_callS3, ↓q_callV3, ↓q_callI3, ↓q_callS4, ↓q_callV4, ↓q_callI4, ↓q_callS5, ↓q_callV5, ↓q_callI5, ↓q_callS6, ↓q_callV6, ↓q_callI6, ↓q_callS7, ↓q_callV7, ↓q_callI7, ↓q_callS8, ↓q_callV8, ↓q_callI8, ↓q_iret, ↓q_lret, ↓q_vret, q_e_i_int, q_e_l_long, q_e_a_ref, q_e_a_null, q_cat_int, q_cat_ref, q_cat_null, q_cat_long, q_na_int, q_lgt_z, q_lgt_s, q_lst0, q_lst1, q_lstS, q_lst20, q_lst21, q_lst2S, q_clr_i, q_clr_r, q_clr_n, q_clr_0, q_clr_l, q_cv_i, q_cv_l, q_cv_r, q_rv_s, q_rv_n, q_toL_s, q_toL_n, true_and, and_true, Nat.reduceAdd, s33, s34, s35, s36, s37, s38, s39, s40, s41, s42, s43, s44, s45, s46, r33_3, r33_4, r33_6, r33_7, r33_8, r33_10, r33_11, r33_12, r33_13, r33_15, r33_16, r33_18, r33_19]
      refine ⟨fun h2 => ?_, fun h2 => h83 (fun q => h2 q.2)⟩
      rw [← hQ, if_neg (fun q => q.2 k hk ⟨hon, h2⟩)]
      exact ⟨rfl, rfl, rfl, rfl⟩
  have h35 : ∀ o : Option Value, Go (g, M_M_enter, 4, n, z, 0, 0, Q) 35 [some (.ref (gB g + 33)), some (.int l), some (.int (nI w)), o] [] (n, z, S, I, J, R) := by
    intro o
    refine go_wp B_M_enter_35_ok ?_; simp only [B_M_enter_35, ↓q_nil, ↓q_iconst, ↓q_bipush, ↓q_sipush, ↓q_ldc, ↓q_lconst, ↓q_ldc2, ↓q_null, ↓q_iload, ↓q_iload_n, ↓q_lload, ↓q_lload_n, ↓q_aload, ↓q_aload_n, ↓q_istore, ↓q_istore_n, ↓q_lstore, ↓q_lstore_n, ↓q_astore, ↓q_astore_n, ↓q_iinc, ↓q_iadd, ↓q_isub, ↓q_imul, ↓q_iand, ↓q_idiv, ↓q_irem, ↓q_ineg, ↓q_ladd, ↓q_lsub, ↓q_lmul, ↓q_land, ↓q_ldiv, ↓q_lrem, ↓q_i2l, ↓q_l2i, ↓q_dup, ↓q_pop, ↓q_dup2, ↓q_dup_x1, ↓q_goto, ↓q_if_eq, ↓q_if_ne, ↓q_if_lt, ↓q_if_ge, ↓q_if_gt, ↓q_if_le, ↓q_icmp_eq, ↓q_icmp_ne, ↓q_icmp_lt, ↓q_icmp_ge, ↓q_icmp_gt, ↓q_icmp_le, ↓q_ifnullN, ↓q_ifnull, ↓q_ifnonnullN, ↓q_ifnonnull, ↓q_table, ↓q_lookup, ↓q_getf, ↓q_putI, ↓q_putJ, ↓q_putR, ↓q_iald, ↓q_sld, ↓q_slen, ↓q_alen, ↓q_iast, ↓q_bald, ↓q_bast, ↓q_aald, ↓q_aast, ↓q_newa, ↓q_newq, ↓q_new, ↓q_objInit, ↓q_max, ↓q_min, ↓q_copy, ↓q_callS0, ↓q_callV0, ↓q_callI0, ↓q_callS1, ↓q_callV1, ↓q_callI1, ↓q_callS2, ↓q_callV2, ↓q_callI2, ↓q_callS3, ↓q_callV3, ↓q_callI3, ↓q_callS4, ↓q_callV4, ↓q_callI4, ↓q_callS5, ↓q_callV5, ↓q_callI5, ↓q_callS6, ↓q_callV6, ↓q_callI6, ↓q_callS7, ↓q_callV7, ↓q_callI7, ↓q_callS8, ↓q_callV8, ↓q_callI8, ↓q_iret, ↓q_lret, ↓q_vret, q_e_i_int, q_e_l_long, q_e_a_ref, q_e_a_null, q_cat_int, q_cat_ref, q_cat_null, q_cat_long, q_na_int, q_lgt_z, q_lgt_s, q_lst0, q_lst1, q_lstS, q_lst20, q_lst21, q_lst2S, q_clr_i, q_clr_r, q_clr_n, q_clr_0, q_clr_l, q_cv_i, q_cv_l, q_cv_r, q_rv_s, q_rv_n, q_toL_s, q_toL_n, true_and, and_true, Nat.reduceAdd, s33, s34, s35, s36, s37, s38, s39, s40, s41, s42, s43, s44, s45, s46, r33_3, r33_4, r33_6, r33_7, r33_8, r33_10, r33_11, r33_12, r33_13, r33_15, r33_16, r33_18, r33_19]
    refine call_ro (c_cars hs) (by decide) rfl (Nat.le_refl _) (Nat.le_refl _) ?_
    simp only [↓q_nil, ↓q_iconst, ↓q_bipush, ↓q_sipush, ↓q_ldc, ↓q_lconst, ↓q_ldc2, ↓q_null, ↓q_iload, ↓q_iload_n, ↓q_lload, ↓q_lload_n, ↓q_aload, ↓q_aload_n, ↓q_istore, ↓q_istore_n, ↓q_lstore, ↓q_lstore_n, ↓q_astore, ↓q_astore_n, ↓q_iinc, ↓q_iadd, ↓q_isub, ↓q_imul, ↓q_iand, ↓q_idiv, ↓q_irem, ↓q_ineg, ↓q_ladd, ↓q_lsub, ↓q_lmul, ↓q_land, ↓q_ldiv, ↓q_lrem, ↓q_i2l, ↓q_l2i, ↓q_dup, ↓q_pop, ↓q_dup2, ↓q_dup_x1, ↓q_goto, ↓q_if_eq, ↓q_if_ne, ↓q_if_lt, ↓q_if_ge, ↓q_if_gt, ↓q_if_le, ↓q_icmp_eq, ↓q_icmp_ne, ↓q_icmp_lt, ↓q_icmp_ge, ↓q_icmp_gt, ↓q_icmp_le, ↓q_ifnullN, ↓q_ifnull, ↓q_ifnonnullN, ↓q_ifnonnull, ↓q_table, ↓q_lookup, ↓q_getf, ↓q_putI, ↓q_putJ, ↓q_putR, ↓q_iald, ↓q_sld, ↓q_slen, ↓q_alen, ↓q_iast, ↓q_bald, ↓q_bast, ↓q_aald, ↓q_aast, ↓q_newa, ↓q_newq, ↓q_new, ↓q_objInit, ↓q_max, ↓q_min, ↓q_copy, ↓q_callS0, ↓q_callV0, ↓q_callI0, ↓q_callS1, ↓q_callV1, ↓q_callI1, ↓q_callS2, ↓q_callV2, ↓q_callI2, ↓q_callS3, ↓q_callV3, ↓q_callI3, ↓q_callS4, ↓q_callV4, ↓q_callI4, ↓q_callS5, ↓q_callV5, ↓q_callI5, ↓q_callS6, ↓q_callV6, ↓q_callI6, ↓q_callS7, ↓q_callV7, ↓q_callI7, ↓q_callS8, ↓q_callV8, ↓q_callI8, ↓q_iret, ↓q_lret, ↓q_vret, q_e_i_int, q_e_l_long, q_e_a_ref, q_e_a_null, q_cat_int, q_cat_ref, q_cat_null, q_cat_long, q_na_int, q_lgt_z, q_lgt_s, q_lst0, q_lst1, q_lstS, q_lst20, q_lst21, q_lst2S, q_clr_i, q_clr_r, q_clr_n, q_clr_0, q_clr_l, q_cv_i, q_cv_l, q_cv_r, q_rv_s, q_rv_n, q_toL_s, q_toL_n, true_and, and_true, Nat.reduceAdd, s33, s34, s35, s36, s37, s38, s39, s40, s41, s42, s43, s44, s45, s46, r33_3, r33_4, r33_6, r33_7, r33_8, r33_10, r33_11, r33_12, r33_13, r33_15, r33_16, r33_18, r33_19, hN]
    refine ⟨fun h => ?_, fun h => ?_⟩
    · rw [← hQ, if_neg (fun q => by have := (nI_eq (by omega) (by omega)).mp h; omega)]
      exact ⟨rfl, rfl, rfl, rfl⟩
    · refine go_wp B_M_enter_44_ok ?_; simp only [B_M_enter_44, ↓q_nil, ↓q_iconst, ↓q_bipush, ↓q_sipush, ↓q_ldc, ↓q_lconst, ↓q_ldc2, ↓q_null, ↓q_iload, ↓q_iload_n, ↓q_lload, ↓q_lload_n, ↓q_aload, ↓q_aload_n, ↓q_istore, ↓q_istore_n, ↓q_lstore, ↓q_lstore_n, ↓q_astore, ↓q_astore_n, ↓q_iinc, ↓q_iadd, ↓q_isub, ↓q_imul, ↓q_iand, ↓q_idiv, ↓q_irem, ↓q_ineg, ↓q_ladd, ↓q_lsub, ↓q_lmul, ↓q_land, ↓q_ldiv, ↓q_lrem, ↓q_i2l, ↓q_l2i, ↓q_dup, ↓q_pop, ↓q_dup2, ↓q_dup_x1, ↓q_goto, ↓q_if_eq, ↓q_if_ne, ↓q_if_lt, ↓q_if_ge, ↓q_if_gt, ↓q_if_le, ↓q_icmp_eq, ↓q_icmp_ne, ↓q_icmp_lt, ↓q_icmp_ge, ↓q_icmp_gt, ↓q_icmp_le, ↓q_ifnullN, ↓q_ifnull, ↓q_ifnonnullN, ↓q_ifnonnull, ↓q_table, ↓q_lookup, ↓q_getf, ↓q_putI, ↓q_putJ, ↓q_putR, ↓q_iald, ↓q_sld, ↓q_slen, ↓q_alen, ↓q_iast, ↓q_bald, ↓q_bast, ↓q_aald, ↓q_aast, ↓q_newa, ↓q_newq, ↓q_new, ↓q_objInit, ↓q_max, ↓q_min, ↓q_copy, ↓q_callS0, ↓q_callV0, ↓q_callI0, ↓q_callS1, ↓q_callV1, ↓q_callI1, ↓q_callS2, ↓q_callV2, ↓q_callI2, ↓q_callS3, ↓q_callV3, ↓q_callI3, ↓q_callS4, ↓q_callV4, ↓q_callI4, ↓q_callS5, ↓q_callV5, ↓q_callI5, ↓q_callS6, ↓q_callV6, ↓q_callI6, ↓q_callS7, ↓q_callV7, ↓q_callI7, ↓q_callS8, ↓q_callV8, ↓q_callI8, ↓q_iret, ↓q_lret, ↓q_vret, q_e_i_int, q_e_l_long, q_e_a_ref, q_e_a_null, q_cat_int, q_cat_ref, q_cat_null, q_cat_long, q_na_int, q_lgt_z, q_lgt_s, q_lst0, q_lst1, q_lstS, q_lst20, q_lst21, q_lst2S, q_clr_i, q_clr_r, q_clr_n, q_clr_0, q_clr_l, q_cv_i, q_cv_l, q_cv_r, q_rv_s, q_rv_n, q_toL_s, q_toL_n, true_and, and_true, Nat.reduceAdd, s33, s34, s35, s36, s37, s38, s39, s40, s41, s42, s43, s44, s45, s46, r33_3, r33_4, r33_6, r33_7, r33_8, r33_10, r33_11, r33_12, r33_13, r33_15, r33_16, r33_18, r33_19]
      exact h46 (by
        rcases Nat.lt_or_ge w N with q | q
        · exact q
        · exact absurd (by rw [show w = N by omega]) h)
  have h2 : ∀ (m k : Nat) (o : Option Value), k + m = N → m_fw (I 34) l m k = w → Go (g, M_M_enter, 4, n, z, 0, 0, Q) 2 [some (.ref (gB g + 33)), some (.int l), some (.int (nI k)), o] [] (n, z, S, I, J, R) := by
    intro m
    induction m with
    | zero =>
      intro k o hk he
      rw [m_fw] at he
      refine go_wp B_M_enter_2_ok ?_; simp only [B_M_enter_2, ↓q_nil, ↓q_iconst, ↓q_bipush, ↓q_sipush, ↓q_ldc, ↓q_lconst, ↓q_ldc2, ↓q_null, ↓q_iload, ↓q_iload_n, ↓q_lload, ↓q_lload_n, ↓q_aload, ↓q_aload_n, ↓q_istore, ↓q_istore_n, ↓q_lstore, ↓q_lstore_n, ↓q_astore, ↓q_astore_n, ↓q_iinc, ↓q_iadd, ↓q_isub, ↓q_imul, ↓q_iand, ↓q_idiv, ↓q_irem, ↓q_ineg, ↓q_ladd, ↓q_lsub, ↓q_lmul, ↓q_land, ↓q_ldiv, ↓q_lrem, ↓q_i2l, ↓q_l2i, ↓q_dup, ↓q_pop, ↓q_dup2, ↓q_dup_x1, ↓q_goto, ↓q_if_eq, ↓q_if_ne, ↓q_if_lt, ↓q_if_ge, ↓q_if_gt, ↓q_if_le, ↓q_icmp_eq, ↓q_icmp_ne, ↓q_icmp_lt, ↓q_icmp_ge, ↓q_icmp_gt, ↓q_icmp_le, ↓q_ifnullN, ↓q_ifnull, ↓q_ifnonnullN, ↓q_ifnonnull, ↓q_table, ↓q_lookup, ↓q_getf, ↓q_putI, ↓q_putJ, ↓q_putR, ↓q_iald, ↓q_sld, ↓q_slen, ↓q_alen, ↓q_iast, ↓q_bald, ↓q_bast, ↓q_aald, ↓q_aast, ↓q_newa, ↓q_newq, ↓q_new, ↓q_objInit, ↓q_max, ↓q_min, ↓q_copy, ↓q_callS0, ↓q_callV0, ↓q_callI0, ↓q_callS1, ↓q_callV1, ↓q_callI1, ↓q_callS2, ↓q_callV2, ↓q_callI2, ↓q_callS3, ↓q_callV3, ↓q_callI3, ↓q_callS4, ↓q_callV4, ↓q_callI4, ↓q_callS5, ↓q_callV5, ↓q_callI5, ↓q_callS6, ↓q_callV6, ↓q_callI6, ↓q_callS7, ↓q_callV7, ↓q_callI7, ↓q_callS8, ↓q_callV8, ↓q_callI8, ↓q_iret, ↓q_lret, ↓q_vret, q_e_i_int, q_e_l_long, q_e_a_ref, q_e_a_null, q_cat_int, q_cat_ref, q_cat_null, q_cat_long, q_na_int, q_lgt_z, q_lgt_s, q_lst0, q_lst1, q_lstS, q_lst20, q_lst21, q_lst2S, q_clr_i, q_clr_r, q_clr_n, q_clr_0, q_clr_l, q_cv_i, q_cv_l, q_cv_r, q_rv_s, q_rv_n, q_toL_s, q_toL_n, true_and, and_true, Nat.reduceAdd, s33, s34, s35, s36, s37, s38, s39, s40, s41, s42, s43, s44, s45, s46, r33_3, r33_4, r33_6, r33_7, r33_8, r33_10, r33_11, r33_12, r33_13, r33_15, r33_16, r33_18, r33_19]
      refine call_ro (c_cars hs) (by decide) rfl (Nat.le_refl _) (Nat.le_refl _) ?_
      simp only [↓q_nil, ↓q_iconst, ↓q_bipush, ↓q_sipush, ↓q_ldc, ↓q_lconst, ↓q_ldc2, ↓q_null, ↓q_iload, ↓q_iload_n, ↓q_lload, ↓q_lload_n, ↓q_aload, ↓q_aload_n, ↓q_istore, ↓q_istore_n, ↓q_lstore, ↓q_lstore_n, ↓q_astore, ↓q_astore_n, ↓q_iinc, ↓q_iadd, ↓q_isub, ↓q_imul, ↓q_iand, ↓q_idiv, ↓q_irem, ↓q_ineg, ↓q_ladd, ↓q_lsub, ↓q_lmul, ↓q_land, ↓q_ldiv, ↓q_lrem, ↓q_i2l, ↓q_l2i, ↓q_dup, ↓q_pop, ↓q_dup2, ↓q_dup_x1, ↓q_goto, ↓q_if_eq, ↓q_if_ne, ↓q_if_lt, ↓q_if_ge, ↓q_if_gt, ↓q_if_le, ↓q_icmp_eq, ↓q_icmp_ne, ↓q_icmp_lt, ↓q_icmp_ge, ↓q_icmp_gt, ↓q_icmp_le, ↓q_ifnullN, ↓q_ifnull, ↓q_ifnonnullN, ↓q_ifnonnull, ↓q_table, ↓q_lookup, ↓q_getf, ↓q_putI, ↓q_putJ, ↓q_putR, ↓q_iald, ↓q_sld, ↓q_slen, ↓q_alen, ↓q_iast, ↓q_bald, ↓q_bast, ↓q_aald, ↓q_aast, ↓q_newa, ↓q_newq, ↓q_new, ↓q_objInit, ↓q_max, ↓q_min, ↓q_copy, ↓q_callS0, ↓q_callV0, ↓q_callI0, ↓q_callS1, ↓q_callV1, ↓q_callI1, ↓q_callS2, ↓q_callV2, ↓q_callI2, ↓q_callS3, ↓q_callV3, ↓q_callI3, ↓q_callS4, ↓q_callV4, ↓q_callI4, ↓q_callS5, ↓q_callV5, ↓q_callI5, ↓q_callS6, ↓q_callV6, ↓q_callI6, ↓q_callS7, ↓q_callV7, ↓q_callI7, ↓q_callS8, ↓q_callV8, ↓q_callI8, ↓q_iret, ↓q_lret, ↓q_vret, q_e_i_int, q_e_l_long, q_e_a_ref, q_e_a_null, q_cat_int, q_cat_ref, q_cat_null, q_cat_long, q_na_int, q_lgt_z, q_lgt_s, q_lst0, q_lst1, q_lstS, q_lst20, q_lst21, q_lst2S, q_clr_i, q_clr_r, q_clr_n, q_clr_0, q_clr_l, q_cv_i, q_cv_l, q_cv_r, q_rv_s, q_rv_n, q_toL_s, q_toL_n, true_and, and_true, Nat.reduceAdd, s33, s34, s35, s36, s37, s38, s39, s40, s41, s42, s43, s44, s45, s46, r33_3, r33_4, r33_6, r33_7, r33_8, r33_10, r33_11, r33_12, r33_13, r33_15, r33_16, r33_18, r33_19, hN]
      refine ⟨fun h => absurd h (nI_nlt (by omega) (by omega)), fun _ => ?_⟩
      rw [he]
      exact h35 o
    | succ m ih =>
      intro k o hk he
      have hk60 : k < 60 := by omega
      rw [m_fw] at he
      have h29 : ¬ m_wt (I 34) l k → Go (g, M_M_enter, 4, n, z, 0, 0, Q) 29 [some (.ref (gB g + 33)), some (.int l), some (.int (nI k)), o] [] (n, z, S, I, J, R) := by
        intro hno
        rw [if_neg hno] at he
        refine go_wp B_M_enter_29_ok ?_; simp only [B_M_enter_29, ↓q_nil, ↓q_iconst, ↓q_bipush, ↓q_sipush, ↓q_ldc, ↓q_lconst, ↓q_ldc2, ↓q_null, ↓q_iload, ↓q_iload_n, ↓q_lload, ↓q_lload_n, ↓q_aload, ↓q_aload_n, ↓q_istore, ↓q_istore_n, ↓q_lstore, ↓q_lstore_n, ↓q_astore, ↓q_astore_n, ↓q_iinc, ↓q_iadd, ↓q_isub, ↓q_imul, ↓q_iand, ↓q_idiv, ↓q_irem, ↓q_ineg, ↓q_ladd, ↓q_lsub, ↓q_lmul, ↓q_land, ↓q_ldiv, ↓q_lrem, ↓q_i2l, ↓q_l2i, ↓q_dup, ↓q_pop, ↓q_dup2, ↓q_dup_x1, ↓q_goto, ↓q_if_eq, ↓q_if_ne, ↓q_if_lt, ↓q_if_ge, ↓q_if_gt, ↓q_if_le, ↓q_icmp_eq, ↓q_icmp_ne, ↓q_icmp_lt, ↓q_icmp_ge, ↓q_icmp_gt, ↓q_icmp_le, ↓q_ifnullN, ↓q_ifnull, ↓q_ifnonnullN, ↓q_ifnonnull, ↓q_table, ↓q_lookup, ↓q_getf, ↓q_putI, ↓q_putJ, ↓q_putR, ↓q_iald, ↓q_sld, ↓q_slen, ↓q_alen, ↓q_iast, ↓q_bald, ↓q_bast, ↓q_aald, ↓q_aast, ↓q_newa, ↓q_newq, ↓q_new, ↓q_objInit, ↓q_max, ↓q_min, ↓q_copy, ↓q_callS0, ↓q_callV0, ↓q_callI0, ↓q_callS1, ↓q_callV1, ↓q_callI1, ↓q_callS2, ↓q_callV2, ↓q_callI2, ↓q_callS3, ↓q_callV3, ↓q_callI3, ↓q_callS4, ↓q_callV4, ↓q_callI4, ↓q_callS5, ↓q_callV5, ↓q_callI5, ↓q_callS6, ↓q_callV6, ↓q_callI6, ↓q_callS7, ↓q_callV7, ↓q_callI7, ↓q_callS8, ↓q_callV8, ↓q_callI8, ↓q_iret, ↓q_lret, ↓q_vret, q_e_i_int, q_e_l_long, q_e_a_ref, q_e_a_null, q_cat_int, q_cat_ref, q_cat_null, q_cat_long, q_na_int, q_lgt_z, q_lgt_s, q_lst0, q_lst1, q_lstS, q_lst20, q_lst21, q_lst2S, q_clr_i, q_clr_r, q_clr_n, q_clr_0, q_clr_l, q_cv_i, q_cv_l, q_cv_r, q_rv_s, q_rv_n, q_toL_s, q_toL_n, true_and, and_true, Nat.reduceAdd, s33, s34, s35, s36, s37, s38, s39, s40, s41, s42, s43, s44, s45, s46, r33_3, r33_4, r33_6, r33_7, r33_8, r33_10, r33_11, r33_12, r33_13, r33_15, r33_16, r33_18, r33_19, nI_inc]
        exact ih (k + 1) o (by omega) he
      refine go_wp B_M_enter_2_ok ?_; simp only [B_M_enter_2, ↓q_nil, ↓q_iconst, ↓q_bipush, ↓q_sipush, ↓q_ldc, ↓q_lconst, ↓q_ldc2, ↓q_null, ↓q_iload, ↓q_iload_n, ↓q_lload, ↓q_lload_n, ↓q_aload, ↓q_aload_n, ↓q_istore, ↓q_istore_n, ↓q_lstore, ↓q_lstore_n, ↓q_astore, ↓q_astore_n, ↓q_iinc, ↓q_iadd, ↓q_isub, ↓q_imul, ↓q_iand, ↓q_idiv, ↓q_irem, ↓q_ineg, ↓q_ladd, ↓q_lsub, ↓q_lmul, ↓q_land, ↓q_ldiv, ↓q_lrem, ↓q_i2l, ↓q_l2i, ↓q_dup, ↓q_pop, ↓q_dup2, ↓q_dup_x1, ↓q_goto, ↓q_if_eq, ↓q_if_ne, ↓q_if_lt, ↓q_if_ge, ↓q_if_gt, ↓q_if_le, ↓q_icmp_eq, ↓q_icmp_ne, ↓q_icmp_lt, ↓q_icmp_ge, ↓q_icmp_gt, ↓q_icmp_le, ↓q_ifnullN, ↓q_ifnull, ↓q_ifnonnullN, ↓q_ifnonnull, ↓q_table, ↓q_lookup, ↓q_getf, ↓q_putI, ↓q_putJ, ↓q_putR, ↓q_iald, ↓q_sld, ↓q_slen, ↓q_alen, ↓q_iast, ↓q_bald, ↓q_bast, ↓q_aald, ↓q_aast, ↓q_newa, ↓q_newq, ↓q_new, ↓q_objInit, ↓q_max, ↓q_min, ↓q_copy, ↓q_callS0, ↓q_callV0, ↓q_callI0, ↓q_callS1, ↓q_callV1, ↓q_callI1, ↓q_callS2, ↓q_callV2, ↓q_callI2, ↓q_callS3, ↓q_callV3, ↓q_callI3, ↓q_callS4, ↓q_callV4, ↓q_callI4, ↓q_callS5, ↓q_callV5, ↓q_callI5, ↓q_callS6, ↓q_callV6, ↓q_callI6, ↓q_callS7, ↓q_callV7, ↓q_callI7, ↓q_callS8, ↓q_callV8, ↓q_callI8, ↓q_iret, ↓q_lret, ↓q_vret, q_e_i_int, q_e_l_long, q_e_a_ref, q_e_a_null, q_cat_int, q_cat_ref, q_cat_null, q_cat_long, q_na_int, q_lgt_z, q_lgt_s, q_lst0, q_lst1, q_lstS, q_lst20, q_lst21, q_lst2S, q_clr_i, q_clr_r, q_clr_n, q_clr_0, q_clr_l, q_cv_i, q_cv_l, q_cv_r, q_rv_s, q_rv_n, q_toL_s, q_toL_n, true_and, and_true, Nat.reduceAdd, s33, s34, s35, s36, s37, s38, s39, s40, s41, s42, s43, s44, s45, s46, r33_3, r33_4, r33_6, r33_7, r33_8, r33_10, r33_11, r33_12, r33_13, r33_15, r33_16, r33_18, r33_19]
      refine call_ro (c_cars hs) (by decide) rfl (Nat.le_refl _) (Nat.le_refl _) ?_
      simp only [↓q_nil, ↓q_iconst, ↓q_bipush, ↓q_sipush, ↓q_ldc, ↓q_lconst, ↓q_ldc2, ↓q_null, ↓q_iload, ↓q_iload_n, ↓q_lload, ↓q_lload_n, ↓q_aload, ↓q_aload_n, ↓q_istore, ↓q_istore_n, ↓q_lstore, ↓q_lstore_n, ↓q_astore, ↓q_astore_n, ↓q_iinc, ↓q_iadd, ↓q_isub, ↓q_imul, ↓q_iand, ↓q_idiv, ↓q_irem, ↓q_ineg, ↓q_ladd, ↓q_lsub, ↓q_lmul, ↓q_land, ↓q_ldiv, ↓q_lrem, ↓q_i2l, ↓q_l2i, ↓q_dup, ↓q_pop, ↓q_dup2, ↓q_dup_x1, ↓q_goto, ↓q_if_eq, ↓q_if_ne, ↓q_if_lt, ↓q_if_ge, ↓q_if_gt, ↓q_if_le, ↓q_icmp_eq, ↓q_icmp_ne, ↓q_icmp_lt, ↓q_icmp_ge, ↓q_icmp_gt, ↓q_icmp_le, ↓q_ifnullN, ↓q_ifnull, ↓q_ifnonnullN, ↓q_ifnonnull, ↓q_table, ↓q_lookup, ↓q_getf, ↓q_putI, ↓q_putJ, ↓q_putR, ↓q_iald, ↓q_sld, ↓q_slen, ↓q_alen, ↓q_iast, ↓q_bald, ↓q_bast, ↓q_aald, ↓q_aast, ↓q_newa, ↓q_newq, ↓q_new, ↓q_objInit, ↓q_max, ↓q_min, ↓q_copy, ↓q_callS0, ↓q_callV0, ↓q_callI0, ↓q_callS1, ↓q_callV1, ↓q_callI1, ↓q_callS2, ↓q_callV2, ↓q_callI2, ↓q_callS3, ↓q_callV3, ↓q_callI3, ↓q_callS4, ↓q_callV4, ↓q_callI4, ↓q_callS5, ↓q_callV5, ↓q_callI5, ↓q_callS6, ↓q_callV6, ↓q_callI6, ↓q_callS7, ↓q_callV7, ↓q_callI7, ↓q_callS8, ↓q_callV8, ↓q_callI8, ↓q_iret, ↓q_lret, ↓q_vret, q_e_i_int, q_e_l_long, q_e_a_ref, q_e_a_null, q_cat_int, q_cat_ref, q_cat_null, q_cat_long, q_na_int, q_lgt_z, q_lgt_s, q_lst0, q_lst1, q_lstS, q_lst20, q_lst21, q_lst2S, q_clr_i, q_clr_r, q_clr_n, q_clr_0, q_clr_l, q_cv_i, q_cv_l, q_cv_r, q_rv_s, q_rv_n, q_toL_s, q_toL_n, true_and, and_true, Nat.reduceAdd, s33, s34, s35, s36, s37, s38, s39, s40, s41, s42, s43, s44, s45, s46, r33_3, r33_4, r33_6, r33_7, r33_8, r33_10, r33_11, r33_12, r33_13, r33_15, r33_16, r33_18, r33_19, hN]
      refine ⟨fun _ => ?_, fun h => absurd (nI_lt (show k < N by omega) (by omega)) h⟩
      refine call_ro (c_of hs (p := 2) hk60 (by decide)) (by decide) rfl (Nat.le_refl _) (Nat.le_refl _) ?_
      simp only [↓q_nil, ↓q_iconst, ↓q_bipush, ↓q_sipush, ↓q_ldc, ↓q_lconst, ↓q_ldc2, ↓q_null, ↓q_iload, ↓q_iload_n, ↓q_lload, ↓q_lload_n, ↓q_aload, ↓q_aload_n, ↓q_istore, ↓q_istore_n, ↓q_lstore, ↓q_lstore_n, ↓q_astore, ↓q_astore_n, ↓q_iinc, ↓q_iadd, ↓q_isub, ↓q_imul, ↓q_iand, ↓q_idiv, ↓q_irem, ↓q_ineg, ↓q_ladd, ↓q_lsub, ↓q_lmul, ↓q_land, ↓q_ldiv, ↓q_lrem, ↓q_i2l, ↓q_l2i, ↓q_dup, ↓q_pop, ↓q_dup2, ↓q_dup_x1, ↓q_goto, ↓q_if_eq, ↓q_if_ne, ↓q_if_lt, ↓q_if_ge, ↓q_if_gt, ↓q_if_le, ↓q_icmp_eq, ↓q_icmp_ne, ↓q_icmp_lt, ↓q_icmp_ge, ↓q_icmp_gt, ↓q_icmp_le, ↓q_ifnullN, ↓q_ifnull, ↓q_ifnonnullN, ↓q_ifnonnull, ↓q_table, ↓q_lookup, ↓q_getf, ↓q_putI, ↓q_putJ, ↓q_putR, ↓q_iald, ↓q_sld, ↓q_slen, ↓q_alen, ↓q_iast, ↓q_bald, ↓q_bast, ↓q_aald, ↓q_aast, ↓q_newa, ↓q_newq, ↓q_new, ↓q_objInit, ↓q_max, ↓q_min, ↓q_copy, ↓q_callS0, ↓q_callV0, ↓q_callI0, ↓q_callS1, ↓q_callV1, ↓q_callI1, ↓q_callS2, ↓q_callV2, ↓q_callI2, ↓q_callS3, ↓q_callV3, ↓q_callI3, ↓q_callS4, ↓q_callV4, ↓q_callI4, ↓q_callS5, ↓q_callV5, ↓q_callI5, ↓q_callS6, ↓q_callV6, ↓q_callI6, ↓q_callS7, ↓q_callV7, ↓q_callI7, ↓q_callS8, ↓q_callV8, ↓q_callI8, ↓q_iret, ↓q_lret, ↓q_vret, q_e_i_int, q_e_l_long, q_e_a_ref, q_e_a_null, q_cat_int, q_cat_ref, q_cat_null, q_cat_long, q_na_int, q_lgt_z, q_lgt_s, q_lst0, q_lst1, q_lstS, q_lst20, q_lst21, q_lst2S, q_clr_i, q_clr_r, q_clr_n, q_clr_0, q_clr_l, q_cv_i, q_cv_l, q_cv_r, q_rv_s, q_rv_n, q_toL_s, q_toL_n, true_and, and_true, Nat.reduceAdd, s33, s34, s35, s36, s37, s38, s39, s40, s41, s42, s43, s44, s45, s46, r33_3, r33_4, r33_6, r33_7, r33_8, r33_10, r33_11, r33_12, r33_13, r33_15, r33_16, r33_18, r33_19]
      refine ⟨fun e1 => ?_, fun e1 => h29 (fun q => e1 q.1)⟩
      refine call_ro (c_of hs (p := 1) hk60 (by decide)) (by decide) rfl (Nat.le_refl _) (Nat.le_refl _) ?_
      simp only [↓q_nil, ↓q_iconst, ↓q_bipush, ↓q_sipush, ↓q_ldc, ↓q_lconst, ↓q_ldc2, ↓q_null, ↓q_iload, ↓q_iload_n, ↓q_lload, ↓q_lload_n, ↓q_aload, ↓q_aload_n, ↓q_istore, ↓q_istore_n, ↓q_lstore, ↓q_lstore_n, ↓q_astore, ↓q_astore_n, ↓q_iinc, ↓q_iadd, ↓q_isub, ↓q_imul, ↓q_iand, ↓q_idiv, ↓q_irem, ↓q_ineg, ↓q_ladd, ↓q_lsub, ↓q_lmul, ↓q_land, ↓q_ldiv, ↓q_lrem, ↓q_i2l, ↓q_l2i, ↓q_dup, ↓q_pop, ↓q_dup2, ↓q_dup_x1, ↓q_goto, ↓q_if_eq, ↓q_if_ne, ↓q_if_lt, ↓q_if_ge, ↓q_if_gt, ↓q_if_le, ↓q_icmp_eq, ↓q_icmp_ne, ↓q_icmp_lt, ↓q_icmp_ge, ↓q_icmp_gt, ↓q_icmp_le, ↓q_ifnullN, ↓q_ifnull, ↓q_ifnonnullN, ↓q_ifnonnull, ↓q_table, ↓q_lookup, ↓q_getf, ↓q_putI, ↓q_putJ, ↓q_putR, ↓q_iald, ↓q_sld, ↓q_slen, ↓q_alen, ↓q_iast, ↓q_bald, ↓q_bast, ↓q_aald, ↓q_aast, ↓q_newa, ↓q_newq, ↓q_new, ↓q_objInit, ↓q_max, ↓q_min, ↓q_copy, ↓q_callS0, ↓q_callV0, ↓q_callI0, ↓q_callS1, ↓q_callV1, ↓q_callI1, ↓q_callS2, ↓q_callV2, ↓q_callI2, ↓q_callS3, ↓q_callV3, ↓q_callI3, ↓q_callS4, ↓q_callV4, ↓q_callI4, ↓q_callS5, ↓q_callV5, ↓q_callI5, ↓q_callS6, ↓q_callV6, ↓q_callI6, ↓q_callS7, ↓q_callV7, ↓q_callI7, ↓q_callS8, ↓q_callV8, ↓q_callI8, ↓q_iret, ↓q_lret, ↓q_vret, q_e_i_int, q_e_l_long, q_e_a_ref, q_e_a_null, q_cat_int, q_cat_ref, q_cat_null, q_cat_long, q_na_int, q_lgt_z, q_lgt_s, q_lst0, q_lst1, q_lstS, q_lst20, q_lst21, q_lst2S, q_clr_i, q_clr_r, q_clr_n, q_clr_0, q_clr_l, q_cv_i, q_cv_l, q_cv_r, q_rv_s, q_rv_n, q_toL_s, q_toL_n, true_and, and_true, Nat.reduceAdd, s33, s34, s35, s36, s37, s38, s39, s40, s41, s42, s43, s44, s45, s46, r33_3, r33_4, r33_6, r33_7, r33_8, r33_10, r33_11, r33_12, r33_13, r33_15, r33_16, r33_18, r33_19]
      refine ⟨fun e2 => ?_, fun e2 => h29 (fun q => e2 q.2)⟩
      rw [if_pos (show m_wt (I 34) l k from ⟨e1, e2⟩)] at he
      rw [he]
      exact h35 o
  refine go_wp B_M_enter_0_ok ?_; simp only [B_M_enter_0, ↓q_nil, ↓q_iconst, ↓q_bipush, ↓q_sipush, ↓q_ldc, ↓q_lconst, ↓q_ldc2, ↓q_null, ↓q_iload, ↓q_iload_n, ↓q_lload, ↓q_lload_n, ↓q_aload, ↓q_aload_n, ↓q_istore, ↓q_istore_n, ↓q_lstore, ↓q_lstore_n, ↓q_astore, ↓q_astore_n, ↓q_iinc, ↓q_iadd, ↓q_isub, ↓q_imul, ↓q_iand, ↓q_idiv, ↓q_irem, ↓q_ineg, ↓q_ladd, ↓q_lsub, ↓q_lmul, ↓q_land, ↓q_ldiv, ↓q_lrem, ↓q_i2l, ↓q_l2i, ↓q_dup, ↓q_pop, ↓q_dup2, ↓q_dup_x1, ↓q_goto, ↓q_if_eq, ↓q_if_ne, ↓q_if_lt, ↓q_if_ge, ↓q_if_gt, ↓q_if_le, ↓q_icmp_eq, ↓q_icmp_ne, ↓q_icmp_lt, ↓q_icmp_ge, ↓q_icmp_gt, ↓q_icmp_le, ↓q_ifnullN, ↓q_ifnull, ↓q_ifnonnullN, ↓q_ifnonnull, ↓q_table, ↓q_lookup, ↓q_getf, ↓q_putI, ↓q_putJ, ↓q_putR, ↓q_iald, ↓q_sld, ↓q_slen, ↓q_alen, ↓q_iast, ↓q_bald, ↓q_bast, ↓q_aald, ↓q_aast, ↓q_newa, ↓q_newq, ↓q_new, ↓q_objInit, ↓q_max, ↓q_min, ↓q_copy, ↓q_callS0, ↓q_callV0, ↓q_callI0, ↓q_callS1, ↓q_callV1, ↓q_callI1, ↓q_callS2, ↓q_callV2, ↓q_callI2, ↓q_callS3, ↓q_callV3, ↓q_callI3, ↓q_callS4, ↓q_callV4, ↓q_callI4, ↓q_callS5, ↓q_callV5, ↓q_callI5, ↓q_callS6, ↓q_callV6, ↓q_callI6, ↓q_callS7, ↓q_callV7, ↓q_callI7, ↓q_callS8, ↓q_callV8, ↓q_callI8, ↓q_iret, ↓q_lret, ↓q_vret, q_e_i_int, q_e_l_long, q_e_a_ref, q_e_a_null, q_cat_int, q_cat_ref, q_cat_null, q_cat_long, q_na_int, q_lgt_z, q_lgt_s, q_lst0, q_lst1, q_lstS, q_lst20, q_lst21, q_lst2S, q_clr_i, q_clr_r, q_clr_n, q_clr_0, q_clr_l, q_cv_i, q_cv_l, q_cv_r, q_rv_s, q_rv_n, q_toL_s, q_toL_n, true_and, and_true, Nat.reduceAdd, s33, s34, s35, s36, s37, s38, s39, s40, s41, s42, s43, s44, s45, s46, r33_3, r33_4, r33_6, r33_7, r33_8, r33_10, r33_11, r33_12, r33_13, r33_15, r33_16, r33_18, r33_19]
  exact h2 N 0 none (by omega) hww
end
end
section
/-! the reference: mayGo, change -/
abbrev m_bad (c : Nat → Int32) (a : Nat) (l : Int32) (k : Nat) : Prop := (pt c 2 k = 1 ∧ pt c 1 k = l) ∧ ((pt c 3 a < pt c 3 k ∧ rr c k < pt c 3 a) ∨ (¬ pt c 3 a < pt c 3 k ∧ rr c a - pt c 3 k < 200 + 10 * pt c 4 k))
abbrev m_may (I : Nat → Nat → Int32) (N nl nc ns a : Nat) (l own : Int32) : Prop := (0 ≤ l ∧ l ≤ I 33 1 - 1) ∧ ¬ m_gap I N nl nc ns a l < own + 500 ∧ ∀ k, k < N → ¬ m_bad (I 34) a l k
/-- cells[k] grows by d -/
def mci (I : Nat → Nat → Int32) (k : Nat) (d : Int32) : Nat → Nat → Int32 := va_up I 34 (va_up (I 34) k (I 34 k + d))
def m_to (I : Nat → Nat → Int32) (N nl nc ns a : Nat) (l own : Int32) : Int32 := if m_may I N nl nc ns a (l - 1) own then l - 1 else if m_may I N nl nc ns a (l + 1) own then l + 1 else l
def m_chg (I : Nat → Nat → Int32) (N nl nc ns a : Nat) : Nat → Nat → Int32 :=
  let l := pt (I 34) 1 a
  let own := m_gap I N nl nc ns a l
  if (pt (I 34) 2 a = 1 ∧ 30 < I 34 1 - pt (I 34) 7 a) ∧ alw own < pt (I 34) 9 a ∧ ¬ m_to I N nl nc ns a l own = l then
    mci (mp (mp I a 1 (m_to I N nl nc ns a l own)) a 7 (mp I a 1 (m_to I N nl nc ns a l own) 34 1)) 5 1
  else I
theorem bI_ne {p : Prop} [Decidable p] (h : ¬ bI p = 0) : p := Decidable.byContradiction (fun q => h (bI_f q))
theorem bI_eq {p : Prop} [Decidable p] (h : bI p = 0) : ¬ p := fun q => by rw [bI_t q] at h; exact absurd h (by decide)
section
variable {g : GT} {n z : Nat} {S : Nat → Nat × Nat} {I : Nat → Nat → Int32} {J : Nat → Nat → Int64} {R : Nat → Nat → Option Nat}
set_option maxRecDepth 100000 in set_option maxHeartbeats 4000000 in
theorem c_mayGo (hs : ShM S R) {N nl nc ns nn a : Nat} {l own : Int32} (hw : MW I N nl nc ns nn) (ha : a < 60) : Cn g M_M_mayGo 4 0 0 [.ref (gB g + 33), .int (nI a), .int l, .int own] (n, z, S, I, J, R) (Is (some (.int (bI (m_may I N nl nc ns a l own)))) (n, z, S, I, J, R)) := by
  have hs' := hs; obtain ⟨⟨s33, s34, s35, s36, s37, s38, s39, s40, s41, s42, s43, s44, s45, s46⟩, r33_3, r33_4, r33_6, r33_7, r33_8, r33_10, r33_11, r33_12, r33_13, r33_15, r33_16, r33_18, r33_19⟩ := hs'
  obtain ⟨hN, hN60⟩ := hw.1
  refine cn_go (ls := [some (.ref (gB g + 33)), some (.int (nI a)), some (.int l), some (.int own), none, none, none, none]) kc_M_mayGo (by decide) rfl rfl ?_
  generalize hQ : Is (some (Value.int (bI (m_may I N nl nc ns a l own)))) (n, z, S, I, J, R) = Q
  have h28 : ¬ m_may I N nl nc ns a l own → Go (g, M_M_mayGo, 4, n, z, 0, 0, Q) 28 [some (.ref (gB g + 33)), some (.int (nI a)), some (.int l), some (.int own), none, none, none, none] [] (n, z, S, I, J, R) := by
    intro h
    rw [bI_f h] at hQ
    refine go_wp B_M_mayGo_28_ok ?_; simp only [B_M_mayGo_28, ↓q_nil, ↓q_iconst, ↓q_bipush, ↓q_sipush, ↓q_ldc, ↓q_lconst, ↓q_ldc2, ↓q_null, ↓q_iload, ↓q_iload_n, ↓q_lload, ↓q_lload_n, ↓q_aload, ↓q_aload_n, ↓q_istore, ↓q_istore_n, ↓q_lstore, ↓q_lstore_n, ↓q_astore, ↓q_astore_n, ↓q_iinc, ↓q_iadd, ↓q_isub, ↓q_imul, ↓q_iand, ↓q_idiv, ↓q_irem, ↓q_ineg, ↓q_ladd, ↓q_lsub, ↓q_lmul, ↓q_land, ↓q_ldiv, ↓q_lrem, ↓q_i2l, ↓q_l2i, ↓q_dup, ↓q_pop, ↓q_dup2, ↓q_dup_x1, ↓q_goto, ↓q_if_eq, ↓q_if_ne, ↓q_if_lt, ↓q_if_ge, ↓q_if_gt, ↓q_if_le, ↓q_icmp_eq, ↓q_icmp_ne, ↓q_icmp_lt, ↓q_icmp_ge, ↓q_icmp_gt, ↓q_icmp_le, ↓q_ifnullN, ↓q_ifnull, ↓q_ifnonnullN, ↓q_ifnonnull, ↓q_table, ↓q_lookup, ↓q_getf, ↓q_putI, ↓q_putJ, ↓q_putR, ↓q_iald, ↓q_sld, ↓q_slen, ↓q_alen, ↓q_iast, ↓q_bald, ↓q_bast, ↓q_aald, ↓q_aast, ↓q_newa, ↓q_newq, ↓q_new, ↓q_objInit, ↓q_max, ↓q_min, ↓q_copy, ↓q_callS0, ↓q_callV0, ↓q_callI0, ↓q_callS1, ↓q_callV1, ↓q_callI1, ↓q_callS2, ↓q_callV2, ↓q_callI2, ↓q_callS3, ↓q_callV3, ↓q_callI3, ↓q_callS4, ↓q_callV4, ↓q_callI4, ↓q_callS5, ↓q_callV5, ↓q_callI5, ↓q_callS6, ↓q_callV6, ↓q_callI6, ↓q_callS7, ↓q_callV7, ↓q_callI7, ↓q_callS8, ↓q_callV8, ↓q_callI8, ↓q_iret, ↓q_lret, ↓q_vret, q_e_i_int, q_e_l_long, q_e_a_ref, q_e_a_null, q_cat_int, q_cat_ref, q_cat_null, q_cat_long, q_na_int, q_lgt_z, q_lgt_s, q_lst0, q_lst1, q_lstS, q_lst20, q_lst21, q_lst2S, q_clr_i, q_clr_r, q_clr_n, q_clr_0, q_clr_l, q_cv_i, q_cv_l, q_cv_r, q_rv_s, q_rv_n, q_toL_s, q_toL_n, true_and, and_true, Nat.reduceAdd, s33, s34, s35, s36, s37, s38, s39, s40, s41, s42, s43, s44, s45, s46, r33_3, r33_4, r33_6, r33_7, r33_8, r33_10, r33_11, r33_12, r33_13, r33_15, r33_16, r33_18, r33_19, na_b0]
    rw [← hQ]
    exact ⟨rfl, rfl, rfl, rfl⟩
  have h33 : (0 ≤ l ∧ l ≤ I 33 1 - 1) → ¬ m_gap I N nl nc ns a l < own + 500 → ∀ o5 o6 o7 : Option Value, Go (g, M_M_mayGo, 4, n, z, 0, 0, Q) 33 [some (.ref (gB g + 33)), some (.int (nI a)), some (.int l), some (.int own), some (.int (nI 0)), o5, o6, o7] [] (n, z, S, I, J, R) := by
    intro hL hG
    refine go_loop (P := fun k => (∀ j, j < k → ¬ m_bad (I 34) a l j) → ∀ o5 o6 o7 : Option Value, Go (g, M_M_mayGo, 4, n, z, 0, 0, Q) 33 [some (.ref (gB g + 33)), some (.int (nI a)), some (.int l), some (.int own), some (.int (nI k)), o5, o6, o7] [] (n, z, S, I, J, R)) N ?_ ?_ (fun j hj => absurd hj (Nat.not_lt_zero j))
    · intro hall o5 o6 o7
      refine go_wp B_M_mayGo_33_ok ?_; simp only [B_M_mayGo_33, ↓q_nil, ↓q_iconst, ↓q_bipush, ↓q_sipush, ↓q_ldc, ↓q_lconst, ↓q_ldc2, ↓q_null, ↓q_iload, ↓q_iload_n, ↓q_lload, ↓q_lload_n, ↓q_aload, ↓q_aload_n, ↓q_istore, ↓q_istore_n, ↓q_lstore, ↓q_lstore_n, ↓q_astore, ↓q_astore_n, ↓q_iinc, ↓q_iadd, ↓q_isub, ↓q_imul, ↓q_iand, ↓q_idiv, ↓q_irem, ↓q_ineg, ↓q_ladd, ↓q_lsub, ↓q_lmul, ↓q_land, ↓q_ldiv, ↓q_lrem, ↓q_i2l, ↓q_l2i, ↓q_dup, ↓q_pop, ↓q_dup2, ↓q_dup_x1, ↓q_goto, ↓q_if_eq, ↓q_if_ne, ↓q_if_lt, ↓q_if_ge, ↓q_if_gt, ↓q_if_le, ↓q_icmp_eq, ↓q_icmp_ne, ↓q_icmp_lt, ↓q_icmp_ge, ↓q_icmp_gt, ↓q_icmp_le, ↓q_ifnullN, ↓q_ifnull, ↓q_ifnonnullN, ↓q_ifnonnull, ↓q_table, ↓q_lookup, ↓q_getf, ↓q_putI, ↓q_putJ, ↓q_putR, ↓q_iald, ↓q_sld, ↓q_slen, ↓q_alen, ↓q_iast, ↓q_bald, ↓q_bast, ↓q_aald, ↓q_aast, ↓q_newa, ↓q_newq, ↓q_new, ↓q_objInit, ↓q_max, ↓q_min, ↓q_copy, ↓q_callS0, ↓q_callV0, ↓q_callI0, ↓q_callS1, ↓q_callV1, ↓q_callI1, ↓q_callS2, ↓q_callV2, ↓q_callI2, ↓q_callS3, ↓q_callV3, ↓q_callI3, ↓q_callS4, ↓q_callV4, ↓q_callI4, ↓q_callS5, ↓q_callV5, ↓q_callI5, ↓q_callS6, ↓q_callV6, ↓q_callI6, ↓q_callS7, ↓q_callV7, ↓q_callI7, ↓q_callS8, ↓q_callV8, ↓q_callI8, ↓q_iret, ↓q_lret, ↓q_vret, q_e_i_int, q_e_l_long, q_e_a_ref, q_e_a_null, q_cat_int, q_cat_ref, q_cat_null, q_cat_long, q_na_int, q_lgt_z, q_lgt_s, q_lst0, q_lst1, q_lstS, q_lst20, q_lst21, q_lst2S, q_clr_i, q_clr_r, q_clr_n, q_clr_0, q_clr_l, q_cv_i, q_cv_l, q_cv_r, q_rv_s, q_rv_n, q_toL_s, q_toL_n, true_and, and_true, Nat.reduceAdd, s33, s34, s35, s36, s37, s38, s39, s40, s41, s42, s43, s44, s45, s46, r33_3, r33_4, r33_6, r33_7, r33_8, r33_10, r33_11, r33_12, r33_13, r33_15, r33_16, r33_18, r33_19]
      refine call_ro (c_cars hs) (by decide) rfl (Nat.le_refl _) (Nat.le_refl _) ?_
      simp only [↓q_nil, ↓q_iconst, ↓q_bipush, ↓q_sipush, ↓q_ldc, ↓q_lconst, ↓q_ldc2, ↓q_null, ↓q_iload, ↓q_iload_n, ↓q_lload, ↓q_lload_n, ↓q_aload, ↓q_aload_n, ↓q_istore, ↓q_istore_n, ↓q_lstore, ↓q_lstore_n, ↓q_astore, ↓q_astore_n, ↓q_iinc, ↓q_iadd, ↓q_isub, ↓q_imul, ↓q_iand, ↓q_idiv, ↓q_irem, ↓q_ineg, ↓q_ladd, ↓q_lsub, ↓q_lmul, ↓q_land, ↓q_ldiv, ↓q_lrem, ↓q_i2l, ↓q_l2i, ↓q_dup, ↓q_pop, ↓q_dup2, ↓q_dup_x1, ↓q_goto, ↓q_if_eq, ↓q_if_ne, ↓q_if_lt, ↓q_if_ge, ↓q_if_gt, ↓q_if_le, ↓q_icmp_eq, ↓q_icmp_ne, ↓q_icmp_lt, ↓q_icmp_ge, ↓q_icmp_gt, ↓q_icmp_le, ↓q_ifnullN, ↓q_ifnull, ↓q_ifnonnullN, ↓q_ifnonnull, ↓q_table, ↓q_lookup, ↓q_getf, ↓q_putI, ↓q_putJ, ↓q_putR, ↓q_iald, ↓q_sld, ↓q_slen, ↓q_alen, ↓q_iast, ↓q_bald, ↓q_bast, ↓q_aald, ↓q_aast, ↓q_newa, ↓q_newq, ↓q_new, ↓q_objInit, ↓q_max, ↓q_min, ↓q_copy, ↓q_callS0, ↓q_callV0, ↓q_callI0, ↓q_callS1, ↓q_callV1, ↓q_callI1, ↓q_callS2, ↓q_callV2, ↓q_callI2, ↓q_callS3, ↓q_callV3, ↓q_callI3, ↓q_callS4, ↓q_callV4, ↓q_callI4, ↓q_callS5, ↓q_callV5, ↓q_callI5, ↓q_callS6, ↓q_callV6, ↓q_callI6, ↓q_callS7, ↓q_callV7, ↓q_callI7, ↓q_callS8, ↓q_callV8, ↓q_callI8, ↓q_iret, ↓q_lret, ↓q_vret, q_e_i_int, q_e_l_long, q_e_a_ref, q_e_a_null, q_cat_int, q_cat_ref, q_cat_null, q_cat_long, q_na_int, q_lgt_z, q_lgt_s, q_lst0, q_lst1, q_lstS, q_lst20, q_lst21, q_lst2S, q_clr_i, q_clr_r, q_clr_n, q_clr_0, q_clr_l, q_cv_i, q_cv_l, q_cv_r, q_rv_s, q_rv_n, q_toL_s, q_toL_n, true_and, and_true, Nat.reduceAdd, s33, s34, s35, s36, s37, s38, s39, s40, s41, s42, s43, s44, s45, s46, r33_3, r33_4, r33_6, r33_7, r33_8, r33_10, r33_11, r33_12, r33_13, r33_15, r33_16, r33_18, r33_19, hN]
      refine ⟨fun h => absurd h (nI_nlt (Nat.le_refl _) (by omega)), fun _ => ?_⟩
      rw [bI_t (show m_may I N nl nc ns a l own from ⟨hL, hG, hall⟩)] at hQ
      refine go_wp B_M_mayGo_162_ok ?_; simp only [B_M_mayGo_162, ↓q_nil, ↓q_iconst, ↓q_bipush, ↓q_sipush, ↓q_ldc, ↓q_lconst, ↓q_ldc2, ↓q_null, ↓q_iload, ↓q_iload_n, ↓q_lload, ↓q_lload_n, ↓q_aload, ↓q_aload_n, ↓q_istore, ↓q_istore_n, ↓q_lstore, ↓q_lstore_n, ↓q_astore, ↓q_astore_n, ↓q_iinc, ↓q_iadd, ↓q_isub, ↓q_imul, ↓q_iand, ↓q_idiv, ↓q_irem, ↓q_ineg, ↓q_ladd, ↓q_lsub, ↓q_lmul, ↓q_land, ↓q_ldiv, ↓q_lrem, ↓q_i2l, ↓q_l2i, ↓q_dup, ↓q_pop, ↓q_dup2, ↓q_dup_x1, ↓q_goto, ↓q_if_eq, ↓q_if_ne, ↓q_if_lt, ↓q_if_ge, ↓q_if_gt, ↓q_if_le, ↓q_icmp_eq, ↓q_icmp_ne, ↓q_icmp_lt, ↓q_icmp_ge, ↓q_icmp_gt, ↓q_icmp_le, ↓q_ifnullN, ↓q_ifnull, ↓q_ifnonnullN, ↓q_ifnonnull, ↓q_table, ↓q_lookup, ↓q_getf, ↓q_putI, ↓q_putJ, ↓q_putR, ↓q_iald, ↓q_sld, ↓q_slen, ↓q_alen, ↓q_iast, ↓q_bald, ↓q_bast, ↓q_aald, ↓q_aast, ↓q_newa, ↓q_newq, ↓q_new, ↓q_objInit, ↓q_max, ↓q_min, ↓q_copy, ↓q_callS0, ↓q_callV0, ↓q_callI0, ↓q_callS1, ↓q_callV1, ↓q_callI1, ↓q_callS2, ↓q_callV2, ↓q_callI2, ↓q_callS3, ↓q_callV3, ↓q_callI3, ↓q_callS4, ↓q_callV4, ↓q_callI4, ↓q_callS5, ↓q_callV5, ↓q_callI5, ↓q_callS6, ↓q_callV6, ↓q_callI6, ↓q_callS7, ↓q_callV7, ↓q_callI7, ↓q_callS8, ↓q_callV8, ↓q_callI8, ↓q_iret, ↓q_lret, ↓q_vret, q_e_i_int, q_e_l_long, q_e_a_ref, q_e_a_null, q_cat_int, q_cat_ref, q_cat_null, q_cat_long, q_na_int, q_lgt_z, q_lgt_s, q_lst0, q_lst1, q_lstS, q_lst20, q_lst21, q_lst2S, q_clr_i, q_clr_r, q_clr_n, q_clr_0, q_clr_l, q_cv_i, q_cv_l, q_cv_r, q_rv_s, q_rv_n, q_toL_s, q_toL_n, true_and, and_true, Nat.reduceAdd, s33, s34, s35, s36, s37, s38, s39, s40, s41, s42, s43, s44, s45, s46, r33_3, r33_4, r33_6, r33_7, r33_8, r33_10, r33_11, r33_12, r33_13, r33_15, r33_16, r33_18, r33_19, na_b1]
      rw [← hQ]
      exact ⟨rfl, rfl, rfl, rfl⟩
    · intro k hk ih hall o5 o6 o7
      have hk60 : k < 60 := by omega
      have hok : ¬ m_bad (I 34) a l k → ∀ o5 o6 o7 : Option Value, Go (g, M_M_mayGo, 4, n, z, 0, 0, Q) 156 [some (.ref (gB g + 33)), some (.int (nI a)), some (.int l), some (.int own), some (.int (nI k)), o5, o6, o7] [] (n, z, S, I, J, R) := by
        intro hb o5 o6 o7
        refine go_wp B_M_mayGo_156_ok ?_; simp only [B_M_mayGo_156, ↓q_nil, ↓q_iconst, ↓q_bipush, ↓q_sipush, ↓q_ldc, ↓q_lconst, ↓q_ldc2, ↓q_null, ↓q_iload, ↓q_iload_n, ↓q_lload, ↓q_lload_n, ↓q_aload, ↓q_aload_n, ↓q_istore, ↓q_istore_n, ↓q_lstore, ↓q_lstore_n, ↓q_astore, ↓q_astore_n, ↓q_iinc, ↓q_iadd, ↓q_isub, ↓q_imul, ↓q_iand, ↓q_idiv, ↓q_irem, ↓q_ineg, ↓q_ladd, ↓q_lsub, ↓q_lmul, ↓q_land, ↓q_ldiv, ↓q_lrem, ↓q_i2l, ↓q_l2i, ↓q_dup, ↓q_pop, ↓q_dup2, ↓q_dup_x1, ↓q_goto, ↓q_if_eq, ↓q_if_ne, ↓q_if_lt, ↓q_if_ge, ↓q_if_gt, ↓q_if_le, ↓q_icmp_eq, ↓q_icmp_ne, ↓q_icmp_lt, ↓q_icmp_ge, ↓q_icmp_gt, ↓q_icmp_le, ↓q_ifnullN, ↓q_ifnull, ↓q_ifnonnullN, ↓q_ifnonnull, ↓q_table, ↓q_lookup, ↓q_getf, ↓q_putI, ↓q_putJ, ↓q_putR, ↓q_iald, ↓q_sld, ↓q_slen, ↓q_alen, ↓q_iast, ↓q_bald, ↓q_bast, ↓q_aald, ↓q_aast, ↓q_newa, ↓q_newq, ↓q_new, ↓q_objInit, ↓q_max, ↓q_min, ↓q_copy, ↓q_callS0, ↓q_callV0, ↓q_callI0, ↓q_callS1, ↓q_callV1, ↓q_callI1, ↓q_callS2, ↓q_callV2, ↓q_callI2, ↓q_callS3, ↓q_callV3, ↓q_callI3, ↓q_callS4, ↓q_callV4, ↓q_callI4, ↓q_callS5, ↓q_callV5, ↓q_callI5, ↓q_callS6, ↓q_callV6, ↓q_callI6, ↓q_callS7, ↓q_callV7, ↓q_callI7, ↓q_callS8, ↓q_callV8, ↓q_callI8, ↓q_iret, ↓q_lret, ↓q_vret, q_e_i_int, q_e_l_long, q_e_a_ref, q_e_a_null, q_cat_int, q_cat_ref, q_cat_null, q_cat_long, q_na_int, q_lgt_z, q_lgt_s, q_lst0, q_lst1, q_lstS, q_lst20, q_lst21, q_lst2S, q_clr_i, q_clr_r, q_clr_n, q_clr_0, q_clr_l, q_cv_i, q_cv_l, q_cv_r, q_rv_s, q_rv_n, q_toL_s, q_toL_n, true_and, and_true, Nat.reduceAdd, s33, s34, s35, s36, s37, s38, s39, s40, s41, s42, s43, s44, s45, s46, r33_3, r33_4, r33_6, r33_7, r33_8, r33_10, r33_11, r33_12, r33_13, r33_15, r33_16, r33_18, r33_19, nI_inc]
        refine ih (fun j hj => ?_) o5 o6 o7
        by_cases hjk : j = k
        · rw [hjk]; exact hb
        · exact hall j (by omega)
      have hbad : m_bad (I 34) a l k → ∀ o5 o6 o7 : Option Value, Go (g, M_M_mayGo, 4, n, z, 0, 0, Q) 154 [some (.ref (gB g + 33)), some (.int (nI a)), some (.int l), some (.int own), some (.int (nI k)), o5, o6, o7] [] (n, z, S, I, J, R) := by
        intro hb o5 o6 o7
        rw [bI_f (show ¬ m_may I N nl nc ns a l own from fun q => q.2.2 k hk hb)] at hQ
        refine go_wp B_M_mayGo_154_ok ?_; simp only [B_M_mayGo_154, ↓q_nil, ↓q_iconst, ↓q_bipush, ↓q_sipush, ↓q_ldc, ↓q_lconst, ↓q_ldc2, ↓q_null, ↓q_iload, ↓q_iload_n, ↓q_lload, ↓q_lload_n, ↓q_aload, ↓q_aload_n, ↓q_istore, ↓q_istore_n, ↓q_lstore, ↓q_lstore_n, ↓q_astore, ↓q_astore_n, ↓q_iinc, ↓q_iadd, ↓q_isub, ↓q_imul, ↓q_iand, ↓q_idiv, ↓q_irem, ↓q_ineg, ↓q_ladd, ↓q_lsub, ↓q_lmul, ↓q_land, ↓q_ldiv, ↓q_lrem, ↓q_i2l, ↓q_l2i, ↓q_dup, ↓q_pop, ↓q_dup2, ↓q_dup_x1, ↓q_goto, ↓q_if_eq, ↓q_if_ne, ↓q_if_lt, ↓q_if_ge, ↓q_if_gt, ↓q_if_le, ↓q_icmp_eq, ↓q_icmp_ne, ↓q_icmp_lt, ↓q_icmp_ge, ↓q_icmp_gt, ↓q_icmp_le, ↓q_ifnullN, ↓q_ifnull, ↓q_ifnonnullN, ↓q_ifnonnull, ↓q_table, ↓q_lookup, ↓q_getf, ↓q_putI, ↓q_putJ, ↓q_putR, ↓q_iald, ↓q_sld, ↓q_slen, ↓q_alen, ↓q_iast, ↓q_bald, ↓q_bast, ↓q_aald, ↓q_aast, ↓q_newa, ↓q_newq, ↓q_new, ↓q_objInit, ↓q_max, ↓q_min, ↓q_copy, ↓q_callS0, ↓q_callV0, ↓q_callI0, ↓q_callS1, ↓q_callV1, ↓q_callI1, ↓q_callS2, ↓q_callV2, ↓q_callI2, ↓q_callS3, ↓q_callV3, ↓q_callI3, ↓q_callS4, ↓q_callV4, ↓q_callI4, ↓q_callS5, ↓q_callV5, ↓q_callI5, ↓q_callS6, ↓q_callV6, ↓q_callI6, ↓q_callS7, ↓q_callV7, ↓q_callI7, ↓q_callS8, ↓q_callV8, ↓q_callI8, ↓q_iret, ↓q_lret, ↓q_vret, q_e_i_int, q_e_l_long, q_e_a_ref, q_e_a_null, q_cat_int, q_cat_ref, q_cat_null, q_cat_long, q_na_int, q_lgt_z, q_lgt_s, q_lst0, q_lst1, q_lstS, q_lst20, q_lst21, q_lst2S, q_clr_i, q_clr_r, q_clr_n, q_clr_0, q_clr_l, q_cv_i, q_cv_l, q_cv_r, q_rv_s, q_rv_n, q_toL_s, q_toL_n, true_and, and_true, Nat.reduceAdd, s33, s34, s35, s36, s37, s38, s39, s40, s41, s42, s43, s44, s45, s46, r33_3, r33_4, r33_6, r33_7, r33_8, r33_10, r33_11, r33_12, r33_13, r33_15, r33_16, r33_18, r33_19, na_b0]
        rw [← hQ]
        exact ⟨rfl, rfl, rfl, rfl⟩
      refine go_wp B_M_mayGo_33_ok ?_; simp only [B_M_mayGo_33, ↓q_nil, ↓q_iconst, ↓q_bipush, ↓q_sipush, ↓q_ldc, ↓q_lconst, ↓q_ldc2, ↓q_null, ↓q_iload, ↓q_iload_n, ↓q_lload, ↓q_lload_n, ↓q_aload, ↓q_aload_n, ↓q_istore, ↓q_istore_n, ↓q_lstore, ↓q_lstore_n, ↓q_astore, ↓q_astore_n, ↓q_iinc, ↓q_iadd, ↓q_isub, ↓q_imul, ↓q_iand, ↓q_idiv, ↓q_irem, ↓q_ineg, ↓q_ladd, ↓q_lsub, ↓q_lmul, ↓q_land, ↓q_ldiv, ↓q_lrem, ↓q_i2l, ↓q_l2i, ↓q_dup, ↓q_pop, ↓q_dup2, ↓q_dup_x1, ↓q_goto, ↓q_if_eq, ↓q_if_ne, ↓q_if_lt, ↓q_if_ge, ↓q_if_gt, ↓q_if_le, ↓q_icmp_eq, ↓q_icmp_ne, ↓q_icmp_lt, ↓q_icmp_ge, ↓q_icmp_gt, ↓q_icmp_le, ↓q_ifnullN, ↓q_ifnull, ↓q_ifnonnullN, ↓q_ifnonnull, ↓q_table, ↓q_lookup, ↓q_getf, ↓q_putI, ↓q_putJ, ↓q_putR, ↓q_iald, ↓q_sld, ↓q_slen, ↓q_alen, ↓q_iast, ↓q_bald, ↓q_bast, ↓q_aald, ↓q_aast, ↓q_newa, ↓q_newq, ↓q_new, ↓q_objInit, ↓q_max, ↓q_min, ↓q_copy, ↓q_callS0, ↓q_callV0, ↓q_callI0, ↓q_callS1, ↓q_callV1, ↓q_callI1, ↓q_callS2, ↓q_callV2, ↓q_callI2, ↓q_callS3, ↓q_callV3, ↓q_callI3, ↓q_callS4, ↓q_callV4, ↓q_callI4, ↓q_callS5, ↓q_callV5, ↓q_callI5, ↓q_callS6, ↓q_callV6, ↓q_callI6, ↓q_callS7, ↓q_callV7, ↓q_callI7, ↓q_callS8, ↓q_callV8, ↓q_callI8, ↓q_iret, ↓q_lret, ↓q_vret, q_e_i_int, q_e_l_long, q_e_a_ref, q_e_a_null, q_cat_int, q_cat_ref, q_cat_null, q_cat_long, q_na_int, q_lgt_z, q_lgt_s, q_lst0, q_lst1, q_lstS, q_lst20, q_lst21, q_lst2S, q_clr_i, q_clr_r, q_clr_n, q_clr_0, q_clr_l, q_cv_i, q_cv_l, q_cv_r, q_rv_s, q_rv_n, q_toL_s, q_toL_n, true_and, and_true, Nat.reduceAdd, s33, s34, s35, s36, s37, s38, s39, s40, s41, s42, s43, s44, s45, s46, r33_3, r33_4, r33_6, r33_7, r33_8, r33_10, r33_11, r33_12, r33_13, r33_15, r33_16, r33_18, r33_19]
      refine call_ro (c_cars hs) (by decide) rfl (Nat.le_refl _) (Nat.le_refl _) ?_
      simp only [↓q_nil, ↓q_iconst, ↓q_bipush, ↓q_sipush, ↓q_ldc, ↓q_lconst, ↓q_ldc2, ↓q_null, ↓q_iload, ↓q_iload_n, ↓q_lload, ↓q_lload_n, ↓q_aload, ↓q_aload_n, ↓q_istore, ↓q_istore_n, ↓q_lstore, ↓q_lstore_n, ↓q_astore, ↓q_astore_n, ↓q_iinc, ↓q_iadd, ↓q_isub, ↓q_imul, ↓q_iand, ↓q_idiv, ↓q_irem, ↓q_ineg, ↓q_ladd, ↓q_lsub, ↓q_lmul, ↓q_land, ↓q_ldiv, ↓q_lrem, ↓q_i2l, ↓q_l2i, ↓q_dup, ↓q_pop, ↓q_dup2, ↓q_dup_x1, ↓q_goto, ↓q_if_eq, ↓q_if_ne, ↓q_if_lt, ↓q_if_ge, ↓q_if_gt, ↓q_if_le, ↓q_icmp_eq, ↓q_icmp_ne, ↓q_icmp_lt, ↓q_icmp_ge, ↓q_icmp_gt, ↓q_icmp_le, ↓q_ifnullN, ↓q_ifnull, ↓q_ifnonnullN, ↓q_ifnonnull, ↓q_table, ↓q_lookup, ↓q_getf, ↓q_putI, ↓q_putJ, ↓q_putR, ↓q_iald, ↓q_sld, ↓q_slen, ↓q_alen, ↓q_iast, ↓q_bald, ↓q_bast, ↓q_aald, ↓q_aast, ↓q_newa, ↓q_newq, ↓q_new, ↓q_objInit, ↓q_max, ↓q_min, ↓q_copy, ↓q_callS0, ↓q_callV0, ↓q_callI0, ↓q_callS1, ↓q_callV1, ↓q_callI1, ↓q_callS2, ↓q_callV2, ↓q_callI2, ↓q_callS3, ↓q_callV3, ↓q_callI3, ↓q_callS4, ↓q_callV4, ↓q_callI4, ↓q_callS5, ↓q_callV5, ↓q_callI5, ↓q_callS6, ↓q_callV6, ↓q_callI6, ↓q_callS7, ↓q_callV7, ↓q_callI7, ↓q_callS8, ↓q_callV8, ↓q_callI8, ↓q_iret, ↓q_lret, ↓q_vret, q_e_i_int, q_e_l_long, q_e_a_ref, q_e_a_null, q_cat_int, q_cat_ref, q_cat_null, q_cat_long, q_na_int, q_lgt_z, q_lgt_s, q_lst0, q_lst1, q_lstS, q_lst20, q_lst21, q_lst2S, q_clr_i, q_clr_r, q_clr_n, q_clr_0, q_clr_l, q_cv_i, q_cv_l, q_cv_r, q_rv_s, q_rv_n, q_toL_s, q_toL_n, true_and, and_true, Nat.reduceAdd, s33, s34, s35, s36, s37, s38, s39, s40, s41, s42, s43, s44, s45, s46, r33_3, r33_4, r33_6, r33_7, r33_8, r33_10, r33_11, r33_12, r33_13, r33_15, r33_16, r33_18, r33_19, hN]
      refine ⟨fun _ => ?_, fun h => absurd (nI_lt hk (by omega)) h⟩
      refine call_ro (c_isOn hs hk60) (by decide) rfl (Nat.le_refl _) (Nat.le_refl _) ?_
      simp only [↓q_nil, ↓q_iconst, ↓q_bipush, ↓q_sipush, ↓q_ldc, ↓q_lconst, ↓q_ldc2, ↓q_null, ↓q_iload, ↓q_iload_n, ↓q_lload, ↓q_lload_n, ↓q_aload, ↓q_aload_n, ↓q_istore, ↓q_istore_n, ↓q_lstore, ↓q_lstore_n, ↓q_astore, ↓q_astore_n, ↓q_iinc, ↓q_iadd, ↓q_isub, ↓q_imul, ↓q_iand, ↓q_idiv, ↓q_irem, ↓q_ineg, ↓q_ladd, ↓q_lsub, ↓q_lmul, ↓q_land, ↓q_ldiv, ↓q_lrem, ↓q_i2l, ↓q_l2i, ↓q_dup, ↓q_pop, ↓q_dup2, ↓q_dup_x1, ↓q_goto, ↓q_if_eq, ↓q_if_ne, ↓q_if_lt, ↓q_if_ge, ↓q_if_gt, ↓q_if_le, ↓q_icmp_eq, ↓q_icmp_ne, ↓q_icmp_lt, ↓q_icmp_ge, ↓q_icmp_gt, ↓q_icmp_le, ↓q_ifnullN, ↓q_ifnull, ↓q_ifnonnullN, ↓q_ifnonnull, ↓q_table, ↓q_lookup, ↓q_getf, ↓q_putI, ↓q_putJ, ↓q_putR, ↓q_iald, ↓q_sld, ↓q_slen, ↓q_alen, ↓q_iast, ↓q_bald, ↓q_bast, ↓q_aald, ↓q_aast, ↓q_newa, ↓q_newq, ↓q_new, ↓q_objInit, ↓q_max, ↓q_min, ↓q_copy, ↓q_callS0, ↓q_callV0, ↓q_callI0, ↓q_callS1, ↓q_callV1, ↓q_callI1, ↓q_callS2, ↓q_callV2, ↓q_callI2, ↓q_callS3, ↓q_callV3, ↓q_callI3, ↓q_callS4, ↓q_callV4, ↓q_callI4, ↓q_callS5, ↓q_callV5, ↓q_callI5, ↓q_callS6, ↓q_callV6, ↓q_callI6, ↓q_callS7, ↓q_callV7, ↓q_callI7, ↓q_callS8, ↓q_callV8, ↓q_callI8, ↓q_iret, ↓q_lret, ↓q_vret, q_e_i_int, q_e_l_long, q_e_a_ref, q_e_a_null, q_cat_int, q_cat_ref, q_cat_null, q_cat_long, q_na_int, q_lgt_z, q_lgt_s, q_lst0, q_lst1, q_lstS, q_lst20, q_lst21, q_lst2S, q_clr_i, q_clr_r, q_clr_n, q_clr_0, q_clr_l, q_cv_i, q_cv_l, q_cv_r, q_rv_s, q_rv_n, q_toL_s, q_toL_n, true_and, and_true, Nat.reduceAdd, s33, s34, s35, s36, s37, s38, s39, s40, s41, s42, s43, s44, s45, s46, r33_3, r33_4, r33_6, r33_7, r33_8, r33_10, r33_11, r33_12, r33_13, r33_15, r33_16, r33_18, r33_19]
      refine ⟨fun e => hok (fun q => bI_eq e q.1) _ _ _, fun e => ?_⟩
      have hon := bI_ne e
      refine call_ro (c_of hs (p := 3) hk60 (by decide)) (by decide) rfl (Nat.le_refl _) (Nat.le_refl _) ?_
      simp only [↓q_nil, ↓q_iconst, ↓q_bipush, ↓q_sipush, ↓q_ldc, ↓q_lconst, ↓q_ldc2, ↓q_null, ↓q_iload, ↓q_iload_n, ↓q_lload, ↓q_lload_n, ↓q_aload, ↓q_aload_n, ↓q_istore, ↓q_istore_n, ↓q_lstore, ↓q_lstore_n, ↓q_astore, ↓q_astore_n, ↓q_iinc, ↓q_iadd, ↓q_isub, ↓q_imul, ↓q_iand, ↓q_idiv, ↓q_irem, ↓q_ineg, ↓q_ladd, ↓q_lsub, ↓q_lmul, ↓q_land, ↓q_ldiv, ↓q_lrem, ↓q_i2l, ↓q_l2i, ↓q_dup, ↓q_pop, ↓q_dup2, ↓q_dup_x1, ↓q_goto, ↓q_if_eq, ↓q_if_ne, ↓q_if_lt, ↓q_if_ge, ↓q_if_gt, ↓q_if_le, ↓q_icmp_eq, ↓q_icmp_ne, ↓q_icmp_lt, ↓q_icmp_ge, ↓q_icmp_gt, ↓q_icmp_le, ↓q_ifnullN, ↓q_ifnull, ↓q_ifnonnullN, ↓q_ifnonnull, ↓q_table, ↓q_lookup, ↓q_getf, ↓q_putI, ↓q_putJ, ↓q_putR, ↓q_iald, ↓q_sld, ↓q_slen, ↓q_alen, ↓q_iast, ↓q_bald, ↓q_bast, ↓q_aald, ↓q_aast, ↓q_newa, ↓q_newq, ↓q_new, ↓q_objInit, ↓q_max, ↓q_min, ↓q_copy, ↓q_callS0, ↓q_callV0, ↓q_callI0, ↓q_callS1, ↓q_callV1, ↓q_callI1, ↓q_callS2, ↓q_callV2, ↓q_callI2, ↓q_callS3, ↓q_callV3, ↓q_callI3, ↓q_callS4, ↓q_callV4, ↓q_callI4, ↓q_callS5, ↓q_callV5, ↓q_callI5, ↓q_callS6, ↓q_callV6, ↓q_callI6, ↓q_callS7, ↓q_callV7, ↓q_callI7, ↓q_callS8, ↓q_callV8, ↓q_callI8, ↓q_iret, ↓q_lret, ↓q_vret, q_e_i_int, q_e_l_long, q_e_a_ref, q_e_a_null, q_cat_int, q_cat_ref, q_cat_null, q_cat_long, q_na_int, q_lgt_z, q_lgt_s, q_lst0, q_lst1, q_lstS, q_lst20, q_lst21, q_lst2S, q_clr_i, q_clr_r, q_clr_n, q_clr_0, q_clr_l, q_cv_i, q_cv_l, q_cv_r, q_rv_s, q_rv_n, q_toL_s, q_toL_n, true_and, and_true, Nat.reduceAdd, s33, s34, s35, s36, s37, s38, s39, s40, s41, s42, s43, s44, s45, s46, r33_3, r33_4, r33_6, r33_7, r33_8, r33_10, r33_11, r33_12, r33_13, r33_15, r33_16, r33_18, r33_19]
      refine call_ro (c_of hs (p := 3) ha (by decide)) (by decide) rfl (Nat.le_refl _) (Nat.le_refl _) ?_
      simp only [↓q_nil, ↓q_iconst, ↓q_bipush, ↓q_sipush, ↓q_ldc, ↓q_lconst, ↓q_ldc2, ↓q_null, ↓q_iload, ↓q_iload_n, ↓q_lload, ↓q_lload_n, ↓q_aload, ↓q_aload_n, ↓q_istore, ↓q_istore_n, ↓q_lstore, ↓q_lstore_n, ↓q_astore, ↓q_astore_n, ↓q_iinc, ↓q_iadd, ↓q_isub, ↓q_imul, ↓q_iand, ↓q_idiv, ↓q_irem, ↓q_ineg, ↓q_ladd, ↓q_lsub, ↓q_lmul, ↓q_land, ↓q_ldiv, ↓q_lrem, ↓q_i2l, ↓q_l2i, ↓q_dup, ↓q_pop, ↓q_dup2, ↓q_dup_x1, ↓q_goto, ↓q_if_eq, ↓q_if_ne, ↓q_if_lt, ↓q_if_ge, ↓q_if_gt, ↓q_if_le, ↓q_icmp_eq, ↓q_icmp_ne, ↓q_icmp_lt, ↓q_icmp_ge, ↓q_icmp_gt, ↓q_icmp_le, ↓q_ifnullN, ↓q_ifnull, ↓q_ifnonnullN, ↓q_ifnonnull, ↓q_table, ↓q_lookup, ↓q_getf, ↓q_putI, ↓q_putJ, ↓q_putR, ↓q_iald, ↓q_sld, ↓q_slen, ↓q_alen, ↓q_iast, ↓q_bald, ↓q_bast, ↓q_aald, ↓q_aast, ↓q_newa, ↓q_newq, ↓q_new, ↓q_objInit, ↓q_max, ↓q_min, ↓q_copy, ↓q_callS0, ↓q_callV0, ↓q_callI0, ↓q_callS1, ↓q_callV1, ↓q_callI1, ↓q_callS2, ↓q_callV2, ↓q_callI2, ↓q_callS3, ↓q_callV3, ↓q_callI3, ↓q_callS4, ↓q_callV4, ↓q_callI4, ↓q_callS5, ↓q_callV5, ↓q_callI5, ↓q_callS6, ↓q_callV6, ↓q_callI6, ↓q_callS7, ↓q_callV7, ↓q_callI7, ↓q_callS8, ↓q_callV8, ↓q_callI8, ↓q_iret, ↓q_lret, ↓q_vret, q_e_i_int, q_e_l_long, q_e_a_ref, q_e_a_null, q_cat_int, q_cat_ref, q_cat_null, q_cat_long, q_na_int, q_lgt_z, q_lgt_s, q_lst0, q_lst1, q_lstS, q_lst20, q_lst21, q_lst2S, q_clr_i, q_clr_r, q_clr_n, q_clr_0, q_clr_l, q_cv_i, q_cv_l, q_cv_r, q_rv_s, q_rv_n, q_toL_s, q_toL_n, true_and, and_true, Nat.reduceAdd, s33, s34, s35, s36, s37, s38, s39, s40, s41, s42, s43, s44, s45, s46, r33_3, r33_4, r33_6, r33_7, r33_8, r33_10, r33_11, r33_12, r33_13, r33_15, r33_16, r33_18, r33_19]
      refine ⟨fun hA => ?_, fun hA => ?_⟩
      · have h100 : ∀ b : Int32, (¬ b = 0 → m_bad (I 34) a l k) → (b = 0 → ¬ m_bad (I 34) a l k) → Go (g, M_M_mayGo, 4, n, z, 0, 0, Q) 100 [some (.ref (gB g + 33)), some (.int (nI a)), some (.int l), some (.int own), some (.int (nI k)), some (.int 1), o6, o7] [.int b] (n, z, S, I, J, R) := by
          intro b hb1 hb0
          refine go_wp B_M_mayGo_100_ok ?_; simp only [B_M_mayGo_100, ↓q_nil, ↓q_iconst, ↓q_bipush, ↓q_sipush, ↓q_ldc, ↓q_lconst, ↓q_ldc2, ↓q_null, ↓q_iload, ↓q_iload_n, ↓q_lload, ↓q_lload_n, ↓q_aload, ↓q_aload_n, ↓q_istore, ↓q_istore_n, ↓q_lstore, ↓q_lstore_n, ↓q_astore, ↓q_astore_n, ↓q_iinc, ↓q_iadd, ↓q_isub, ↓q_imul, ↓q_iand, ↓q_idiv, ↓q_irem, ↓q_ineg, ↓q_ladd, ↓q_lsub, ↓q_lmul, ↓q_land, ↓q_ldiv, ↓q_lrem, ↓q_i2l, ↓q_l2i, ↓q_dup, ↓q_pop, ↓q_dup2, ↓q_dup_x1, ↓q_goto, ↓q_if_eq, ↓q_if_ne, ↓q_if_lt, ↓q_if_ge, ↓q_if_gt, ↓q_if_le, ↓q_icmp_eq, ↓q_icmp_ne, ↓q_icmp_lt, ↓q_icmp_ge, ↓q_icmp_gt, ↓q_icmp_le, ↓q_ifnullN, ↓q_ifnull, ↓q_ifnonnullN, ↓q_ifnonnull, ↓q_table, ↓q_lookup, ↓q_getf, ↓q_putI, ↓q_putJ, ↓q_putR, ↓q_iald, ↓q_sld, ↓q_slen, ↓q_alen, ↓q_iast, ↓q_bald, ↓q_bast, ↓q_aald, ↓q_aast, ↓q_newa, ↓q_newq, ↓q_new, ↓q_objInit, ↓q_max, ↓q_min, ↓q_copy, ↓q_callS0, ↓q_callV0, ↓q_callI0, ↓q_callS1, ↓q_callV1, ↓q_callI1, ↓q_callS2, ↓q_callV2, ↓q_callI2, ↓q_callS3, ↓q_callV3, ↓q_callI3, ↓q_callS4, ↓q_callV4, ↓q_callI4, ↓q_callS5, ↓q_callV5, ↓q_callI5, ↓q_callS6, ↓q_callV6, ↓q_callI6, ↓q_callS7, ↓q_callV7, ↓q_callI7, ↓q_callS8, ↓q_callV8, ↓q_callI8, ↓q_iret, ↓q_lret, ↓q_vret, q_e_i_int, q_e_l_long, q_e_a_ref, q_e_a_null, q_cat_int, q_cat_ref, q_cat_null, q_cat_long, q_na_int, q_lgt_z, q_lgt_s, q_lst0, q_lst1, q_lstS, q_lst20, q_lst21, q_lst2S, q_clr_i, q_clr_r, q_clr_n, q_clr_0, q_clr_l, q_cv_i, q_cv_l, q_cv_r, q_rv_s, q_rv_n, q_toL_s, q_toL_n, true_and, and_true, Nat.reduceAdd, s33, s34, s35, s36, s37, s38, s39, s40, s41, s42, s43, s44, s45, s46, r33_3, r33_4, r33_6, r33_7, r33_8, r33_10, r33_11, r33_12, r33_13, r33_15, r33_16, r33_18, r33_19]
          refine ⟨fun h => absurd h (by decide), fun _ => ?_⟩
          refine go_wp B_M_mayGo_141_ok ?_; simp only [B_M_mayGo_141, ↓q_nil, ↓q_iconst, ↓q_bipush, ↓q_sipush, ↓q_ldc, ↓q_lconst, ↓q_ldc2, ↓q_null, ↓q_iload, ↓q_iload_n, ↓q_lload, ↓q_lload_n, ↓q_aload, ↓q_aload_n, ↓q_istore, ↓q_istore_n, ↓q_lstore, ↓q_lstore_n, ↓q_astore, ↓q_astore_n, ↓q_iinc, ↓q_iadd, ↓q_isub, ↓q_imul, ↓q_iand, ↓q_idiv, ↓q_irem, ↓q_ineg, ↓q_ladd, ↓q_lsub, ↓q_lmul, ↓q_land, ↓q_ldiv, ↓q_lrem, ↓q_i2l, ↓q_l2i, ↓q_dup, ↓q_pop, ↓q_dup2, ↓q_dup_x1, ↓q_goto, ↓q_if_eq, ↓q_if_ne, ↓q_if_lt, ↓q_if_ge, ↓q_if_gt, ↓q_if_le, ↓q_icmp_eq, ↓q_icmp_ne, ↓q_icmp_lt, ↓q_icmp_ge, ↓q_icmp_gt, ↓q_icmp_le, ↓q_ifnullN, ↓q_ifnull, ↓q_ifnonnullN, ↓q_ifnonnull, ↓q_table, ↓q_lookup, ↓q_getf, ↓q_putI, ↓q_putJ, ↓q_putR, ↓q_iald, ↓q_sld, ↓q_slen, ↓q_alen, ↓q_iast, ↓q_bald, ↓q_bast, ↓q_aald, ↓q_aast, ↓q_newa, ↓q_newq, ↓q_new, ↓q_objInit, ↓q_max, ↓q_min, ↓q_copy, ↓q_callS0, ↓q_callV0, ↓q_callI0, ↓q_callS1, ↓q_callV1, ↓q_callI1, ↓q_callS2, ↓q_callV2, ↓q_callI2, ↓q_callS3, ↓q_callV3, ↓q_callI3, ↓q_callS4, ↓q_callV4, ↓q_callI4, ↓q_callS5, ↓q_callV5, ↓q_callI5, ↓q_callS6, ↓q_callV6, ↓q_callI6, ↓q_callS7, ↓q_callV7, ↓q_callI7, ↓q_callS8, ↓q_callV8, ↓q_callI8, ↓q_iret, ↓q_lret, ↓q_vret, q_e_i_int, q_e_l_long, q_e_a_ref, q_e_a_null, q_cat_int, q_cat_ref, q_cat_null, q_cat_long, q_na_int, q_lgt_z, q_lgt_s, q_lst0, q_lst1, q_lstS, q_lst20, q_lst21, q_lst2S, q_clr_i, q_clr_r, q_clr_n, q_clr_0, q_clr_l, q_cv_i, q_cv_l, q_cv_r, q_rv_s, q_rv_n, q_toL_s, q_toL_n, true_and, and_true, Nat.reduceAdd, s33, s34, s35, s36, s37, s38, s39, s40, s41, s42, s43, s44, s45, s46, r33_3, r33_4, r33_6, r33_7, r33_8, r33_10, r33_11, r33_12, r33_13, r33_15, r33_16, r33_18, r33_19]
          refine go_wp B_M_mayGo_142_ok ?_; simp only [B_M_mayGo_142, ↓q_nil, ↓q_iconst, ↓q_bipush, ↓q_sipush, ↓q_ldc, ↓q_lconst, ↓q_ldc2, ↓q_null, ↓q_iload, ↓q_iload_n, ↓q_lload, ↓q_lload_n, ↓q_aload, ↓q_aload_n, ↓q_istore, ↓q_istore_n, ↓q_lstore, ↓q_lstore_n, ↓q_astore, ↓q_astore_n, ↓q_iinc, ↓q_iadd, ↓q_isub, ↓q_imul, ↓q_iand, ↓q_idiv, ↓q_irem, ↓q_ineg, ↓q_ladd, ↓q_lsub, ↓q_lmul, ↓q_land, ↓q_ldiv, ↓q_lrem, ↓q_i2l, ↓q_l2i, ↓q_dup, ↓q_pop, ↓q_dup2, ↓q_dup_x1, ↓q_goto, ↓q_if_eq, ↓q_if_ne, ↓q_if_lt, ↓q_if_ge, ↓q_if_gt, ↓q_if_le, ↓q_icmp_eq, ↓q_icmp_ne, ↓q_icmp_lt, ↓q_icmp_ge, ↓q_icmp_gt, ↓q_icmp_le, ↓q_ifnullN, ↓q_ifnull, ↓q_ifnonnullN, ↓q_ifnonnull, ↓q_table, ↓q_lookup, ↓q_getf, ↓q_putI, ↓q_putJ, ↓q_putR, ↓q_iald, ↓q_sld, ↓q_slen, ↓q_alen, ↓q_iast, ↓q_bald, ↓q_bast, ↓q_aald, ↓q_aast, ↓q_newa, ↓q_newq, ↓q_new, ↓q_objInit, ↓q_max, ↓q_min, ↓q_copy, ↓q_callS0, ↓q_callV0, ↓q_callI0, ↓q_callS1, ↓q_callV1, ↓q_callI1, ↓q_callS2, ↓q_callV2, ↓q_callI2, ↓q_callS3, ↓q_callV3, ↓q_callI3, ↓q_callS4, ↓q_callV4, ↓q_callI4, ↓q_callS5, ↓q_callV5, ↓q_callI5, ↓q_callS6, ↓q_callV6, ↓q_callI6, ↓q_callS7, ↓q_callV7, ↓q_callI7, ↓q_callS8, ↓q_callV8, ↓q_callI8, ↓q_iret, ↓q_lret, ↓q_vret, q_e_i_int, q_e_l_long, q_e_a_ref, q_e_a_null, q_cat_int, q_cat_ref, q_cat_null, q_cat_long, q_na_int, q_lgt_z, q_lgt_s, q_lst0, q_lst1, q_lstS, q_lst20, q_lst21, q_lst2S, q_clr_i, q_clr_r, q_clr_n, q_clr_0, q_clr_l, q_cv_i, q_cv_l, q_cv_r, q_rv_s, q_rv_n, q_toL_s, q_toL_n, true_and, and_true, Nat.reduceAdd, s33, s34, s35, s36, s37, s38, s39, s40, s41, s42, s43, s44, s45, s46, r33_3, r33_4, r33_6, r33_7, r33_8, r33_10, r33_11, r33_12, r33_13, r33_15, r33_16, r33_18, r33_19]
          refine ⟨fun h => ⟨fun _ => hok (hb0 h) _ _ _, fun q => by first | exact absurd rfl q | exact absurd trivial q⟩, fun h => hbad (hb1 h) _ _ _⟩
        refine go_wp B_M_mayGo_73_ok ?_; simp only [B_M_mayGo_73, ↓q_nil, ↓q_iconst, ↓q_bipush, ↓q_sipush, ↓q_ldc, ↓q_lconst, ↓q_ldc2, ↓q_null, ↓q_iload, ↓q_iload_n, ↓q_lload, ↓q_lload_n, ↓q_aload, ↓q_aload_n, ↓q_istore, ↓q_istore_n, ↓q_lstore, ↓q_lstore_n, ↓q_astore, ↓q_astore_n, ↓q_iinc, ↓q_iadd, ↓q_isub, ↓q_imul, ↓q_iand, ↓q_idiv, ↓q_irem, ↓q_ineg, ↓q_ladd, ↓q_lsub, ↓q_lmul, ↓q_land, ↓q_ldiv, ↓q_lrem, ↓q_i2l, ↓q_l2i, ↓q_dup, ↓q_pop, ↓q_dup2, ↓q_dup_x1, ↓q_goto, ↓q_if_eq, ↓q_if_ne, ↓q_if_lt, ↓q_if_ge, ↓q_if_gt, ↓q_if_le, ↓q_icmp_eq, ↓q_icmp_ne, ↓q_icmp_lt, ↓q_icmp_ge, ↓q_icmp_gt, ↓q_icmp_le, ↓q_ifnullN, ↓q_ifnull, ↓q_ifnonnullN, ↓q_ifnonnull, ↓q_table, ↓q_lookup, ↓q_getf, ↓q_putI, ↓q_putJ, ↓q_putR, ↓q_iald, ↓q_sld, ↓q_slen, ↓q_alen, ↓q_iast, ↓q_bald, ↓q_bast, ↓q_aald, ↓q_aast, ↓q_newa, ↓q_newq, ↓q_new, ↓q_objInit, ↓q_max, ↓q_min, ↓q_copy, ↓q_callS0, ↓q_callV0, ↓q_callI0, ↓q_callS1, ↓q_callV1, ↓q_callI1, ↓q_callS2, ↓q_callV2, ↓q_callI2, ↓q_callS3, ↓q_callV3, ↓q_callI3, ↓q_callS4, ↓q_callV4, ↓q_callI4, ↓q_callS5, ↓q_callV5, ↓q_callI5, ↓q_callS6, ↓q_callV6, ↓q_callI6, ↓q_callS7, ↓q_callV7, ↓q_callI7, ↓q_callS8, ↓q_callV8, ↓q_callI8, ↓q_iret, ↓q_lret, ↓q_vret, q_e_i_int, q_e_l_long, q_e_a_ref, q_e_a_null, q_cat_int, q_cat_ref, q_cat_null, q_cat_long, q_na_int, q_lgt_z, q_lgt_s, q_lst0, q_lst1, q_lstS, q_lst20, q_lst21, q_lst2S, q_clr_i, q_clr_r, q_clr_n, q_clr_0, q_clr_l, q_cv_i, q_cv_l, q_cv_r, q_rv_s, q_rv_n, q_toL_s, q_toL_n, true_and, and_true, Nat.reduceAdd, s33, s34, s35, s36, s37, s38, s39, s40, s41, s42, s43, s44, s45, s46, r33_3, r33_4, r33_6, r33_7, r33_8, r33_10, r33_11, r33_12, r33_13, r33_15, r33_16, r33_18, r33_19]
        refine ⟨fun h => absurd h (by decide), fun _ => ?_⟩
        refine call_ro (c_rear hs hk60) (by decide) rfl (Nat.le_refl _) (Nat.le_refl _) ?_
        simp only [↓q_nil, ↓q_iconst, ↓q_bipush, ↓q_sipush, ↓q_ldc, ↓q_lconst, ↓q_ldc2, ↓q_null, ↓q_iload, ↓q_iload_n, ↓q_lload, ↓q_lload_n, ↓q_aload, ↓q_aload_n, ↓q_istore, ↓q_istore_n, ↓q_lstore, ↓q_lstore_n, ↓q_astore, ↓q_astore_n, ↓q_iinc, ↓q_iadd, ↓q_isub, ↓q_imul, ↓q_iand, ↓q_idiv, ↓q_irem, ↓q_ineg, ↓q_ladd, ↓q_lsub, ↓q_lmul, ↓q_land, ↓q_ldiv, ↓q_lrem, ↓q_i2l, ↓q_l2i, ↓q_dup, ↓q_pop, ↓q_dup2, ↓q_dup_x1, ↓q_goto, ↓q_if_eq, ↓q_if_ne, ↓q_if_lt, ↓q_if_ge, ↓q_if_gt, ↓q_if_le, ↓q_icmp_eq, ↓q_icmp_ne, ↓q_icmp_lt, ↓q_icmp_ge, ↓q_icmp_gt, ↓q_icmp_le, ↓q_ifnullN, ↓q_ifnull, ↓q_ifnonnullN, ↓q_ifnonnull, ↓q_table, ↓q_lookup, ↓q_getf, ↓q_putI, ↓q_putJ, ↓q_putR, ↓q_iald, ↓q_sld, ↓q_slen, ↓q_alen, ↓q_iast, ↓q_bald, ↓q_bast, ↓q_aald, ↓q_aast, ↓q_newa, ↓q_newq, ↓q_new, ↓q_objInit, ↓q_max, ↓q_min, ↓q_copy, ↓q_callS0, ↓q_callV0, ↓q_callI0, ↓q_callS1, ↓q_callV1, ↓q_callI1, ↓q_callS2, ↓q_callV2, ↓q_callI2, ↓q_callS3, ↓q_callV3, ↓q_callI3, ↓q_callS4, ↓q_callV4, ↓q_callI4, ↓q_callS5, ↓q_callV5, ↓q_callI5, ↓q_callS6, ↓q_callV6, ↓q_callI6, ↓q_callS7, ↓q_callV7, ↓q_callI7, ↓q_callS8, ↓q_callV8, ↓q_callI8, ↓q_iret, ↓q_lret, ↓q_vret, q_e_i_int, q_e_l_long, q_e_a_ref, q_e_a_null, q_cat_int, q_cat_ref, q_cat_null, q_cat_long, q_na_int, q_lgt_z, q_lgt_s, q_lst0, q_lst1, q_lstS, q_lst20, q_lst21, q_lst2S, q_clr_i, q_clr_r, q_clr_n, q_clr_0, q_clr_l, q_cv_i, q_cv_l, q_cv_r, q_rv_s, q_rv_n, q_toL_s, q_toL_n, true_and, and_true, Nat.reduceAdd, s33, s34, s35, s36, s37, s38, s39, s40, s41, s42, s43, s44, s45, s46, r33_3, r33_4, r33_6, r33_7, r33_8, r33_10, r33_11, r33_12, r33_13, r33_15, r33_16, r33_18, r33_19]
        refine call_ro (c_of hs (p := 3) ha (by decide)) (by decide) rfl (Nat.le_refl _) (Nat.le_refl _) ?_
        simp only [↓q_nil, ↓q_iconst, ↓q_bipush, ↓q_sipush, ↓q_ldc, ↓q_lconst, ↓q_ldc2, ↓q_null, ↓q_iload, ↓q_iload_n, ↓q_lload, ↓q_lload_n, ↓q_aload, ↓q_aload_n, ↓q_istore, ↓q_istore_n, ↓q_lstore, ↓q_lstore_n, ↓q_astore, ↓q_astore_n, ↓q_iinc, ↓q_iadd, ↓q_isub, ↓q_imul, ↓q_iand, ↓q_idiv, ↓q_irem, ↓q_ineg, ↓q_ladd, ↓q_lsub, ↓q_lmul, ↓q_land, ↓q_ldiv, ↓q_lrem, ↓q_i2l, ↓q_l2i, ↓q_dup, ↓q_pop, ↓q_dup2, ↓q_dup_x1, ↓q_goto, ↓q_if_eq, ↓q_if_ne, ↓q_if_lt, ↓q_if_ge, ↓q_if_gt, ↓q_if_le, ↓q_icmp_eq, ↓q_icmp_ne, ↓q_icmp_lt, ↓q_icmp_ge, ↓q_icmp_gt, ↓q_icmp_le, ↓q_ifnullN, ↓q_ifnull, ↓q_ifnonnullN, ↓q_ifnonnull, ↓q_table, ↓q_lookup, ↓q_getf, ↓q_putI, ↓q_putJ, ↓q_putR, ↓q_iald, ↓q_sld, ↓q_slen, ↓q_alen, ↓q_iast, ↓q_bald, ↓q_bast, ↓q_aald, ↓q_aast, ↓q_newa, ↓q_newq, ↓q_new, ↓q_objInit, ↓q_max, ↓q_min, ↓q_copy, ↓q_callS0, ↓q_callV0, ↓q_callI0, ↓q_callS1, ↓q_callV1, ↓q_callI1, ↓q_callS2, ↓q_callV2, ↓q_callI2, ↓q_callS3, ↓q_callV3, ↓q_callI3, ↓q_callS4, ↓q_callV4, ↓q_callI4, ↓q_callS5, ↓q_callV5, ↓q_callI5, ↓q_callS6, ↓q_callV6, ↓q_callI6, ↓q_callS7, ↓q_callV7, ↓q_callI7, ↓q_callS8, ↓q_callV8, ↓q_callI8, ↓q_iret, ↓q_lret, ↓q_vret, q_e_i_int, q_e_l_long, q_e_a_ref, q_e_a_null, q_cat_int, q_cat_ref, q_cat_null, q_cat_long, q_na_int, q_lgt_z, q_lgt_s, q_lst0, q_lst1, q_lstS, q_lst20, q_lst21, q_lst2S, q_clr_i, q_clr_r, q_clr_n, q_clr_0, q_clr_l, q_cv_i, q_cv_l, q_cv_r, q_rv_s, q_rv_n, q_toL_s, q_toL_n, true_and, and_true, Nat.reduceAdd, s33, s34, s35, s36, s37, s38, s39, s40, s41, s42, s43, s44, s45, s46, r33_3, r33_4, r33_6, r33_7, r33_8, r33_10, r33_11, r33_12, r33_13, r33_15, r33_16, r33_18, r33_19]
        refine ⟨fun hB => h100 1 (fun _ => ⟨hon, Or.inl ⟨hA, hB⟩⟩) (fun q => absurd q (by decide)), fun hB => ?_⟩
        refine go_wp B_M_mayGo_99_ok ?_; simp only [B_M_mayGo_99, ↓q_nil, ↓q_iconst, ↓q_bipush, ↓q_sipush, ↓q_ldc, ↓q_lconst, ↓q_ldc2, ↓q_null, ↓q_iload, ↓q_iload_n, ↓q_lload, ↓q_lload_n, ↓q_aload, ↓q_aload_n, ↓q_istore, ↓q_istore_n, ↓q_lstore, ↓q_lstore_n, ↓q_astore, ↓q_astore_n, ↓q_iinc, ↓q_iadd, ↓q_isub, ↓q_imul, ↓q_iand, ↓q_idiv, ↓q_irem, ↓q_ineg, ↓q_ladd, ↓q_lsub, ↓q_lmul, ↓q_land, ↓q_ldiv, ↓q_lrem, ↓q_i2l, ↓q_l2i, ↓q_dup, ↓q_pop, ↓q_dup2, ↓q_dup_x1, ↓q_goto, ↓q_if_eq, ↓q_if_ne, ↓q_if_lt, ↓q_if_ge, ↓q_if_gt, ↓q_if_le, ↓q_icmp_eq, ↓q_icmp_ne, ↓q_icmp_lt, ↓q_icmp_ge, ↓q_icmp_gt, ↓q_icmp_le, ↓q_ifnullN, ↓q_ifnull, ↓q_ifnonnullN, ↓q_ifnonnull, ↓q_table, ↓q_lookup, ↓q_getf, ↓q_putI, ↓q_putJ, ↓q_putR, ↓q_iald, ↓q_sld, ↓q_slen, ↓q_alen, ↓q_iast, ↓q_bald, ↓q_bast, ↓q_aald, ↓q_aast, ↓q_newa, ↓q_newq, ↓q_new, ↓q_objInit, ↓q_max, ↓q_min, ↓q_copy, ↓q_callS0, ↓q_callV0, ↓q_callI0, ↓q_callS1, ↓q_callV1, ↓q_callI1, ↓q_callS2, ↓q_callV2, ↓q_callI2, ↓q_callS3, ↓q_callV3, ↓q_callI3, ↓q_callS4, ↓q_callV4, ↓q_callI4, ↓q_callS5, ↓q_callV5, ↓q_callI5, ↓q_callS6, ↓q_callV6, ↓q_callI6, ↓q_callS7, ↓q_callV7, ↓q_callI7, ↓q_callS8, ↓q_callV8, ↓q_callI8, ↓q_iret, ↓q_lret, ↓q_vret, q_e_i_int, q_e_l_long, q_e_a_ref, q_e_a_null, q_cat_int, q_cat_ref, q_cat_null, q_cat_long, q_na_int, q_lgt_z, q_lgt_s, q_lst0, q_lst1, q_lstS, q_lst20, q_lst21, q_lst2S, q_clr_i, q_clr_r, q_clr_n, q_clr_0, q_clr_l, q_cv_i, q_cv_l, q_cv_r, q_rv_s, q_rv_n, q_toL_s, q_toL_n, true_and, and_true, Nat.reduceAdd, s33, s34, s35, s36, s37, s38, s39, s40, s41, s42, s43, s44, s45, s46, r33_3, r33_4, r33_6, r33_7, r33_8, r33_10, r33_11, r33_12, r33_13, r33_15, r33_16, r33_18, r33_19]
        refine h100 0 (fun q => absurd rfl q) (fun _ q => ?_)
        rcases q.2 with q | q
        · exact hB q.2
        · exact q.1 hA
      · refine go_wp B_M_mayGo_72_ok ?_; simp only [B_M_mayGo_72, ↓q_nil, ↓q_iconst, ↓q_bipush, ↓q_sipush, ↓q_ldc, ↓q_lconst, ↓q_ldc2, ↓q_null, ↓q_iload, ↓q_iload_n, ↓q_lload, ↓q_lload_n, ↓q_aload, ↓q_aload_n, ↓q_istore, ↓q_istore_n, ↓q_lstore, ↓q_lstore_n, ↓q_astore, ↓q_astore_n, ↓q_iinc, ↓q_iadd, ↓q_isub, ↓q_imul, ↓q_iand, ↓q_idiv, ↓q_irem, ↓q_ineg, ↓q_ladd, ↓q_lsub, ↓q_lmul, ↓q_land, ↓q_ldiv, ↓q_lrem, ↓q_i2l, ↓q_l2i, ↓q_dup, ↓q_pop, ↓q_dup2, ↓q_dup_x1, ↓q_goto, ↓q_if_eq, ↓q_if_ne, ↓q_if_lt, ↓q_if_ge, ↓q_if_gt, ↓q_if_le, ↓q_icmp_eq, ↓q_icmp_ne, ↓q_icmp_lt, ↓q_icmp_ge, ↓q_icmp_gt, ↓q_icmp_le, ↓q_ifnullN, ↓q_ifnull, ↓q_ifnonnullN, ↓q_ifnonnull, ↓q_table, ↓q_lookup, ↓q_getf, ↓q_putI, ↓q_putJ, ↓q_putR, ↓q_iald, ↓q_sld, ↓q_slen, ↓q_alen, ↓q_iast, ↓q_bald, ↓q_bast, ↓q_aald, ↓q_aast, ↓q_newa, ↓q_newq, ↓q_new, ↓q_objInit, ↓q_max, ↓q_min, ↓q_copy, ↓q_callS0, ↓q_callV0, ↓q_callI0, ↓q_callS1, ↓q_callV1, ↓q_callI1, ↓q_callS2, ↓q_callV2, ↓q_callI2, ↓q_callS3, ↓q_callV3, ↓q_callI3, ↓q_callS4, ↓q_callV4, ↓q_callI4, ↓q_callS5, ↓q_callV5, ↓q_callI5, ↓q_callS6, ↓q_callV6, ↓q_callI6, ↓q_callS7, ↓q_callV7, ↓q_callI7, ↓q_callS8, ↓q_callV8, ↓q_callI8, ↓q_iret, ↓q_lret, ↓q_vret, q_e_i_int, q_e_l_long, q_e_a_ref, q_e_a_null, q_cat_int, q_cat_ref, q_cat_null, q_cat_long, q_na_int, q_lgt_z, q_lgt_s, q_lst0, q_lst1, q_lstS, q_lst20, q_lst21, q_lst2S, q_clr_i, q_clr_r, q_clr_n, q_clr_0, q_clr_l, q_cv_i, q_cv_l, q_cv_r, q_rv_s, q_rv_n, q_toL_s, q_toL_n, true_and, and_true, Nat.reduceAdd, s33, s34, s35, s36, s37, s38, s39, s40, s41, s42, s43, s44, s45, s46, r33_3, r33_4, r33_6, r33_7, r33_8, r33_10, r33_11, r33_12, r33_13, r33_15, r33_16, r33_18, r33_19]
        refine go_wp B_M_mayGo_73_ok ?_; simp only [B_M_mayGo_73, ↓q_nil, ↓q_iconst, ↓q_bipush, ↓q_sipush, ↓q_ldc, ↓q_lconst, ↓q_ldc2, ↓q_null, ↓q_iload, ↓q_iload_n, ↓q_lload, ↓q_lload_n, ↓q_aload, ↓q_aload_n, ↓q_istore, ↓q_istore_n, ↓q_lstore, ↓q_lstore_n, ↓q_astore, ↓q_astore_n, ↓q_iinc, ↓q_iadd, ↓q_isub, ↓q_imul, ↓q_iand, ↓q_idiv, ↓q_irem, ↓q_ineg, ↓q_ladd, ↓q_lsub, ↓q_lmul, ↓q_land, ↓q_ldiv, ↓q_lrem, ↓q_i2l, ↓q_l2i, ↓q_dup, ↓q_pop, ↓q_dup2, ↓q_dup_x1, ↓q_goto, ↓q_if_eq, ↓q_if_ne, ↓q_if_lt, ↓q_if_ge, ↓q_if_gt, ↓q_if_le, ↓q_icmp_eq, ↓q_icmp_ne, ↓q_icmp_lt, ↓q_icmp_ge, ↓q_icmp_gt, ↓q_icmp_le, ↓q_ifnullN, ↓q_ifnull, ↓q_ifnonnullN, ↓q_ifnonnull, ↓q_table, ↓q_lookup, ↓q_getf, ↓q_putI, ↓q_putJ, ↓q_putR, ↓q_iald, ↓q_sld, ↓q_slen, ↓q_alen, ↓q_iast, ↓q_bald, ↓q_bast, ↓q_aald, ↓q_aast, ↓q_newa, ↓q_newq, ↓q_new, ↓q_objInit, ↓q_max, ↓q_min, ↓q_copy, ↓q_callS0, ↓q_callV0, ↓q_callI0, ↓q_callS1, ↓q_callV1, ↓q_callI1, ↓q_callS2, ↓q_callV2, ↓q_callI2, ↓q_callS3, ↓q_callV3, ↓q_callI3, ↓q_callS4, ↓q_callV4, ↓q_callI4, ↓q_callS5, ↓q_callV5, ↓q_callI5, ↓q_callS6, ↓q_callV6, ↓q_callI6, ↓q_callS7, ↓q_callV7, ↓q_callI7, ↓q_callS8, ↓q_callV8, ↓q_callI8, ↓q_iret, ↓q_lret, ↓q_vret, q_e_i_int, q_e_l_long, q_e_a_ref, q_e_a_null, q_cat_int, q_cat_ref, q_cat_null, q_cat_long, q_na_int, q_lgt_z, q_lgt_s, q_lst0, q_lst1, q_lstS, q_lst20, q_lst21, q_lst2S, q_clr_i, q_clr_r, q_clr_n, q_clr_0, q_clr_l, q_cv_i, q_cv_l, q_cv_r, q_rv_s, q_rv_n, q_toL_s, q_toL_n, true_and, and_true, Nat.reduceAdd, s33, s34, s35, s36, s37, s38, s39, s40, s41, s42, s43, s44, s45, s46, r33_3, r33_4, r33_6, r33_7, r33_8, r33_10, r33_11, r33_12, r33_13, r33_15, r33_16, r33_18, r33_19]
        refine ⟨fun _ => ?_, fun h => by first | exact absurd rfl h | exact absurd trivial h⟩
        refine go_wp B_M_mayGo_99_ok ?_; simp only [B_M_mayGo_99, ↓q_nil, ↓q_iconst, ↓q_bipush, ↓q_sipush, ↓q_ldc, ↓q_lconst, ↓q_ldc2, ↓q_null, ↓q_iload, ↓q_iload_n, ↓q_lload, ↓q_lload_n, ↓q_aload, ↓q_aload_n, ↓q_istore, ↓q_istore_n, ↓q_lstore, ↓q_lstore_n, ↓q_astore, ↓q_astore_n, ↓q_iinc, ↓q_iadd, ↓q_isub, ↓q_imul, ↓q_iand, ↓q_idiv, ↓q_irem, ↓q_ineg, ↓q_ladd, ↓q_lsub, ↓q_lmul, ↓q_land, ↓q_ldiv, ↓q_lrem, ↓q_i2l, ↓q_l2i, ↓q_dup, ↓q_pop, ↓q_dup2, ↓q_dup_x1, ↓q_goto, ↓q_if_eq, ↓q_if_ne, ↓q_if_lt, ↓q_if_ge, ↓q_if_gt, ↓q_if_le, ↓q_icmp_eq, ↓q_icmp_ne, ↓q_icmp_lt, ↓q_icmp_ge, ↓q_icmp_gt, ↓q_icmp_le, ↓q_ifnullN, ↓q_ifnull, ↓q_ifnonnullN, ↓q_ifnonnull, ↓q_table, ↓q_lookup, ↓q_getf, ↓q_putI, ↓q_putJ, ↓q_putR, ↓q_iald, ↓q_sld, ↓q_slen, ↓q_alen, ↓q_iast, ↓q_bald, ↓q_bast, ↓q_aald, ↓q_aast, ↓q_newa, ↓q_newq, ↓q_new, ↓q_objInit, ↓q_max, ↓q_min, ↓q_copy, ↓q_callS0, ↓q_callV0, ↓q_callI0, ↓q_callS1, ↓q_callV1, ↓q_callI1, ↓q_callS2, ↓q_callV2, ↓q_callI2, ↓q_callS3, ↓q_callV3, ↓q_callI3, ↓q_callS4, ↓q_callV4, ↓q_callI4, ↓q_callS5, ↓q_callV5, ↓q_callI5, ↓q_callS6, ↓q_callV6, ↓q_callI6, ↓q_callS7, ↓q_callV7, ↓q_callI7, ↓q_callS8, ↓q_callV8, ↓q_callI8, ↓q_iret, ↓q_lret, ↓q_vret, q_e_i_int, q_e_l_long, q_e_a_ref, q_e_a_null, q_cat_int, q_cat_ref, q_cat_null, q_cat_long, q_na_int, q_lgt_z, q_lgt_s, q_lst0, q_lst1, q_lstS, q_lst20, q_lst21, q_lst2S, q_clr_i, q_clr_r, q_clr_n, q_clr_0, q_clr_l, q_cv_i, q_cv_l, q_cv_r, q_rv_s, q_rv_n, q_toL_s, q_toL_n, true_and, and_true, Nat.reduceAdd, s33, s34, s35, s36, s37, s38, s39, s40, s41, s42, s43, s44, s45, s46, r33_3, r33_4, r33_6, r33_7, r33_8, r33_10, r33_11, r33_12, r33_13, r33_15, r33_16, r33_18, r33_19]
        refine go_wp B_M_mayGo_100_ok ?_; simp only [B_M_mayGo_100, ↓q_nil, ↓q_iconst, ↓q_bipush, ↓q_sipush, ↓q_ldc, ↓q_lconst, ↓q_ldc2, ↓q_null, ↓q_iload, ↓q_iload_n, ↓q_lload, ↓q_lload_n, ↓q_aload, ↓q_aload_n, ↓q_istore, ↓q_istore_n, ↓q_lstore, ↓q_lstore_n, ↓q_astore, ↓q_astore_n, ↓q_iinc, ↓q_iadd, ↓q_isub, ↓q_imul, ↓q_iand, ↓q_idiv, ↓q_irem, ↓q_ineg, ↓q_ladd, ↓q_lsub, ↓q_lmul, ↓q_land, ↓q_ldiv, ↓q_lrem, ↓q_i2l, ↓q_l2i, ↓q_dup, ↓q_pop, ↓q_dup2, ↓q_dup_x1, ↓q_goto, ↓q_if_eq, ↓q_if_ne, ↓q_if_lt, ↓q_if_ge, ↓q_if_gt, ↓q_if_le, ↓q_icmp_eq, ↓q_icmp_ne, ↓q_icmp_lt, ↓q_icmp_ge, ↓q_icmp_gt, ↓q_icmp_le, ↓q_ifnullN, ↓q_ifnull, ↓q_ifnonnullN, ↓q_ifnonnull, ↓q_table, ↓q_lookup, ↓q_getf, ↓q_putI, ↓q_putJ, ↓q_putR, ↓q_iald, ↓q_sld, ↓q_slen, ↓q_alen, ↓q_iast, ↓q_bald, ↓q_bast, ↓q_aald, ↓q_aast, ↓q_newa, ↓q_newq, ↓q_new, ↓q_objInit, ↓q_max, ↓q_min, ↓q_copy, ↓q_callS0, ↓q_callV0, ↓q_callI0, ↓q_callS1, ↓q_callV1, ↓q_callI1, ↓q_callS2, ↓q_callV2, ↓q_callI2, ↓q_callS3, ↓q_callV3, ↓q_callI3, ↓q_callS4, ↓q_callV4, ↓q_callI4, ↓q_callS5, ↓q_callV5, ↓q_callI5, ↓q_callS6, ↓q_callV6, ↓q_callI6, ↓q_callS7, ↓q_callV7, ↓q_callI7, ↓q_callS8, ↓q_callV8, ↓q_callI8, ↓q_iret, ↓q_lret, ↓q_vret, q_e_i_int, q_e_l_long, q_e_a_ref, q_e_a_null, q_cat_int, q_cat_ref, q_cat_null, q_cat_long, q_na_int, q_lgt_z, q_lgt_s, q_lst0, q_lst1, q_lstS, q_lst20, q_lst21, q_lst2S, q_clr_i, q_clr_r, q_clr_n, q_clr_0, q_clr_l, q_cv_i, q_cv_l, q_cv_r, q_rv_s, q_rv_n, q_toL_s, q_toL_n, true_and, and_true, Nat.reduceAdd, s33, s34, s35, s36, s37, s38, s39, s40, s41, s42, s43, s44, s45, s46, r33_3, r33_4, r33_6, r33_7, r33_8, r33_10, r33_11, r33_12, r33_13, r33_15, r33_16, r33_18, r33_19]
        refine ⟨fun _ => ?_, fun h => by first | exact absurd rfl h | exact absurd trivial h⟩
        refine call_ro (c_rear hs ha) (by decide) rfl (Nat.le_refl _) (Nat.le_refl _) ?_
        simp only [↓q_nil, ↓q_iconst, ↓q_bipush, ↓q_sipush, ↓q_ldc, ↓q_lconst, ↓q_ldc2, ↓q_null, ↓q_iload, ↓q_iload_n, ↓q_lload, ↓q_lload_n, ↓q_aload, ↓q_aload_n, ↓q_istore, ↓q_istore_n, ↓q_lstore, ↓q_lstore_n, ↓q_astore, ↓q_astore_n, ↓q_iinc, ↓q_iadd, ↓q_isub, ↓q_imul, ↓q_iand, ↓q_idiv, ↓q_irem, ↓q_ineg, ↓q_ladd, ↓q_lsub, ↓q_lmul, ↓q_land, ↓q_ldiv, ↓q_lrem, ↓q_i2l, ↓q_l2i, ↓q_dup, ↓q_pop, ↓q_dup2, ↓q_dup_x1, ↓q_goto, ↓q_if_eq, ↓q_if_ne, ↓q_if_lt, ↓q_if_ge, ↓q_if_gt, ↓q_if_le, ↓q_icmp_eq, ↓q_icmp_ne, ↓q_icmp_lt, ↓q_icmp_ge, ↓q_icmp_gt, ↓q_icmp_le, ↓q_ifnullN, ↓q_ifnull, ↓q_ifnonnullN, ↓q_ifnonnull, ↓q_table, ↓q_lookup, ↓q_getf, ↓q_putI, ↓q_putJ, ↓q_putR, ↓q_iald, ↓q_sld, ↓q_slen, ↓q_alen, ↓q_iast, ↓q_bald, ↓q_bast, ↓q_aald, ↓q_aast, ↓q_newa, ↓q_newq, ↓q_new, ↓q_objInit, ↓q_max, ↓q_min, ↓q_copy, ↓q_callS0, ↓q_callV0, ↓q_callI0, ↓q_callS1, ↓q_callV1, ↓q_callI1, ↓q_callS2, ↓q_callV2, ↓q_callI2, ↓q_callS3, ↓q_callV3, ↓q_callI3, ↓q_callS4, ↓q_callV4, ↓q_callI4, ↓q_callS5, ↓q_callV5, ↓q_callI5, ↓q_callS6, ↓q_callV6, ↓q_callI6, ↓q_callS7, ↓q_callV7, ↓q_callI7, ↓q_callS8, ↓q_callV8, ↓q_callI8, ↓q_iret, ↓q_lret, ↓q_vret, q_e_i_int, q_e_l_long, q_e_a_ref, q_e_a_null, q_cat_int, q_cat_ref, q_cat_null, q_cat_long, q_na_int, q_lgt_z, q_lgt_s, q_lst0, q_lst1, q_lstS, q_lst20, q_lst21, q_lst2S, q_clr_i, q_clr_r, q_clr_n, q_clr_0, q_clr_l, q_cv_i, q_cv_l, q_cv_r, q_rv_s, q_rv_n, q_toL_s, q_toL_n, true_and, and_true, Nat.reduceAdd, s33, s34, s35, s36, s37, s38, s39, s40, s41, s42, s43, s44, s45, s46, r33_3, r33_4, r33_6, r33_7, r33_8, r33_10, r33_11, r33_12, r33_13, r33_15, r33_16, r33_18, r33_19]
        refine call_ro (c_of hs (p := 3) hk60 (by decide)) (by decide) rfl (Nat.le_refl _) (Nat.le_refl _) ?_
        simp only [↓q_nil, ↓q_iconst, ↓q_bipush, ↓q_sipush, ↓q_ldc, ↓q_lconst, ↓q_ldc2, ↓q_null, ↓q_iload, ↓q_iload_n, ↓q_lload, ↓q_lload_n, ↓q_aload, ↓q_aload_n, ↓q_istore, ↓q_istore_n, ↓q_lstore, ↓q_lstore_n, ↓q_astore, ↓q_astore_n, ↓q_iinc, ↓q_iadd, ↓q_isub, ↓q_imul, ↓q_iand, ↓q_idiv, ↓q_irem, ↓q_ineg, ↓q_ladd, ↓q_lsub, ↓q_lmul, ↓q_land, ↓q_ldiv, ↓q_lrem, ↓q_i2l, ↓q_l2i, ↓q_dup, ↓q_pop, ↓q_dup2, ↓q_dup_x1, ↓q_goto, ↓q_if_eq, ↓q_if_ne, ↓q_if_lt, ↓q_if_ge, ↓q_if_gt, ↓q_if_le, ↓q_icmp_eq, ↓q_icmp_ne, ↓q_icmp_lt, ↓q_icmp_ge, ↓q_icmp_gt, ↓q_icmp_le, ↓q_ifnullN, ↓q_ifnull, ↓q_ifnonnullN, ↓q_ifnonnull, ↓q_table, ↓q_lookup, ↓q_getf, ↓q_putI, ↓q_putJ, ↓q_putR, ↓q_iald, ↓q_sld, ↓q_slen, ↓q_alen, ↓q_iast, ↓q_bald, ↓q_bast, ↓q_aald, ↓q_aast, ↓q_newa, ↓q_newq, ↓q_new, ↓q_objInit, ↓q_max, ↓q_min, ↓q_copy, ↓q_callS0, ↓q_callV0, ↓q_callI0, ↓q_callS1, ↓q_callV1, ↓q_callI1, ↓q_callS2, ↓q_callV2, ↓q_callI2, ↓q_callS3, ↓q_callV3, ↓q_callI3, ↓q_callS4, ↓q_callV4, ↓q_callI4, ↓q_callS5, ↓q_callV5, ↓q_callI5, ↓q_callS6, ↓q_callV6, ↓q_callI6, ↓q_callS7, ↓q_callV7, ↓q_callI7, ↓q_callS8, ↓q_callV8, ↓q_callI8, ↓q_iret, ↓q_lret, ↓q_vret, q_e_i_int, q_e_l_long, q_e_a_ref, q_e_a_null, q_cat_int, q_cat_ref, q_cat_null, q_cat_long, q_na_int, q_lgt_z, q_lgt_s, q_lst0, q_lst1, q_lstS, q_lst20, q_lst21, q_lst2S, q_clr_i, q_clr_r, q_clr_n, q_clr_0, q_clr_l, q_cv_i, q_cv_l, q_cv_r, q_rv_s, q_rv_n, q_toL_s, q_toL_n, true_and, and_true, Nat.reduceAdd, s33, s34, s35, s36, s37, s38, s39, s40, s41, s42, s43, s44, s45, s46, r33_3, r33_4, r33_6, r33_7, r33_8, r33_10, r33_11, r33_12, r33_13, r33_15, r33_16, r33_18, r33_19]
        refine call_ro (c_of hs (p := 4) hk60 (by decide)) (by decide) rfl (Nat.le_refl _) (Nat.le_refl _) ?_
        simp only [↓q_nil, ↓q_iconst, ↓q_bipush, ↓q_sipush, ↓q_ldc, ↓q_lconst, ↓q_ldc2, ↓q_null, ↓q_iload, ↓q_iload_n, ↓q_lload, ↓q_lload_n, ↓q_aload, ↓q_aload_n, ↓q_istore, ↓q_istore_n, ↓q_lstore, ↓q_lstore_n, ↓q_astore, ↓q_astore_n, ↓q_iinc, ↓q_iadd, ↓q_isub, ↓q_imul, ↓q_iand, ↓q_idiv, ↓q_irem, ↓q_ineg, ↓q_ladd, ↓q_lsub, ↓q_lmul, ↓q_land, ↓q_ldiv, ↓q_lrem, ↓q_i2l, ↓q_l2i, ↓q_dup, ↓q_pop, ↓q_dup2, ↓q_dup_x1, ↓q_goto, ↓q_if_eq, ↓q_if_ne, ↓q_if_lt, ↓q_if_ge, ↓q_if_gt, ↓q_if_le, ↓q_icmp_eq, ↓q_icmp_ne, ↓q_icmp_lt, ↓q_icmp_ge, ↓q_icmp_gt, ↓q_icmp_le, ↓q_ifnullN, ↓q_ifnull, ↓q_ifnonnullN, ↓q_ifnonnull, ↓q_table, ↓q_lookup, ↓q_getf, ↓q_putI, ↓q_putJ, ↓q_putR, ↓q_iald, ↓q_sld, ↓q_slen, ↓q_alen, ↓q_iast, ↓q_bald, ↓q_bast, ↓q_aald, ↓q_aast, ↓q_newa, ↓q_newq, ↓q_new, ↓q_objInit, ↓q_max, ↓q_min, ↓q_copy, ↓q_callS0, ↓q_callV0, ↓q_callI0, ↓q_callS1, ↓q_callV1, ↓q_callI1, ↓q_callS2, ↓q_callV2, ↓q_callI2, ↓q_callS3, ↓q_callV3, ↓q_callI3, ↓q_callS4, ↓q_callV4, ↓q_callI4, ↓q_callS5, ↓q_callV5, ↓q_callI5, ↓q_callS6, ↓q_callV6, ↓q_callI6, ↓q_callS7, ↓q_callV7, ↓q_callI7, ↓q_callS8, ↓q_callV8, ↓q_callI8, ↓q_iret, ↓q_lret, ↓q_vret, q_e_i_int, q_e_l_long, q_e_a_ref, q_e_a_null, q_cat_int, q_cat_ref, q_cat_null, q_cat_long, q_na_int, q_lgt_z, q_lgt_s, q_lst0, q_lst1, q_lstS, q_lst20, q_lst21, q_lst2S, q_clr_i, q_clr_r, q_clr_n, q_clr_0, q_clr_l, q_cv_i, q_cv_l, q_cv_r, q_rv_s, q_rv_n, q_toL_s, q_toL_n, true_and, and_true, Nat.reduceAdd, s33, s34, s35, s36, s37, s38, s39, s40, s41, s42, s43, s44, s45, s46, r33_3, r33_4, r33_6, r33_7, r33_8, r33_10, r33_11, r33_12, r33_13, r33_15, r33_16, r33_18, r33_19]
        refine ⟨fun hB => ?_, fun hB => ?_⟩
        · refine go_wp B_M_mayGo_142_ok ?_; simp only [B_M_mayGo_142, ↓q_nil, ↓q_iconst, ↓q_bipush, ↓q_sipush, ↓q_ldc, ↓q_lconst, ↓q_ldc2, ↓q_null, ↓q_iload, ↓q_iload_n, ↓q_lload, ↓q_lload_n, ↓q_aload, ↓q_aload_n, ↓q_istore, ↓q_istore_n, ↓q_lstore, ↓q_lstore_n, ↓q_astore, ↓q_astore_n, ↓q_iinc, ↓q_iadd, ↓q_isub, ↓q_imul, ↓q_iand, ↓q_idiv, ↓q_irem, ↓q_ineg, ↓q_ladd, ↓q_lsub, ↓q_lmul, ↓q_land, ↓q_ldiv, ↓q_lrem, ↓q_i2l, ↓q_l2i, ↓q_dup, ↓q_pop, ↓q_dup2, ↓q_dup_x1, ↓q_goto, ↓q_if_eq, ↓q_if_ne, ↓q_if_lt, ↓q_if_ge, ↓q_if_gt, ↓q_if_le, ↓q_icmp_eq, ↓q_icmp_ne, ↓q_icmp_lt, ↓q_icmp_ge, ↓q_icmp_gt, ↓q_icmp_le, ↓q_ifnullN, ↓q_ifnull, ↓q_ifnonnullN, ↓q_ifnonnull, ↓q_table, ↓q_lookup, ↓q_getf, ↓q_putI, ↓q_putJ, ↓q_putR, ↓q_iald, ↓q_sld, ↓q_slen, ↓q_alen, ↓q_iast, ↓q_bald, ↓q_bast, ↓q_aald, ↓q_aast, ↓q_newa, ↓q_newq, ↓q_new, ↓q_objInit, ↓q_max, ↓q_min, ↓q_copy, ↓q_callS0, ↓q_callV0, ↓q_callI0, ↓q_callS1, ↓q_callV1, ↓q_callI1, ↓q_callS2, ↓q_callV2, ↓q_callI2, ↓q_callS3, ↓q_callV3, ↓q_callI3, ↓q_callS4, ↓q_callV4, ↓q_callI4, ↓q_callS5, ↓q_callV5, ↓q_callI5, ↓q_callS6, ↓q_callV6, ↓q_callI6, ↓q_callS7, ↓q_callV7, ↓q_callI7, ↓q_callS8, ↓q_callV8, ↓q_callI8, ↓q_iret, ↓q_lret, ↓q_vret, q_e_i_int, q_e_l_long, q_e_a_ref, q_e_a_null, q_cat_int, q_cat_ref, q_cat_null, q_cat_long, q_na_int, q_lgt_z, q_lgt_s, q_lst0, q_lst1, q_lstS, q_lst20, q_lst21, q_lst2S, q_clr_i, q_clr_r, q_clr_n, q_clr_0, q_clr_l, q_cv_i, q_cv_l, q_cv_r, q_rv_s, q_rv_n, q_toL_s, q_toL_n, true_and, and_true, Nat.reduceAdd, s33, s34, s35, s36, s37, s38, s39, s40, s41, s42, s43, s44, s45, s46, r33_3, r33_4, r33_6, r33_7, r33_8, r33_10, r33_11, r33_12, r33_13, r33_15, r33_16, r33_18, r33_19]
          refine ⟨fun _ => ⟨fun h => absurd h (by decide), fun _ => hbad ⟨hon, Or.inr ⟨hA, hB⟩⟩ _ _ _⟩, fun h => by first | exact absurd rfl h | exact absurd trivial h⟩
        · refine go_wp B_M_mayGo_141_ok ?_; simp only [B_M_mayGo_141, ↓q_nil, ↓q_iconst, ↓q_bipush, ↓q_sipush, ↓q_ldc, ↓q_lconst, ↓q_ldc2, ↓q_null, ↓q_iload, ↓q_iload_n, ↓q_lload, ↓q_lload_n, ↓q_aload, ↓q_aload_n, ↓q_istore, ↓q_istore_n, ↓q_lstore, ↓q_lstore_n, ↓q_astore, ↓q_astore_n, ↓q_iinc, ↓q_iadd, ↓q_isub, ↓q_imul, ↓q_iand, ↓q_idiv, ↓q_irem, ↓q_ineg, ↓q_ladd, ↓q_lsub, ↓q_lmul, ↓q_land, ↓q_ldiv, ↓q_lrem, ↓q_i2l, ↓q_l2i, ↓q_dup, ↓q_pop, ↓q_dup2, ↓q_dup_x1, ↓q_goto, ↓q_if_eq, ↓q_if_ne, ↓q_if_lt, ↓q_if_ge, ↓q_if_gt, ↓q_if_le, ↓q_icmp_eq, ↓q_icmp_ne, ↓q_icmp_lt, ↓q_icmp_ge, ↓q_icmp_gt, ↓q_icmp_le, ↓q_ifnullN, ↓q_ifnull, ↓q_ifnonnullN, ↓q_ifnonnull, ↓q_table, ↓q_lookup, ↓q_getf, ↓q_putI, ↓q_putJ, ↓q_putR, ↓q_iald, ↓q_sld, ↓q_slen, ↓q_alen, ↓q_iast, ↓q_bald, ↓q_bast, ↓q_aald, ↓q_aast, ↓q_newa, ↓q_newq, ↓q_new, ↓q_objInit, ↓q_max, ↓q_min, ↓q_copy, ↓q_callS0, ↓q_callV0, ↓q_callI0, ↓q_callS1, ↓q_callV1, ↓q_callI1, ↓q_callS2, ↓q_callV2, ↓q_callI2, ↓q_callS3, ↓q_callV3, ↓q_callI3, ↓q_callS4, ↓q_callV4, ↓q_callI4, ↓q_callS5, ↓q_callV5, ↓q_callI5, ↓q_callS6, ↓q_callV6, ↓q_callI6, ↓q_callS7, ↓q_callV7, ↓q_callI7, ↓q_callS8, ↓q_callV8, ↓q_callI8, ↓q_iret, ↓q_lret, ↓q_vret, q_e_i_int, q_e_l_long, q_e_a_ref, q_e_a_null, q_cat_int, q_cat_ref, q_cat_null, q_cat_long, q_na_int, q_lgt_z, q_lgt_s, q_lst0, q_lst1, q_lstS, q_lst20, q_lst21, q_lst2S, q_clr_i, q_clr_r, q_clr_n, q_clr_0, q_clr_l, q_cv_i, q_cv_l, q_cv_r, q_rv_s, q_rv_n, q_toL_s, q_toL_n, true_and, and_true, Nat.reduceAdd, s33, s34, s35, s36, s37, s38, s39, s40, s41, s42, s43, s44, s45, s46, r33_3, r33_4, r33_6, r33_7, r33_8, r33_10, r33_11, r33_12, r33_13, r33_15, r33_16, r33_18, r33_19]
          refine go_wp B_M_mayGo_142_ok ?_; simp only [B_M_mayGo_142, ↓q_nil, ↓q_iconst, ↓q_bipush, ↓q_sipush, ↓q_ldc, ↓q_lconst, ↓q_ldc2, ↓q_null, ↓q_iload, ↓q_iload_n, ↓q_lload, ↓q_lload_n, ↓q_aload, ↓q_aload_n, ↓q_istore, ↓q_istore_n, ↓q_lstore, ↓q_lstore_n, ↓q_astore, ↓q_astore_n, ↓q_iinc, ↓q_iadd, ↓q_isub, ↓q_imul, ↓q_iand, ↓q_idiv, ↓q_irem, ↓q_ineg, ↓q_ladd, ↓q_lsub, ↓q_lmul, ↓q_land, ↓q_ldiv, ↓q_lrem, ↓q_i2l, ↓q_l2i, ↓q_dup, ↓q_pop, ↓q_dup2, ↓q_dup_x1, ↓q_goto, ↓q_if_eq, ↓q_if_ne, ↓q_if_lt, ↓q_if_ge, ↓q_if_gt, ↓q_if_le, ↓q_icmp_eq, ↓q_icmp_ne, ↓q_icmp_lt, ↓q_icmp_ge, ↓q_icmp_gt, ↓q_icmp_le, ↓q_ifnullN, ↓q_ifnull, ↓q_ifnonnullN, ↓q_ifnonnull, ↓q_table, ↓q_lookup, ↓q_getf, ↓q_putI, ↓q_putJ, ↓q_putR, ↓q_iald, ↓q_sld, ↓q_slen, ↓q_alen, ↓q_iast, ↓q_bald, ↓q_bast, ↓q_aald, ↓q_aast, ↓q_newa, ↓q_newq, ↓q_new, ↓q_objInit, ↓q_max, ↓q_min, ↓q_copy, ↓q_callS0, ↓q_callV0, ↓q_callI0, ↓q_callS1, ↓q_callV1, ↓q_callI1, ↓q_callS2, ↓q_callV2, ↓q_callI2, ↓q_callS3, ↓q_callV3, ↓q_callI3, ↓q_callS4, ↓q_callV4, ↓q_callI4, ↓q_callS5, ↓q_callV5, ↓q_callI5, ↓q_callS6, ↓q_callV6, ↓q_callI6, ↓q_callS7, ↓q_callV7, ↓q_callI7, ↓q_callS8, ↓q_callV8, ↓q_callI8, ↓q_iret, ↓q_lret, ↓q_vret, q_e_i_int, q_e_l_long, q_e_a_ref, q_e_a_null, q_cat_int, q_cat_ref, q_cat_null, q_cat_long, q_na_int, q_lgt_z, q_lgt_s, q_lst0, q_lst1, q_lstS, q_lst20, q_lst21, q_lst2S, q_clr_i, q_clr_r, q_clr_n, q_clr_0, q_clr_l, q_cv_i, q_cv_l, q_cv_r, q_rv_s, q_rv_n, q_toL_s, q_toL_n, true_and, and_true, Nat.reduceAdd, s33, s34, s35, s36, s37, s38, s39, s40, s41, s42, s43, s44, s45, s46, r33_3, r33_4, r33_6, r33_7, r33_8, r33_10, r33_11, r33_12, r33_13, r33_15, r33_16, r33_18, r33_19]
          refine ⟨fun _ => ⟨fun _ => hok (fun q => ?_) _ _ _, fun h => by first | exact absurd rfl h | exact absurd trivial h⟩, fun h => by first | exact absurd rfl h | exact absurd trivial h⟩
          rcases q.2 with q | q
          · exact hA q.1
          · exact hB q.2
  refine go_wp B_M_mayGo_0_ok ?_; simp only [B_M_mayGo_0, ↓q_nil, ↓q_iconst, ↓q_bipush, ↓q_sipush, ↓q_ldc, ↓q_lconst, ↓q_ldc2, ↓q_null, ↓q_iload, ↓q_iload_n, ↓q_lload, ↓q_lload_n, ↓q_aload, ↓q_aload_n, ↓q_istore, ↓q_istore_n, ↓q_lstore, ↓q_lstore_n, ↓q_astore, ↓q_astore_n, ↓q_iinc, ↓q_iadd, ↓q_isub, ↓q_imul, ↓q_iand, ↓q_idiv, ↓q_irem, ↓q_ineg, ↓q_ladd, ↓q_lsub, ↓q_lmul, ↓q_land, ↓q_ldiv, ↓q_lrem, ↓q_i2l, ↓q_l2i, ↓q_dup, ↓q_pop, ↓q_dup2, ↓q_dup_x1, ↓q_goto, ↓q_if_eq, ↓q_if_ne, ↓q_if_lt, ↓q_if_ge, ↓q_if_gt, ↓q_if_le, ↓q_icmp_eq, ↓q_icmp_ne, ↓q_icmp_lt, ↓q_icmp_ge, ↓q_icmp_gt, ↓q_icmp_le, ↓q_ifnullN, ↓q_ifnull, ↓q_ifnonnullN, ↓q_ifnonnull, ↓q_table, ↓q_lookup, ↓q_getf, ↓q_putI, ↓q_putJ, ↓q_putR, ↓q_iald, ↓q_sld, ↓q_slen, ↓q_alen, ↓q_iast, ↓q_bald, ↓q_bast, ↓q_aald, ↓q_aast, ↓q_newa, ↓q_newq, ↓q_new, ↓q_objInit, ↓q_max, ↓q_min, ↓q_copy, ↓q_callS0, ↓q_callV0, ↓q_callI0, ↓q_callS1, ↓q_callV1, ↓q_callI1, ↓q_callS2, ↓q_callV2, ↓q_callI2, ↓q_callS3, ↓q_callV3, ↓q_callI3, ↓q_callS4, ↓q_callV4, ↓q_callI4, ↓q_callS5, ↓q_callV5, ↓q_callI5, ↓q_callS6, ↓q_callV6, ↓q_callI6, ↓q_callS7, ↓q_callV7, ↓q_callI7, ↓q_callS8, ↓q_callV8, ↓q_callI8, ↓q_iret, ↓q_lret, ↓q_vret, q_e_i_int, q_e_l_long, q_e_a_ref, q_e_a_null, q_cat_int, q_cat_ref, q_cat_null, q_cat_long, q_na_int, q_lgt_z, q_lgt_s, q_lst0, q_lst1, q_lstS, q_lst20, q_lst21, q_lst2S, q_clr_i, q_clr_r, q_clr_n, q_clr_0, q_clr_l, q_cv_i, q_cv_l, q_cv_r, q_rv_s, q_rv_n, q_toL_s, q_toL_n, true_and, and_true, Nat.reduceAdd, s33, s34, s35, s36, s37, s38, s39, s40, s41, s42, s43, s44, s45, s46, r33_3, r33_4, r33_6, r33_7, r33_8, r33_10, r33_11, r33_12, r33_13, r33_15, r33_16, r33_18, r33_19]
  refine call_ro (c_within) (by decide) rfl (Nat.le_refl _) (Nat.le_refl _) ?_
  simp only [↓q_nil, ↓q_iconst, ↓q_bipush, ↓q_sipush, ↓q_ldc, ↓q_lconst, ↓q_ldc2, ↓q_null, ↓q_iload, ↓q_iload_n, ↓q_lload, ↓q_lload_n, ↓q_aload, ↓q_aload_n, ↓q_istore, ↓q_istore_n, ↓q_lstore, ↓q_lstore_n, ↓q_astore, ↓q_astore_n, ↓q_iinc, ↓q_iadd, ↓q_isub, ↓q_imul, ↓q_iand, ↓q_idiv, ↓q_irem, ↓q_ineg, ↓q_ladd, ↓q_lsub, ↓q_lmul, ↓q_land, ↓q_ldiv, ↓q_lrem, ↓q_i2l, ↓q_l2i, ↓q_dup, ↓q_pop, ↓q_dup2, ↓q_dup_x1, ↓q_goto, ↓q_if_eq, ↓q_if_ne, ↓q_if_lt, ↓q_if_ge, ↓q_if_gt, ↓q_if_le, ↓q_icmp_eq, ↓q_icmp_ne, ↓q_icmp_lt, ↓q_icmp_ge, ↓q_icmp_gt, ↓q_icmp_le, ↓q_ifnullN, ↓q_ifnull, ↓q_ifnonnullN, ↓q_ifnonnull, ↓q_table, ↓q_lookup, ↓q_getf, ↓q_putI, ↓q_putJ, ↓q_putR, ↓q_iald, ↓q_sld, ↓q_slen, ↓q_alen, ↓q_iast, ↓q_bald, ↓q_bast, ↓q_aald, ↓q_aast, ↓q_newa, ↓q_newq, ↓q_new, ↓q_objInit, ↓q_max, ↓q_min, ↓q_copy, ↓q_callS0, ↓q_callV0, ↓q_callI0, ↓q_callS1, ↓q_callV1, ↓q_callI1, ↓q_callS2, ↓q_callV2, ↓q_callI2, ↓q_callS3, ↓q_callV3, ↓q_callI3, ↓q_callS4, ↓q_callV4, ↓q_callI4, ↓q_callS5, ↓q_callV5, ↓q_callI5, ↓q_callS6, ↓q_callV6, ↓q_callI6, ↓q_callS7, ↓q_callV7, ↓q_callI7, ↓q_callS8, ↓q_callV8, ↓q_callI8, ↓q_iret, ↓q_lret, ↓q_vret, q_e_i_int, q_e_l_long, q_e_a_ref, q_e_a_null, q_cat_int, q_cat_ref, q_cat_null, q_cat_long, q_na_int, q_lgt_z, q_lgt_s, q_lst0, q_lst1, q_lstS, q_lst20, q_lst21, q_lst2S, q_clr_i, q_clr_r, q_clr_n, q_clr_0, q_clr_l, q_cv_i, q_cv_l, q_cv_r, q_rv_s, q_rv_n, q_toL_s, q_toL_n, true_and, and_true, Nat.reduceAdd, s33, s34, s35, s36, s37, s38, s39, s40, s41, s42, s43, s44, s45, s46, r33_3, r33_4, r33_6, r33_7, r33_8, r33_10, r33_11, r33_12, r33_13, r33_15, r33_16, r33_18, r33_19]
  refine ⟨fun e => h28 (fun q => bI_eq e q.1), fun e => ?_⟩
  have hL := bI_ne e
  refine call_ro (c_gapIn hs hw ha) (by decide) rfl (Nat.le_refl _) (Nat.le_refl _) ?_
  simp only [↓q_nil, ↓q_iconst, ↓q_bipush, ↓q_sipush, ↓q_ldc, ↓q_lconst, ↓q_ldc2, ↓q_null, ↓q_iload, ↓q_iload_n, ↓q_lload, ↓q_lload_n, ↓q_aload, ↓q_aload_n, ↓q_istore, ↓q_istore_n, ↓q_lstore, ↓q_lstore_n, ↓q_astore, ↓q_astore_n, ↓q_iinc, ↓q_iadd, ↓q_isub, ↓q_imul, ↓q_iand, ↓q_idiv, ↓q_irem, ↓q_ineg, ↓q_ladd, ↓q_lsub, ↓q_lmul, ↓q_land, ↓q_ldiv, ↓q_lrem, ↓q_i2l, ↓q_l2i, ↓q_dup, ↓q_pop, ↓q_dup2, ↓q_dup_x1, ↓q_goto, ↓q_if_eq, ↓q_if_ne, ↓q_if_lt, ↓q_if_ge, ↓q_if_gt, ↓q_if_le, ↓q_icmp_eq, ↓q_icmp_ne, ↓q_icmp_lt, ↓q_icmp_ge, ↓q_icmp_gt, ↓q_icmp_le, ↓q_ifnullN, ↓q_ifnull, ↓q_ifnonnullN, ↓q_ifnonnull, ↓q_table, ↓q_lookup, ↓q_getf, ↓q_putI, ↓q_putJ, ↓q_putR, ↓q_iald, ↓q_sld, ↓q_slen, ↓q_alen, ↓q_iast, ↓q_bald, ↓q_bast, ↓q_aald, ↓q_aast, ↓q_newa, ↓q_newq, ↓q_new, ↓q_objInit, ↓q_max, ↓q_min, ↓q_copy, ↓q_callS0, ↓q_callV0, ↓q_callI0, ↓q_callS1, ↓q_callV1, ↓q_callI1, ↓q_callS2, ↓q_callV2, ↓q_callI2, ↓q_callS3, ↓q_callV3, ↓q_callI3, ↓q_callS4, ↓q_callV4, ↓q_callI4, ↓q_callS5, ↓q_callV5, ↓q_callI5, ↓q_callS6, ↓q_callV6, ↓q_callI6, ↓q_callS7, ↓q_callV7, ↓q_callI7, ↓q_callS8, ↓q_callV8, ↓q_callI8, ↓q_iret, ↓q_lret, ↓q_vret, q_e_i_int, q_e_l_long, q_e_a_ref, q_e_a_null, q_cat_int, q_cat_ref, q_cat_null, q_cat_long, q_na_int, q_lgt_z, q_lgt_s, q_lst0, q_lst1, q_lstS, q_lst20, q_lst21, q_lst2S, q_clr_i, q_clr_r, q_clr_n, q_clr_0, q_clr_l, q_cv_i, q_cv_l, q_cv_r, q_rv_s, q_rv_n, q_toL_s, q_toL_n, true_and, and_true, Nat.reduceAdd, s33, s34, s35, s36, s37, s38, s39, s40, s41, s42, s43, s44, s45, s46, r33_3, r33_4, r33_6, r33_7, r33_8, r33_10, r33_11, r33_12, r33_13, r33_15, r33_16, r33_18, r33_19]
  refine ⟨fun e2 => h28 (fun q => q.2.1 e2), fun e2 => ?_⟩
  refine go_wp B_M_mayGo_30_ok ?_; simp only [B_M_mayGo_30, ↓q_nil, ↓q_iconst, ↓q_bipush, ↓q_sipush, ↓q_ldc, ↓q_lconst, ↓q_ldc2, ↓q_null, ↓q_iload, ↓q_iload_n, ↓q_lload, ↓q_lload_n, ↓q_aload, ↓q_aload_n, ↓q_istore, ↓q_istore_n, ↓q_lstore, ↓q_lstore_n, ↓q_astore, ↓q_astore_n, ↓q_iinc, ↓q_iadd, ↓q_isub, ↓q_imul, ↓q_iand, ↓q_idiv, ↓q_irem, ↓q_ineg, ↓q_ladd, ↓q_lsub, ↓q_lmul, ↓q_land, ↓q_ldiv, ↓q_lrem, ↓q_i2l, ↓q_l2i, ↓q_dup, ↓q_pop, ↓q_dup2, ↓q_dup_x1, ↓q_goto, ↓q_if_eq, ↓q_if_ne, ↓q_if_lt, ↓q_if_ge, ↓q_if_gt, ↓q_if_le, ↓q_icmp_eq, ↓q_icmp_ne, ↓q_icmp_lt, ↓q_icmp_ge, ↓q_icmp_gt, ↓q_icmp_le, ↓q_ifnullN, ↓q_ifnull, ↓q_ifnonnullN, ↓q_ifnonnull, ↓q_table, ↓q_lookup, ↓q_getf, ↓q_putI, ↓q_putJ, ↓q_putR, ↓q_iald, ↓q_sld, ↓q_slen, ↓q_alen, ↓q_iast, ↓q_bald, ↓q_bast, ↓q_aald, ↓q_aast, ↓q_newa, ↓q_newq, ↓q_new, ↓q_objInit, ↓q_max, ↓q_min, ↓q_copy, ↓q_callS0, ↓q_callV0, ↓q_callI0, ↓q_callS1, ↓q_callV1, ↓q_callI1, ↓q_callS2, ↓q_callV2, ↓q_callI2, ↓q_callS3, ↓q_callV3, ↓q_callI3, ↓q_callS4, ↓q_callV4, ↓q_callI4, ↓q_callS5, ↓q_callV5, ↓q_callI5, ↓q_callS6, ↓q_callV6, ↓q_callI6, ↓q_callS7, ↓q_callV7, ↓q_callI7, ↓q_callS8, ↓q_callV8, ↓q_callI8, ↓q_iret, ↓q_lret, ↓q_vret, q_e_i_int, q_e_l_long, q_e_a_ref, q_e_a_null, q_cat_int, q_cat_ref, q_cat_null, q_cat_long, q_na_int, q_lgt_z, q_lgt_s, q_lst0, q_lst1, q_lstS, q_lst20, q_lst21, q_lst2S, q_clr_i, q_clr_r, q_clr_n, q_clr_0, q_clr_l, q_cv_i, q_cv_l, q_cv_r, q_rv_s, q_rv_n, q_toL_s, q_toL_n, true_and, and_true, Nat.reduceAdd, s33, s34, s35, s36, s37, s38, s39, s40, s41, s42, s43, s44, s45, s46, r33_3, r33_4, r33_6, r33_7, r33_8, r33_10, r33_11, r33_12, r33_13, r33_15, r33_16, r33_18, r33_19]
  exact h33 hL e2 _ _ _
set_option maxRecDepth 100000 in set_option maxHeartbeats 4000000 in
theorem c_change (hs : ShM S R) {N nl nc ns nn a : Nat} (hw : MW I N nl nc ns nn) (ha : a < 60) : Cn g M_M_change 5 0 0 [.ref (gB g + 33), .int (nI a)] (n, z, S, I, J, R) (Is none (n, z, S, m_chg I N nl nc ns a, J, R)) := by
  have hs' := hs; obtain ⟨⟨s33, s34, s35, s36, s37, s38, s39, s40, s41, s42, s43, s44, s45, s46⟩, r33_3, r33_4, r33_6, r33_7, r33_8, r33_10, r33_11, r33_12, r33_13, r33_15, r33_16, r33_18, r33_19⟩ := hs'
  refine cn_go (ls := [some (.ref (gB g + 33)), some (.int (nI a)), none, none, none]) kc_M_change (by decide) rfl rfl ?_
  generalize hQ : Is none (n, z, S, m_chg I N nl nc ns a, J, R) = Q
  rw [m_chg] at hQ
  have h27 : ¬ (pt (I 34) 2 a = 1 ∧ 30 < I 34 1 - pt (I 34) 7 a) → Go (g, M_M_change, 5, n, z, 0, 0, Q) 27 [some (.ref (gB g + 33)), some (.int (nI a)), none, none, none] [] (n, z, S, I, J, R) := by
    intro h
    rw [if_neg (fun q => h q.1)] at hQ
    refine go_wp B_M_change_27_ok ?_; simp only [B_M_change_27, ↓q_nil, ↓q_iconst, ↓q_bipush, ↓q_sipush, ↓q_ldc, ↓q_lconst, ↓q_ldc2, ↓q_null, ↓q_iload, ↓q_iload_n, ↓q_lload, ↓q_lload_n, ↓q_aload, ↓q_aload_n, ↓q_istore, ↓q_istore_n, ↓q_lstore, ↓q_lstore_n, ↓q_astore, ↓q_astore_n, ↓q_iinc, ↓q_iadd, ↓q_isub, ↓q_imul, ↓q_iand, ↓q_idiv, ↓q_irem, ↓q_ineg, ↓q_ladd, ↓q_lsub, ↓q_lmul, ↓q_land, ↓q_ldiv, ↓q_lrem, ↓q_i2l, ↓q_l2i, ↓q_dup, ↓q_pop, ↓q_dup2, ↓q_dup_x1, ↓q_goto, ↓q_if_eq, ↓q_if_ne, ↓q_if_lt, ↓q_if_ge, ↓q_if_gt, ↓q_if_le, ↓q_icmp_eq, ↓q_icmp_ne, ↓q_icmp_lt, ↓q_icmp_ge, ↓q_icmp_gt, ↓q_icmp_le, ↓q_ifnullN, ↓q_ifnull, ↓q_ifnonnullN, ↓q_ifnonnull, ↓q_table, ↓q_lookup, ↓q_getf, ↓q_putI, ↓q_putJ, ↓q_putR, ↓q_iald, ↓q_sld, ↓q_slen, ↓q_alen, ↓q_iast, ↓q_bald, ↓q_bast, ↓q_aald, ↓q_aast, ↓q_newa, ↓q_newq, ↓q_new, ↓q_objInit, ↓q_max, ↓q_min, ↓q_copy, ↓q_callS0, ↓q_callV0, ↓q_callI0, ↓q_callS1, ↓q_callV1, ↓q_callI1, ↓q_callS2, ↓q_callV2, ↓q_callI2, ↓q_callS3, ↓q_callV3, ↓q_callI3, ↓q_callS4, ↓q_callV4, ↓q_callI4, ↓q_callS5, ↓q_callV5, ↓q_callI5, ↓q_callS6, ↓q_callV6, ↓q_callI6, ↓q_callS7, ↓q_callV7, ↓q_callI7, ↓q_callS8, ↓q_callV8, ↓q_callI8, ↓q_iret, ↓q_lret, ↓q_vret, q_e_i_int, q_e_l_long, q_e_a_ref, q_e_a_null, q_cat_int, q_cat_ref, q_cat_null, q_cat_long, q_na_int, q_lgt_z, q_lgt_s, q_lst0, q_lst1, q_lstS, q_lst20, q_lst21, q_lst2S, q_clr_i, q_clr_r, q_clr_n, q_clr_0, q_clr_l, q_cv_i, q_cv_l, q_cv_r, q_rv_s, q_rv_n, q_toL_s, q_toL_n, true_and, and_true, Nat.reduceAdd, s33, s34, s35, s36, s37, s38, s39, s40, s41, s42, s43, s44, s45, s46, r33_3, r33_4, r33_6, r33_7, r33_8, r33_10, r33_11, r33_12, r33_13, r33_15, r33_16, r33_18, r33_19]
    rw [← hQ]
    exact ⟨rfl, rfl, rfl, rfl⟩
  refine go_wp B_M_change_0_ok ?_; simp only [B_M_change_0, ↓q_nil, ↓q_iconst, ↓q_bipush, ↓q_sipush, ↓q_ldc, ↓q_lconst, ↓q_ldc2, ↓q_null, ↓q_iload, ↓q_iload_n, ↓q_lload, ↓q_lload_n, ↓q_aload, ↓q_aload_n, ↓q_istore, ↓q_istore_n, ↓q_lstore, ↓q_lstore_n, ↓q_astore, ↓q_astore_n, ↓q_iinc, ↓q_iadd, ↓q_isub, ↓q_imul, ↓q_iand, ↓q_idiv, ↓q_irem, ↓q_ineg, ↓q_ladd, ↓q_lsub, ↓q_lmul, ↓q_land, ↓q_ldiv, ↓q_lrem, ↓q_i2l, ↓q_l2i, ↓q_dup, ↓q_pop, ↓q_dup2, ↓q_dup_x1, ↓q_goto, ↓q_if_eq, ↓q_if_ne, ↓q_if_lt, ↓q_if_ge, ↓q_if_gt, ↓q_if_le, ↓q_icmp_eq, ↓q_icmp_ne, ↓q_icmp_lt, ↓q_icmp_ge, ↓q_icmp_gt, ↓q_icmp_le, ↓q_ifnullN, ↓q_ifnull, ↓q_ifnonnullN, ↓q_ifnonnull, ↓q_table, ↓q_lookup, ↓q_getf, ↓q_putI, ↓q_putJ, ↓q_putR, ↓q_iald, ↓q_sld, ↓q_slen, ↓q_alen, ↓q_iast, ↓q_bald, ↓q_bast, ↓q_aald, ↓q_aast, ↓q_newa, ↓q_newq, ↓q_new, ↓q_objInit, ↓q_max, ↓q_min, ↓q_copy, ↓q_callS0, ↓q_callV0, ↓q_callI0, ↓q_callS1, ↓q_callV1, ↓q_callI1, ↓q_callS2, ↓q_callV2, ↓q_callI2, ↓q_callS3, ↓q_callV3, ↓q_callI3, ↓q_callS4, ↓q_callV4, ↓q_callI4, ↓q_callS5, ↓q_callV5, ↓q_callI5, ↓q_callS6, ↓q_callV6, ↓q_callI6, ↓q_callS7, ↓q_callV7, ↓q_callI7, ↓q_callS8, ↓q_callV8, ↓q_callI8, ↓q_iret, ↓q_lret, ↓q_vret, q_e_i_int, q_e_l_long, q_e_a_ref, q_e_a_null, q_cat_int, q_cat_ref, q_cat_null, q_cat_long, q_na_int, q_lgt_z, q_lgt_s, q_lst0, q_lst1, q_lstS, q_lst20, q_lst21, q_lst2S, q_clr_i, q_clr_r, q_clr_n, q_clr_0, q_clr_l, q_cv_i, q_cv_l, q_cv_r, q_rv_s, q_rv_n, q_toL_s, q_toL_n, true_and, and_true, Nat.reduceAdd, s33, s34, s35, s36, s37, s38, s39, s40, s41, s42, s43, s44, s45, s46, r33_3, r33_4, r33_6, r33_7, r33_8, r33_10, r33_11, r33_12, r33_13, r33_15, r33_16, r33_18, r33_19]
  refine call_ro (c_of hs (p := 2) ha (by decide)) (by decide) rfl (Nat.le_refl _) (Nat.le_refl _) ?_
  simp only [↓q_nil, ↓q_iconst, ↓q_bipush, ↓q_sipush, ↓q_ldc, ↓q_lconst, ↓q_ldc2, ↓q_null, ↓q_iload, ↓q_iload_n, ↓q_lload, ↓q_lload_n, ↓q_aload, ↓q_aload_n, ↓q_istore, ↓q_istore_n, ↓q_lstore, ↓q_lstore_n, ↓q_astore, ↓q_astore_n, ↓q_iinc, ↓q_iadd, ↓q_isub, ↓q_imul, ↓q_iand, ↓q_idiv, ↓q_irem, ↓q_ineg, ↓q_ladd, ↓q_lsub, ↓q_lmul, ↓q_land, ↓q_ldiv, ↓q_lrem, ↓q_i2l, ↓q_l2i, ↓q_dup, ↓q_pop, ↓q_dup2, ↓q_dup_x1, ↓q_goto, ↓q_if_eq, ↓q_if_ne, ↓q_if_lt, ↓q_if_ge, ↓q_if_gt, ↓q_if_le, ↓q_icmp_eq, ↓q_icmp_ne, ↓q_icmp_lt, ↓q_icmp_ge, ↓q_icmp_gt, ↓q_icmp_le, ↓q_ifnullN, ↓q_ifnull, ↓q_ifnonnullN, ↓q_ifnonnull, ↓q_table, ↓q_lookup, ↓q_getf, ↓q_putI, ↓q_putJ, ↓q_putR, ↓q_iald, ↓q_sld, ↓q_slen, ↓q_alen, ↓q_iast, ↓q_bald, ↓q_bast, ↓q_aald, ↓q_aast, ↓q_newa, ↓q_newq, ↓q_new, ↓q_objInit, ↓q_max, ↓q_min, ↓q_copy, ↓q_callS0, ↓q_callV0, ↓q_callI0, ↓q_callS1, ↓q_callV1, ↓q_callI1, ↓q_callS2, ↓q_callV2, ↓q_callI2, ↓q_callS3, ↓q_callV3, ↓q_callI3, ↓q_callS4, ↓q_callV4, ↓q_callI4, ↓q_callS5, ↓q_callV5, ↓q_callI5, ↓q_callS6, ↓q_callV6, ↓q_callI6, ↓q_callS7, ↓q_callV7, ↓q_callI7, ↓q_callS8, ↓q_callV8, ↓q_callI8, ↓q_iret, ↓q_lret, ↓q_vret, q_e_i_int, q_e_l_long, q_e_a_ref, q_e_a_null, q_cat_int, q_cat_ref, q_cat_null, q_cat_long, q_na_int, q_lgt_z, q_lgt_s, q_lst0, q_lst1, q_lstS, q_lst20, q_lst21, q_lst2S, q_clr_i, q_clr_r, q_clr_n, q_clr_0, q_clr_l, q_cv_i, q_cv_l, q_cv_r, q_rv_s, q_rv_n, q_toL_s, q_toL_n, true_and, and_true, Nat.reduceAdd, s33, s34, s35, s36, s37, s38, s39, s40, s41, s42, s43, s44, s45, s46, r33_3, r33_4, r33_6, r33_7, r33_8, r33_10, r33_11, r33_12, r33_13, r33_15, r33_16, r33_18, r33_19]
  refine ⟨fun e1 => ?_, fun e1 => h27 (fun q => e1 q.1)⟩
  refine call_ro (c_now hs) (by decide) rfl (Nat.le_refl _) (Nat.le_refl _) ?_
  simp only [↓q_nil, ↓q_iconst, ↓q_bipush, ↓q_sipush, ↓q_ldc, ↓q_lconst, ↓q_ldc2, ↓q_null, ↓q_iload, ↓q_iload_n, ↓q_lload, ↓q_lload_n, ↓q_aload, ↓q_aload_n, ↓q_istore, ↓q_istore_n, ↓q_lstore, ↓q_lstore_n, ↓q_astore, ↓q_astore_n, ↓q_iinc, ↓q_iadd, ↓q_isub, ↓q_imul, ↓q_iand, ↓q_idiv, ↓q_irem, ↓q_ineg, ↓q_ladd, ↓q_lsub, ↓q_lmul, ↓q_land, ↓q_ldiv, ↓q_lrem, ↓q_i2l, ↓q_l2i, ↓q_dup, ↓q_pop, ↓q_dup2, ↓q_dup_x1, ↓q_goto, ↓q_if_eq, ↓q_if_ne, ↓q_if_lt, ↓q_if_ge, ↓q_if_gt, ↓q_if_le, ↓q_icmp_eq, ↓q_icmp_ne, ↓q_icmp_lt, ↓q_icmp_ge, ↓q_icmp_gt, ↓q_icmp_le, ↓q_ifnullN, ↓q_ifnull, ↓q_ifnonnullN, ↓q_ifnonnull, ↓q_table, ↓q_lookup, ↓q_getf, ↓q_putI, ↓q_putJ, ↓q_putR, ↓q_iald, ↓q_sld, ↓q_slen, ↓q_alen, ↓q_iast, ↓q_bald, ↓q_bast, ↓q_aald, ↓q_aast, ↓q_newa, ↓q_newq, ↓q_new, ↓q_objInit, ↓q_max, ↓q_min, ↓q_copy, ↓q_callS0, ↓q_callV0, ↓q_callI0, ↓q_callS1, ↓q_callV1, ↓q_callI1, ↓q_callS2, ↓q_callV2, ↓q_callI2, ↓q_callS3, ↓q_callV3, ↓q_callI3, ↓q_callS4, ↓q_callV4, ↓q_callI4, ↓q_callS5, ↓q_callV5, ↓q_callI5, ↓q_callS6, ↓q_callV6, ↓q_callI6, ↓q_callS7, ↓q_callV7, ↓q_callI7, ↓q_callS8, ↓q_callV8, ↓q_callI8, ↓q_iret, ↓q_lret, ↓q_vret, q_e_i_int, q_e_l_long, q_e_a_ref, q_e_a_null, q_cat_int, q_cat_ref, q_cat_null, q_cat_long, q_na_int, q_lgt_z, q_lgt_s, q_lst0, q_lst1, q_lstS, q_lst20, q_lst21, q_lst2S, q_clr_i, q_clr_r, q_clr_n, q_clr_0, q_clr_l, q_cv_i, q_cv_l, q_cv_r, q_rv_s, q_rv_n, q_toL_s, q_toL_n, true_and, and_true, Nat.reduceAdd, s33, s34, s35, s36, s37, s38, s39, s40, s41, s42, s43, s44, s45, s46, r33_3, r33_4, r33_6, r33_7, r33_8, r33_10, r33_11, r33_12, r33_13, r33_15, r33_16, r33_18, r33_19]
  refine call_ro (c_of hs (p := 7) ha (by decide)) (by decide) rfl (Nat.le_refl _) (Nat.le_refl _) ?_
  simp only [↓q_nil, ↓q_iconst, ↓q_bipush, ↓q_sipush, ↓q_ldc, ↓q_lconst, ↓q_ldc2, ↓q_null, ↓q_iload, ↓q_iload_n, ↓q_lload, ↓q_lload_n, ↓q_aload, ↓q_aload_n, ↓q_istore, ↓q_istore_n, ↓q_lstore, ↓q_lstore_n, ↓q_astore, ↓q_astore_n, ↓q_iinc, ↓q_iadd, ↓q_isub, ↓q_imul, ↓q_iand, ↓q_idiv, ↓q_irem, ↓q_ineg, ↓q_ladd, ↓q_lsub, ↓q_lmul, ↓q_land, ↓q_ldiv, ↓q_lrem, ↓q_i2l, ↓q_l2i, ↓q_dup, ↓q_pop, ↓q_dup2, ↓q_dup_x1, ↓q_goto, ↓q_if_eq, ↓q_if_ne, ↓q_if_lt, ↓q_if_ge, ↓q_if_gt, ↓q_if_le, ↓q_icmp_eq, ↓q_icmp_ne, ↓q_icmp_lt, ↓q_icmp_ge, ↓q_icmp_gt, ↓q_icmp_le, ↓q_ifnullN, ↓q_ifnull, ↓q_ifnonnullN, ↓q_ifnonnull, ↓q_table, ↓q_lookup, ↓q_getf, ↓q_putI, ↓q_putJ, ↓q_putR, ↓q_iald, ↓q_sld, ↓q_slen, ↓q_alen, ↓q_iast, ↓q_bald, ↓q_bast, ↓q_aald, ↓q_aast, ↓q_newa, ↓q_newq, ↓q_new, ↓q_objInit, ↓q_max, ↓q_min, ↓q_copy, ↓q_callS0, ↓q_callV0, ↓q_callI0, ↓q_callS1, ↓q_callV1, ↓q_callI1, ↓q_callS2, ↓q_callV2, ↓q_callI2, ↓q_callS3, ↓q_callV3, ↓q_callI3, ↓q_callS4, ↓q_callV4, ↓q_callI4, ↓q_callS5, ↓q_callV5, ↓q_callI5, ↓q_callS6, ↓q_callV6, ↓q_callI6, ↓q_callS7, ↓q_callV7, ↓q_callI7, ↓q_callS8, ↓q_callV8, ↓q_callI8, ↓q_iret, ↓q_lret, ↓q_vret, q_e_i_int, q_e_l_long, q_e_a_ref, q_e_a_null, q_cat_int, q_cat_ref, q_cat_null, q_cat_long, q_na_int, q_lgt_z, q_lgt_s, q_lst0, q_lst1, q_lstS, q_lst20, q_lst21, q_lst2S, q_clr_i, q_clr_r, q_clr_n, q_clr_0, q_clr_l, q_cv_i, q_cv_l, q_cv_r, q_rv_s, q_rv_n, q_toL_s, q_toL_n, true_and, and_true, Nat.reduceAdd, s33, s34, s35, s36, s37, s38, s39, s40, s41, s42, s43, s44, s45, s46, r33_3, r33_4, r33_6, r33_7, r33_8, r33_10, r33_11, r33_12, r33_13, r33_15, r33_16, r33_18, r33_19]
  refine ⟨fun e2 => ?_, fun e2 => h27 (fun q => e2 q.2)⟩
  refine go_wp B_M_change_28_ok ?_; simp only [B_M_change_28, ↓q_nil, ↓q_iconst, ↓q_bipush, ↓q_sipush, ↓q_ldc, ↓q_lconst, ↓q_ldc2, ↓q_null, ↓q_iload, ↓q_iload_n, ↓q_lload, ↓q_lload_n, ↓q_aload, ↓q_aload_n, ↓q_istore, ↓q_istore_n, ↓q_lstore, ↓q_lstore_n, ↓q_astore, ↓q_astore_n, ↓q_iinc, ↓q_iadd, ↓q_isub, ↓q_imul, ↓q_iand, ↓q_idiv, ↓q_irem, ↓q_ineg, ↓q_ladd, ↓q_lsub, ↓q_lmul, ↓q_land, ↓q_ldiv, ↓q_lrem, ↓q_i2l, ↓q_l2i, ↓q_dup, ↓q_pop, ↓q_dup2, ↓q_dup_x1, ↓q_goto, ↓q_if_eq, ↓q_if_ne, ↓q_if_lt, ↓q_if_ge, ↓q_if_gt, ↓q_if_le, ↓q_icmp_eq, ↓q_icmp_ne, ↓q_icmp_lt, ↓q_icmp_ge, ↓q_icmp_gt, ↓q_icmp_le, ↓q_ifnullN, ↓q_ifnull, ↓q_ifnonnullN, ↓q_ifnonnull, ↓q_table, ↓q_lookup, ↓q_getf, ↓q_putI, ↓q_putJ, ↓q_putR, ↓q_iald, ↓q_sld, ↓q_slen, ↓q_alen, ↓q_iast, ↓q_bald, ↓q_bast, ↓q_aald, ↓q_aast, ↓q_newa, ↓q_newq, ↓q_new, ↓q_objInit, ↓q_max, ↓q_min, ↓q_copy, ↓q_callS0, ↓q_callV0, ↓q_callI0, ↓q_callS1, ↓q_callV1, ↓q_callI1, ↓q_callS2, ↓q_callV2, ↓q_callI2, ↓q_callS3, ↓q_callV3, ↓q_callI3, ↓q_callS4, ↓q_callV4, ↓q_callI4, ↓q_callS5, ↓q_callV5, ↓q_callI5, ↓q_callS6, ↓q_callV6, ↓q_callI6, ↓q_callS7, ↓q_callV7, ↓q_callI7, ↓q_callS8, ↓q_callV8, ↓q_callI8, ↓q_iret, ↓q_lret, ↓q_vret, q_e_i_int, q_e_l_long, q_e_a_ref, q_e_a_null, q_cat_int, q_cat_ref, q_cat_null, q_cat_long, q_na_int, q_lgt_z, q_lgt_s, q_lst0, q_lst1, q_lstS, q_lst20, q_lst21, q_lst2S, q_clr_i, q_clr_r, q_clr_n, q_clr_0, q_clr_l, q_cv_i, q_cv_l, q_cv_r, q_rv_s, q_rv_n, q_toL_s, q_toL_n, true_and, and_true, Nat.reduceAdd, s33, s34, s35, s36, s37, s38, s39, s40, s41, s42, s43, s44, s45, s46, r33_3, r33_4, r33_6, r33_7, r33_8, r33_10, r33_11, r33_12, r33_13, r33_15, r33_16, r33_18, r33_19]
  refine call_ro (c_of hs (p := 1) ha (by decide)) (by decide) rfl (Nat.le_refl _) (Nat.le_refl _) ?_
  simp only [↓q_nil, ↓q_iconst, ↓q_bipush, ↓q_sipush, ↓q_ldc, ↓q_lconst, ↓q_ldc2, ↓q_null, ↓q_iload, ↓q_iload_n, ↓q_lload, ↓q_lload_n, ↓q_aload, ↓q_aload_n, ↓q_istore, ↓q_istore_n, ↓q_lstore, ↓q_lstore_n, ↓q_astore, ↓q_astore_n, ↓q_iinc, ↓q_iadd, ↓q_isub, ↓q_imul, ↓q_iand, ↓q_idiv, ↓q_irem, ↓q_ineg, ↓q_ladd, ↓q_lsub, ↓q_lmul, ↓q_land, ↓q_ldiv, ↓q_lrem, ↓q_i2l, ↓q_l2i, ↓q_dup, ↓q_pop, ↓q_dup2, ↓q_dup_x1, ↓q_goto, ↓q_if_eq, ↓q_if_ne, ↓q_if_lt, ↓q_if_ge, ↓q_if_gt, ↓q_if_le, ↓q_icmp_eq, ↓q_icmp_ne, ↓q_icmp_lt, ↓q_icmp_ge, ↓q_icmp_gt, ↓q_icmp_le, ↓q_ifnullN, ↓q_ifnull, ↓q_ifnonnullN, ↓q_ifnonnull, ↓q_table, ↓q_lookup, ↓q_getf, ↓q_putI, ↓q_putJ, ↓q_putR, ↓q_iald, ↓q_sld, ↓q_slen, ↓q_alen, ↓q_iast, ↓q_bald, ↓q_bast, ↓q_aald, ↓q_aast, ↓q_newa, ↓q_newq, ↓q_new, ↓q_objInit, ↓q_max, ↓q_min, ↓q_copy, ↓q_callS0, ↓q_callV0, ↓q_callI0, ↓q_callS1, ↓q_callV1, ↓q_callI1, ↓q_callS2, ↓q_callV2, ↓q_callI2, ↓q_callS3, ↓q_callV3, ↓q_callI3, ↓q_callS4, ↓q_callV4, ↓q_callI4, ↓q_callS5, ↓q_callV5, ↓q_callI5, ↓q_callS6, ↓q_callV6, ↓q_callI6, ↓q_callS7, ↓q_callV7, ↓q_callI7, ↓q_callS8, ↓q_callV8, ↓q_callI8, ↓q_iret, ↓q_lret, ↓q_vret, q_e_i_int, q_e_l_long, q_e_a_ref, q_e_a_null, q_cat_int, q_cat_ref, q_cat_null, q_cat_long, q_na_int, q_lgt_z, q_lgt_s, q_lst0, q_lst1, q_lstS, q_lst20, q_lst21, q_lst2S, q_clr_i, q_clr_r, q_clr_n, q_clr_0, q_clr_l, q_cv_i, q_cv_l, q_cv_r, q_rv_s, q_rv_n, q_toL_s, q_toL_n, true_and, and_true, Nat.reduceAdd, s33, s34, s35, s36, s37, s38, s39, s40, s41, s42, s43, s44, s45, s46, r33_3, r33_4, r33_6, r33_7, r33_8, r33_10, r33_11, r33_12, r33_13, r33_15, r33_16, r33_18, r33_19]
  refine call_ro (c_gapIn hs hw ha) (by decide) rfl (Nat.le_refl _) (Nat.le_refl _) ?_
  simp only [↓q_nil, ↓q_iconst, ↓q_bipush, ↓q_sipush, ↓q_ldc, ↓q_lconst, ↓q_ldc2, ↓q_null, ↓q_iload, ↓q_iload_n, ↓q_lload, ↓q_lload_n, ↓q_aload, ↓q_aload_n, ↓q_istore, ↓q_istore_n, ↓q_lstore, ↓q_lstore_n, ↓q_astore, ↓q_astore_n, ↓q_iinc, ↓q_iadd, ↓q_isub, ↓q_imul, ↓q_iand, ↓q_idiv, ↓q_irem, ↓q_ineg, ↓q_ladd, ↓q_lsub, ↓q_lmul, ↓q_land, ↓q_ldiv, ↓q_lrem, ↓q_i2l, ↓q_l2i, ↓q_dup, ↓q_pop, ↓q_dup2, ↓q_dup_x1, ↓q_goto, ↓q_if_eq, ↓q_if_ne, ↓q_if_lt, ↓q_if_ge, ↓q_if_gt, ↓q_if_le, ↓q_icmp_eq, ↓q_icmp_ne, ↓q_icmp_lt, ↓q_icmp_ge, ↓q_icmp_gt, ↓q_icmp_le, ↓q_ifnullN, ↓q_ifnull, ↓q_ifnonnullN, ↓q_ifnonnull, ↓q_table, ↓q_lookup, ↓q_getf, ↓q_putI, ↓q_putJ, ↓q_putR, ↓q_iald, ↓q_sld, ↓q_slen, ↓q_alen, ↓q_iast, ↓q_bald, ↓q_bast, ↓q_aald, ↓q_aast, ↓q_newa, ↓q_newq, ↓q_new, ↓q_objInit, ↓q_max, ↓q_min, ↓q_copy, ↓q_callS0, ↓q_callV0, ↓q_callI0, ↓q_callS1, ↓q_callV1, ↓q_callI1, ↓q_callS2, ↓q_callV2, ↓q_callI2, ↓q_callS3, ↓q_callV3, ↓q_callI3, ↓q_callS4, ↓q_callV4, ↓q_callI4, ↓q_callS5, ↓q_callV5, ↓q_callI5, ↓q_callS6, ↓q_callV6, ↓q_callI6, ↓q_callS7, ↓q_callV7, ↓q_callI7, ↓q_callS8, ↓q_callV8, ↓q_callI8, ↓q_iret, ↓q_lret, ↓q_vret, q_e_i_int, q_e_l_long, q_e_a_ref, q_e_a_null, q_cat_int, q_cat_ref, q_cat_null, q_cat_long, q_na_int, q_lgt_z, q_lgt_s, q_lst0, q_lst1, q_lstS, q_lst20, q_lst21, q_lst2S, q_clr_i, q_clr_r, q_clr_n, q_clr_0, q_clr_l, q_cv_i, q_cv_l, q_cv_r, q_rv_s, q_rv_n, q_toL_s, q_toL_n, true_and, and_true, Nat.reduceAdd, s33, s34, s35, s36, s37, s38, s39, s40, s41, s42, s43, s44, s45, s46, r33_3, r33_4, r33_6, r33_7, r33_8, r33_10, r33_11, r33_12, r33_13, r33_15, r33_16, r33_18, r33_19]
  refine call_ro (c_allowed) (by decide) rfl (Nat.le_refl _) (Nat.le_refl _) ?_
  simp only [↓q_nil, ↓q_iconst, ↓q_bipush, ↓q_sipush, ↓q_ldc, ↓q_lconst, ↓q_ldc2, ↓q_null, ↓q_iload, ↓q_iload_n, ↓q_lload, ↓q_lload_n, ↓q_aload, ↓q_aload_n, ↓q_istore, ↓q_istore_n, ↓q_lstore, ↓q_lstore_n, ↓q_astore, ↓q_astore_n, ↓q_iinc, ↓q_iadd, ↓q_isub, ↓q_imul, ↓q_iand, ↓q_idiv, ↓q_irem, ↓q_ineg, ↓q_ladd, ↓q_lsub, ↓q_lmul, ↓q_land, ↓q_ldiv, ↓q_lrem, ↓q_i2l, ↓q_l2i, ↓q_dup, ↓q_pop, ↓q_dup2, ↓q_dup_x1, ↓q_goto, ↓q_if_eq, ↓q_if_ne, ↓q_if_lt, ↓q_if_ge, ↓q_if_gt, ↓q_if_le, ↓q_icmp_eq, ↓q_icmp_ne, ↓q_icmp_lt, ↓q_icmp_ge, ↓q_icmp_gt, ↓q_icmp_le, ↓q_ifnullN, ↓q_ifnull, ↓q_ifnonnullN, ↓q_ifnonnull, ↓q_table, ↓q_lookup, ↓q_getf, ↓q_putI, ↓q_putJ, ↓q_putR, ↓q_iald, ↓q_sld, ↓q_slen, ↓q_alen, ↓q_iast, ↓q_bald, ↓q_bast, ↓q_aald, ↓q_aast, ↓q_newa, ↓q_newq, ↓q_new, ↓q_objInit, ↓q_max, ↓q_min, ↓q_copy, ↓q_callS0, ↓q_callV0, ↓q_callI0, ↓q_callS1, ↓q_callV1, ↓q_callI1, ↓q_callS2, ↓q_callV2, ↓q_callI2, ↓q_callS3, ↓q_callV3, ↓q_callI3, ↓q_callS4, ↓q_callV4, ↓q_callI4, ↓q_callS5, ↓q_callV5, ↓q_callI5, ↓q_callS6, ↓q_callV6, ↓q_callI6, ↓q_callS7, ↓q_callV7, ↓q_callI7, ↓q_callS8, ↓q_callV8, ↓q_callI8, ↓q_iret, ↓q_lret, ↓q_vret, q_e_i_int, q_e_l_long, q_e_a_ref, q_e_a_null, q_cat_int, q_cat_ref, q_cat_null, q_cat_long, q_na_int, q_lgt_z, q_lgt_s, q_lst0, q_lst1, q_lstS, q_lst20, q_lst21, q_lst2S, q_clr_i, q_clr_r, q_clr_n, q_clr_0, q_clr_l, q_cv_i, q_cv_l, q_cv_r, q_rv_s, q_rv_n, q_toL_s, q_toL_n, true_and, and_true, Nat.reduceAdd, s33, s34, s35, s36, s37, s38, s39, s40, s41, s42, s43, s44, s45, s46, r33_3, r33_4, r33_6, r33_7, r33_8, r33_10, r33_11, r33_12, r33_13, r33_15, r33_16, r33_18, r33_19]
  refine call_ro (c_of hs (p := 9) ha (by decide)) (by decide) rfl (Nat.le_refl _) (Nat.le_refl _) ?_
  simp only [↓q_nil, ↓q_iconst, ↓q_bipush, ↓q_sipush, ↓q_ldc, ↓q_lconst, ↓q_ldc2, ↓q_null, ↓q_iload, ↓q_iload_n, ↓q_lload, ↓q_lload_n, ↓q_aload, ↓q_aload_n, ↓q_istore, ↓q_istore_n, ↓q_lstore, ↓q_lstore_n, ↓q_astore, ↓q_astore_n, ↓q_iinc, ↓q_iadd, ↓q_isub, ↓q_imul, ↓q_iand, ↓q_idiv, ↓q_irem, ↓q_ineg, ↓q_ladd, ↓q_lsub, ↓q_lmul, ↓q_land, ↓q_ldiv, ↓q_lrem, ↓q_i2l, ↓q_l2i, ↓q_dup, ↓q_pop, ↓q_dup2, ↓q_dup_x1, ↓q_goto, ↓q_if_eq, ↓q_if_ne, ↓q_if_lt, ↓q_if_ge, ↓q_if_gt, ↓q_if_le, ↓q_icmp_eq, ↓q_icmp_ne, ↓q_icmp_lt, ↓q_icmp_ge, ↓q_icmp_gt, ↓q_icmp_le, ↓q_ifnullN, ↓q_ifnull, ↓q_ifnonnullN, ↓q_ifnonnull, ↓q_table, ↓q_lookup, ↓q_getf, ↓q_putI, ↓q_putJ, ↓q_putR, ↓q_iald, ↓q_sld, ↓q_slen, ↓q_alen, ↓q_iast, ↓q_bald, ↓q_bast, ↓q_aald, ↓q_aast, ↓q_newa, ↓q_newq, ↓q_new, ↓q_objInit, ↓q_max, ↓q_min, ↓q_copy, ↓q_callS0, ↓q_callV0, ↓q_callI0, ↓q_callS1, ↓q_callV1, ↓q_callI1, ↓q_callS2, ↓q_callV2, ↓q_callI2, ↓q_callS3, ↓q_callV3, ↓q_callI3, ↓q_callS4, ↓q_callV4, ↓q_callI4, ↓q_callS5, ↓q_callV5, ↓q_callI5, ↓q_callS6, ↓q_callV6, ↓q_callI6, ↓q_callS7, ↓q_callV7, ↓q_callI7, ↓q_callS8, ↓q_callV8, ↓q_callI8, ↓q_iret, ↓q_lret, ↓q_vret, q_e_i_int, q_e_l_long, q_e_a_ref, q_e_a_null, q_cat_int, q_cat_ref, q_cat_null, q_cat_long, q_na_int, q_lgt_z, q_lgt_s, q_lst0, q_lst1, q_lstS, q_lst20, q_lst21, q_lst2S, q_clr_i, q_clr_r, q_clr_n, q_clr_0, q_clr_l, q_cv_i, q_cv_l, q_cv_r, q_rv_s, q_rv_n, q_toL_s, q_toL_n, true_and, and_true, Nat.reduceAdd, s33, s34, s35, s36, s37, s38, s39, s40, s41, s42, s43, s44, s45, s46, r33_3, r33_4, r33_6, r33_7, r33_8, r33_10, r33_11, r33_12, r33_13, r33_15, r33_16, r33_18, r33_19]
  refine ⟨fun e3 => ?_, fun e3 => ?_⟩
  · have h94 : ∀ t : Int32, t = m_to I N nl nc ns a (pt (I 34) 1 a) (m_gap I N nl nc ns a (pt (I 34) 1 a)) → Go (g, M_M_change, 5, n, z, 0, 0, Q) 94 [some (.ref (gB g + 33)), some (.int (nI a)), some (.int (pt (I 34) 1 a)), some (.int (m_gap I N nl nc ns a (pt (I 34) 1 a))), none] [.int t] (n, z, S, I, J, R) := by
      intro t ht
      rw [← ht] at hQ
      refine go_wp B_M_change_94_ok ?_; simp only [B_M_change_94, ↓q_nil, ↓q_iconst, ↓q_bipush, ↓q_sipush, ↓q_ldc, ↓q_lconst, ↓q_ldc2, ↓q_null, ↓q_iload, ↓q_iload_n, ↓q_lload, ↓q_lload_n, ↓q_aload, ↓q_aload_n, ↓q_istore, ↓q_istore_n, ↓q_lstore, ↓q_lstore_n, ↓q_astore, ↓q_astore_n, ↓q_iinc, ↓q_iadd, ↓q_isub, ↓q_imul, ↓q_iand, ↓q_idiv, ↓q_irem, ↓q_ineg, ↓q_ladd, ↓q_lsub, ↓q_lmul, ↓q_land, ↓q_ldiv, ↓q_lrem, ↓q_i2l, ↓q_l2i, ↓q_dup, ↓q_pop, ↓q_dup2, ↓q_dup_x1, ↓q_goto, ↓q_if_eq, ↓q_if_ne, ↓q_if_lt, ↓q_if_ge, ↓q_if_gt, ↓q_if_le, ↓q_icmp_eq, ↓q_icmp_ne, ↓q_icmp_lt, ↓q_icmp_ge, ↓q_icmp_gt, ↓q_icmp_le, ↓q_ifnullN, ↓q_ifnull, ↓q_ifnonnullN, ↓q_ifnonnull, ↓q_table, ↓q_lookup, ↓q_getf, ↓q_putI, ↓q_putJ, ↓q_putR, ↓q_iald, ↓q_sld, ↓q_slen, ↓q_alen, ↓q_iast, ↓q_bald, ↓q_bast, ↓q_aald, ↓q_aast, ↓q_newa, ↓q_newq, ↓q_new, ↓q_objInit, ↓q_max, ↓q_min, ↓q_copy, ↓q_callS0, ↓q_callV0, ↓q_callI0, ↓q_callS1, ↓q_callV1, ↓q_callI1, ↓q_callS2, ↓q_callV2, ↓q_callI2, ↓q_callS3, ↓q_callV3, ↓q_callI3, ↓q_callS4, ↓q_callV4, ↓q_callI4, ↓q_callS5, ↓q_callV5, ↓q_callI5, ↓q_callS6, ↓q_callV6, ↓q_callI6, ↓q_callS7, ↓q_callV7, ↓q_callI7, ↓q_callS8, ↓q_callV8, ↓q_callI8, ↓q_iret, ↓q_lret, ↓q_vret, q_e_i_int, q_e_l_long, q_e_a_ref, q_e_a_null, q_cat_int, q_cat_ref, q_cat_null, q_cat_long, q_na_int, q_lgt_z, q_lgt_s, q_lst0, q_lst1, q_lstS, q_lst20, q_lst21, q_lst2S, q_clr_i, q_clr_r, q_clr_n, q_clr_0, q_clr_l, q_cv_i, q_cv_l, q_cv_r, q_rv_s, q_rv_n, q_toL_s, q_toL_n, true_and, and_true, Nat.reduceAdd, s33, s34, s35, s36, s37, s38, s39, s40, s41, s42, s43, s44, s45, s46, r33_3, r33_4, r33_6, r33_7, r33_8, r33_10, r33_11, r33_12, r33_13, r33_15, r33_16, r33_18, r33_19]
      refine ⟨fun e4 => ?_, fun e4 => ?_⟩
      · refine go_wp B_M_change_131_ok ?_; simp only [B_M_change_131, ↓q_nil, ↓q_iconst, ↓q_bipush, ↓q_sipush, ↓q_ldc, ↓q_lconst, ↓q_ldc2, ↓q_null, ↓q_iload, ↓q_iload_n, ↓q_lload, ↓q_lload_n, ↓q_aload, ↓q_aload_n, ↓q_istore, ↓q_istore_n, ↓q_lstore, ↓q_lstore_n, ↓q_astore, ↓q_astore_n, ↓q_iinc, ↓q_iadd, ↓q_isub, ↓q_imul, ↓q_iand, ↓q_idiv, ↓q_irem, ↓q_ineg, ↓q_ladd, ↓q_lsub, ↓q_lmul, ↓q_land, ↓q_ldiv, ↓q_lrem, ↓q_i2l, ↓q_l2i, ↓q_dup, ↓q_pop, ↓q_dup2, ↓q_dup_x1, ↓q_goto, ↓q_if_eq, ↓q_if_ne, ↓q_if_lt, ↓q_if_ge, ↓q_if_gt, ↓q_if_le, ↓q_icmp_eq, ↓q_icmp_ne, ↓q_icmp_lt, ↓q_icmp_ge, ↓q_icmp_gt, ↓q_icmp_le, ↓q_ifnullN, ↓q_ifnull, ↓q_ifnonnullN, ↓q_ifnonnull, ↓q_table, ↓q_lookup, ↓q_getf, ↓q_putI, ↓q_putJ, ↓q_putR, ↓q_iald, ↓q_sld, ↓q_slen, ↓q_alen, ↓q_iast, ↓q_bald, ↓q_bast, ↓q_aald, ↓q_aast, ↓q_newa, ↓q_newq, ↓q_new, ↓q_objInit, ↓q_max, ↓q_min, ↓q_copy, ↓q_callS0, ↓q_callV0, ↓q_callI0, ↓q_callS1, ↓q_callV1, ↓q_callI1, ↓q_callS2, ↓q_callV2, ↓q_callI2, ↓q_callS3, ↓q_callV3, ↓q_callI3, ↓q_callS4, ↓q_callV4, ↓q_callI4, ↓q_callS5, ↓q_callV5, ↓q_callI5, ↓q_callS6, ↓q_callV6, ↓q_callI6, ↓q_callS7, ↓q_callV7, ↓q_callI7, ↓q_callS8, ↓q_callV8, ↓q_callI8, ↓q_iret, ↓q_lret, ↓q_vret, q_e_i_int, q_e_l_long, q_e_a_ref, q_e_a_null, q_cat_int, q_cat_ref, q_cat_null, q_cat_long, q_na_int, q_lgt_z, q_lgt_s, q_lst0, q_lst1, q_lstS, q_lst20, q_lst21, q_lst2S, q_clr_i, q_clr_r, q_clr_n, q_clr_0, q_clr_l, q_cv_i, q_cv_l, q_cv_r, q_rv_s, q_rv_n, q_toL_s, q_toL_n, true_and, and_true, Nat.reduceAdd, s33, s34, s35, s36, s37, s38, s39, s40, s41, s42, s43, s44, s45, s46, r33_3, r33_4, r33_6, r33_7, r33_8, r33_10, r33_11, r33_12, r33_13, r33_15, r33_16, r33_18, r33_19]
        rw [if_neg (fun q => q.2.2 e4)] at hQ
        rw [← hQ]
        exact ⟨rfl, rfl, rfl, rfl⟩
      · refine call_ro (c_putm hs (p := 1) ha (by decide)) (by decide) rfl (Nat.le_refl _) (Nat.le_refl _) ?_
        simp only [↓q_nil, ↓q_iconst, ↓q_bipush, ↓q_sipush, ↓q_ldc, ↓q_lconst, ↓q_ldc2, ↓q_null, ↓q_iload, ↓q_iload_n, ↓q_lload, ↓q_lload_n, ↓q_aload, ↓q_aload_n, ↓q_istore, ↓q_istore_n, ↓q_lstore, ↓q_lstore_n, ↓q_astore, ↓q_astore_n, ↓q_iinc, ↓q_iadd, ↓q_isub, ↓q_imul, ↓q_iand, ↓q_idiv, ↓q_irem, ↓q_ineg, ↓q_ladd, ↓q_lsub, ↓q_lmul, ↓q_land, ↓q_ldiv, ↓q_lrem, ↓q_i2l, ↓q_l2i, ↓q_dup, ↓q_pop, ↓q_dup2, ↓q_dup_x1, ↓q_goto, ↓q_if_eq, ↓q_if_ne, ↓q_if_lt, ↓q_if_ge, ↓q_if_gt, ↓q_if_le, ↓q_icmp_eq, ↓q_icmp_ne, ↓q_icmp_lt, ↓q_icmp_ge, ↓q_icmp_gt, ↓q_icmp_le, ↓q_ifnullN, ↓q_ifnull, ↓q_ifnonnullN, ↓q_ifnonnull, ↓q_table, ↓q_lookup, ↓q_getf, ↓q_putI, ↓q_putJ, ↓q_putR, ↓q_iald, ↓q_sld, ↓q_slen, ↓q_alen, ↓q_iast, ↓q_bald, ↓q_bast, ↓q_aald, ↓q_aast, ↓q_newa, ↓q_newq, ↓q_new, ↓q_objInit, ↓q_max, ↓q_min, ↓q_copy, ↓q_callS0, ↓q_callV0, ↓q_callI0, ↓q_callS1, ↓q_callV1, ↓q_callI1, ↓q_callS2, ↓q_callV2, ↓q_callI2, ↓q_callS3, ↓q_callV3, ↓q_callI3, ↓q_callS4, ↓q_callV4, ↓q_callI4, ↓q_callS5, ↓q_callV5, ↓q_callI5, ↓q_callS6, ↓q_callV6, ↓q_callI6, ↓q_callS7, ↓q_callV7, ↓q_callI7, ↓q_callS8, ↓q_callV8, ↓q_callI8, ↓q_iret, ↓q_lret, ↓q_vret, q_e_i_int, q_e_l_long, q_e_a_ref, q_e_a_null, q_cat_int, q_cat_ref, q_cat_null, q_cat_long, q_na_int, q_lgt_z, q_lgt_s, q_lst0, q_lst1, q_lstS, q_lst20, q_lst21, q_lst2S, q_clr_i, q_clr_r, q_clr_n, q_clr_0, q_clr_l, q_cv_i, q_cv_l, q_cv_r, q_rv_s, q_rv_n, q_toL_s, q_toL_n, true_and, and_true, Nat.reduceAdd, s33, s34, s35, s36, s37, s38, s39, s40, s41, s42, s43, s44, s45, s46, r33_3, r33_4, r33_6, r33_7, r33_8, r33_10, r33_11, r33_12, r33_13, r33_15, r33_16, r33_18, r33_19]
        refine call_ro (c_now hs) (by decide) rfl (Nat.le_refl _) (Nat.le_refl _) ?_
        simp only [↓q_nil, ↓q_iconst, ↓q_bipush, ↓q_sipush, ↓q_ldc, ↓q_lconst, ↓q_ldc2, ↓q_null, ↓q_iload, ↓q_iload_n, ↓q_lload, ↓q_lload_n, ↓q_aload, ↓q_aload_n, ↓q_istore, ↓q_istore_n, ↓q_lstore, ↓q_lstore_n, ↓q_astore, ↓q_astore_n, ↓q_iinc, ↓q_iadd, ↓q_isub, ↓q_imul, ↓q_iand, ↓q_idiv, ↓q_irem, ↓q_ineg, ↓q_ladd, ↓q_lsub, ↓q_lmul, ↓q_land, ↓q_ldiv, ↓q_lrem, ↓q_i2l, ↓q_l2i, ↓q_dup, ↓q_pop, ↓q_dup2, ↓q_dup_x1, ↓q_goto, ↓q_if_eq, ↓q_if_ne, ↓q_if_lt, ↓q_if_ge, ↓q_if_gt, ↓q_if_le, ↓q_icmp_eq, ↓q_icmp_ne, ↓q_icmp_lt, ↓q_icmp_ge, ↓q_icmp_gt, ↓q_icmp_le, ↓q_ifnullN, ↓q_ifnull, ↓q_ifnonnullN, ↓q_ifnonnull, ↓q_table, ↓q_lookup, ↓q_getf, ↓q_putI, ↓q_putJ, ↓q_putR, ↓q_iald, ↓q_sld, ↓q_slen, ↓q_alen, ↓q_iast, ↓q_bald, ↓q_bast, ↓q_aald, ↓q_aast, ↓q_newa, ↓q_newq, ↓q_new, ↓q_objInit, ↓q_max, ↓q_min, ↓q_copy, ↓q_callS0, ↓q_callV0, ↓q_callI0, ↓q_callS1, ↓q_callV1, ↓q_callI1, ↓q_callS2, ↓q_callV2, ↓q_callI2, ↓q_callS3, ↓q_callV3, ↓q_callI3, ↓q_callS4, ↓q_callV4, ↓q_callI4, ↓q_callS5, ↓q_callV5, ↓q_callI5, ↓q_callS6, ↓q_callV6, ↓q_callI6, ↓q_callS7, ↓q_callV7, ↓q_callI7, ↓q_callS8, ↓q_callV8, ↓q_callI8, ↓q_iret, ↓q_lret, ↓q_vret, q_e_i_int, q_e_l_long, q_e_a_ref, q_e_a_null, q_cat_int, q_cat_ref, q_cat_null, q_cat_long, q_na_int, q_lgt_z, q_lgt_s, q_lst0, q_lst1, q_lstS, q_lst20, q_lst21, q_lst2S, q_clr_i, q_clr_r, q_clr_n, q_clr_0, q_clr_l, q_cv_i, q_cv_l, q_cv_r, q_rv_s, q_rv_n, q_toL_s, q_toL_n, true_and, and_true, Nat.reduceAdd, s33, s34, s35, s36, s37, s38, s39, s40, s41, s42, s43, s44, s45, s46, r33_3, r33_4, r33_6, r33_7, r33_8, r33_10, r33_11, r33_12, r33_13, r33_15, r33_16, r33_18, r33_19]
        refine call_ro (c_putm hs (p := 7) ha (by decide)) (by decide) rfl (Nat.le_refl _) (Nat.le_refl _) ?_
        simp only [↓q_nil, ↓q_iconst, ↓q_bipush, ↓q_sipush, ↓q_ldc, ↓q_lconst, ↓q_ldc2, ↓q_null, ↓q_iload, ↓q_iload_n, ↓q_lload, ↓q_lload_n, ↓q_aload, ↓q_aload_n, ↓q_istore, ↓q_istore_n, ↓q_lstore, ↓q_lstore_n, ↓q_astore, ↓q_astore_n, ↓q_iinc, ↓q_iadd, ↓q_isub, ↓q_imul, ↓q_iand, ↓q_idiv, ↓q_irem, ↓q_ineg, ↓q_ladd, ↓q_lsub, ↓q_lmul, ↓q_land, ↓q_ldiv, ↓q_lrem, ↓q_i2l, ↓q_l2i, ↓q_dup, ↓q_pop, ↓q_dup2, ↓q_dup_x1, ↓q_goto, ↓q_if_eq, ↓q_if_ne, ↓q_if_lt, ↓q_if_ge, ↓q_if_gt, ↓q_if_le, ↓q_icmp_eq, ↓q_icmp_ne, ↓q_icmp_lt, ↓q_icmp_ge, ↓q_icmp_gt, ↓q_icmp_le, ↓q_ifnullN, ↓q_ifnull, ↓q_ifnonnullN, ↓q_ifnonnull, ↓q_table, ↓q_lookup, ↓q_getf, ↓q_putI, ↓q_putJ, ↓q_putR, ↓q_iald, ↓q_sld, ↓q_slen, ↓q_alen, ↓q_iast, ↓q_bald, ↓q_bast, ↓q_aald, ↓q_aast, ↓q_newa, ↓q_newq, ↓q_new, ↓q_objInit, ↓q_max, ↓q_min, ↓q_copy, ↓q_callS0, ↓q_callV0, ↓q_callI0, ↓q_callS1, ↓q_callV1, ↓q_callI1, ↓q_callS2, ↓q_callV2, ↓q_callI2, ↓q_callS3, ↓q_callV3, ↓q_callI3, ↓q_callS4, ↓q_callV4, ↓q_callI4, ↓q_callS5, ↓q_callV5, ↓q_callI5, ↓q_callS6, ↓q_callV6, ↓q_callI6, ↓q_callS7, ↓q_callV7, ↓q_callI7, ↓q_callS8, ↓q_callV8, ↓q_callI8, ↓q_iret, ↓q_lret, ↓q_vret, q_e_i_int, q_e_l_long, q_e_a_ref, q_e_a_null, q_cat_int, q_cat_ref, q_cat_null, q_cat_long, q_na_int, q_lgt_z, q_lgt_s, q_lst0, q_lst1, q_lstS, q_lst20, q_lst21, q_lst2S, q_clr_i, q_clr_r, q_clr_n, q_clr_0, q_clr_l, q_cv_i, q_cv_l, q_cv_r, q_rv_s, q_rv_n, q_toL_s, q_toL_n, true_and, and_true, Nat.reduceAdd, s33, s34, s35, s36, s37, s38, s39, s40, s41, s42, s43, s44, s45, s46, r33_3, r33_4, r33_6, r33_7, r33_8, r33_10, r33_11, r33_12, r33_13, r33_15, r33_16, r33_18, r33_19]
        refine ⟨vp_in_iff.mpr (by decide), vp_in_iff.mpr (by decide), ?_⟩
        refine go_wp B_M_change_131_ok ?_; simp only [B_M_change_131, ↓q_nil, ↓q_iconst, ↓q_bipush, ↓q_sipush, ↓q_ldc, ↓q_lconst, ↓q_ldc2, ↓q_null, ↓q_iload, ↓q_iload_n, ↓q_lload, ↓q_lload_n, ↓q_aload, ↓q_aload_n, ↓q_istore, ↓q_istore_n, ↓q_lstore, ↓q_lstore_n, ↓q_astore, ↓q_astore_n, ↓q_iinc, ↓q_iadd, ↓q_isub, ↓q_imul, ↓q_iand, ↓q_idiv, ↓q_irem, ↓q_ineg, ↓q_ladd, ↓q_lsub, ↓q_lmul, ↓q_land, ↓q_ldiv, ↓q_lrem, ↓q_i2l, ↓q_l2i, ↓q_dup, ↓q_pop, ↓q_dup2, ↓q_dup_x1, ↓q_goto, ↓q_if_eq, ↓q_if_ne, ↓q_if_lt, ↓q_if_ge, ↓q_if_gt, ↓q_if_le, ↓q_icmp_eq, ↓q_icmp_ne, ↓q_icmp_lt, ↓q_icmp_ge, ↓q_icmp_gt, ↓q_icmp_le, ↓q_ifnullN, ↓q_ifnull, ↓q_ifnonnullN, ↓q_ifnonnull, ↓q_table, ↓q_lookup, ↓q_getf, ↓q_putI, ↓q_putJ, ↓q_putR, ↓q_iald, ↓q_sld, ↓q_slen, ↓q_alen, ↓q_iast, ↓q_bald, ↓q_bast, ↓q_aald, ↓q_aast, ↓q_newa, ↓q_newq, ↓q_new, ↓q_objInit, ↓q_max, ↓q_min, ↓q_copy, ↓q_callS0, ↓q_callV0, ↓q_callI0, ↓q_callS1, ↓q_callV1, ↓q_callI1, ↓q_callS2, ↓q_callV2, ↓q_callI2, ↓q_callS3, ↓q_callV3, ↓q_callI3, ↓q_callS4, ↓q_callV4, ↓q_callI4, ↓q_callS5, ↓q_callV5, ↓q_callI5, ↓q_callS6, ↓q_callV6, ↓q_callI6, ↓q_callS7, ↓q_callV7, ↓q_callI7, ↓q_callS8, ↓q_callV8, ↓q_callI8, ↓q_iret, ↓q_lret, ↓q_vret, q_e_i_int, q_e_l_long, q_e_a_ref, q_e_a_null, q_cat_int, q_cat_ref, q_cat_null, q_cat_long, q_na_int, q_lgt_z, q_lgt_s, q_lst0, q_lst1, q_lstS, q_lst20, q_lst21, q_lst2S, q_clr_i, q_clr_r, q_clr_n, q_clr_0, q_clr_l, q_cv_i, q_cv_l, q_cv_r, q_rv_s, q_rv_n, q_toL_s, q_toL_n, true_and, and_true, Nat.reduceAdd, s33, s34, s35, s36, s37, s38, s39, s40, s41, s42, s43, s44, s45, s46, r33_3, r33_4, r33_6, r33_7, r33_8, r33_10, r33_11, r33_12, r33_13, r33_15, r33_16, r33_18, r33_19]
        rw [if_pos ⟨⟨e1, e2⟩, e3, e4⟩] at hQ
        rw [← hQ]
        exact ⟨rfl, rfl, rfl, rfl⟩
    refine go_wp B_M_change_57_ok ?_; simp only [B_M_change_57, ↓q_nil, ↓q_iconst, ↓q_bipush, ↓q_sipush, ↓q_ldc, ↓q_lconst, ↓q_ldc2, ↓q_null, ↓q_iload, ↓q_iload_n, ↓q_lload, ↓q_lload_n, ↓q_aload, ↓q_aload_n, ↓q_istore, ↓q_istore_n, ↓q_lstore, ↓q_lstore_n, ↓q_astore, ↓q_astore_n, ↓q_iinc, ↓q_iadd, ↓q_isub, ↓q_imul, ↓q_iand, ↓q_idiv, ↓q_irem, ↓q_ineg, ↓q_ladd, ↓q_lsub, ↓q_lmul, ↓q_land, ↓q_ldiv, ↓q_lrem, ↓q_i2l, ↓q_l2i, ↓q_dup, ↓q_pop, ↓q_dup2, ↓q_dup_x1, ↓q_goto, ↓q_if_eq, ↓q_if_ne, ↓q_if_lt, ↓q_if_ge, ↓q_if_gt, ↓q_if_le, ↓q_icmp_eq, ↓q_icmp_ne, ↓q_icmp_lt, ↓q_icmp_ge, ↓q_icmp_gt, ↓q_icmp_le, ↓q_ifnullN, ↓q_ifnull, ↓q_ifnonnullN, ↓q_ifnonnull, ↓q_table, ↓q_lookup, ↓q_getf, ↓q_putI, ↓q_putJ, ↓q_putR, ↓q_iald, ↓q_sld, ↓q_slen, ↓q_alen, ↓q_iast, ↓q_bald, ↓q_bast, ↓q_aald, ↓q_aast, ↓q_newa, ↓q_newq, ↓q_new, ↓q_objInit, ↓q_max, ↓q_min, ↓q_copy, ↓q_callS0, ↓q_callV0, ↓q_callI0, ↓q_callS1, ↓q_callV1, ↓q_callI1, ↓q_callS2, ↓q_callV2, ↓q_callI2, ↓q_callS3, ↓q_callV3, ↓q_callI3, ↓q_callS4, ↓q_callV4, ↓q_callI4, ↓q_callS5, ↓q_callV5, ↓q_callI5, ↓q_callS6, ↓q_callV6, ↓q_callI6, ↓q_callS7, ↓q_callV7, ↓q_callI7, ↓q_callS8, ↓q_callV8, ↓q_callI8, ↓q_iret, ↓q_lret, ↓q_vret, q_e_i_int, q_e_l_long, q_e_a_ref, q_e_a_null, q_cat_int, q_cat_ref, q_cat_null, q_cat_long, q_na_int, q_lgt_z, q_lgt_s, q_lst0, q_lst1, q_lstS, q_lst20, q_lst21, q_lst2S, q_clr_i, q_clr_r, q_clr_n, q_clr_0, q_clr_l, q_cv_i, q_cv_l, q_cv_r, q_rv_s, q_rv_n, q_toL_s, q_toL_n, true_and, and_true, Nat.reduceAdd, s33, s34, s35, s36, s37, s38, s39, s40, s41, s42, s43, s44, s45, s46, r33_3, r33_4, r33_6, r33_7, r33_8, r33_10, r33_11, r33_12, r33_13, r33_15, r33_16, r33_18, r33_19]
    refine call_ro (c_mayGo hs hw ha) (by decide) rfl (Nat.le_refl _) (Nat.le_refl _) ?_
    simp only [↓q_nil, ↓q_iconst, ↓q_bipush, ↓q_sipush, ↓q_ldc, ↓q_lconst, ↓q_ldc2, ↓q_null, ↓q_iload, ↓q_iload_n, ↓q_lload, ↓q_lload_n, ↓q_aload, ↓q_aload_n, ↓q_istore, ↓q_istore_n, ↓q_lstore, ↓q_lstore_n, ↓q_astore, ↓q_astore_n, ↓q_iinc, ↓q_iadd, ↓q_isub, ↓q_imul, ↓q_iand, ↓q_idiv, ↓q_irem, ↓q_ineg, ↓q_ladd, ↓q_lsub, ↓q_lmul, ↓q_land, ↓q_ldiv, ↓q_lrem, ↓q_i2l, ↓q_l2i, ↓q_dup, ↓q_pop, ↓q_dup2, ↓q_dup_x1, ↓q_goto, ↓q_if_eq, ↓q_if_ne, ↓q_if_lt, ↓q_if_ge, ↓q_if_gt, ↓q_if_le, ↓q_icmp_eq, ↓q_icmp_ne, ↓q_icmp_lt, ↓q_icmp_ge, ↓q_icmp_gt, ↓q_icmp_le, ↓q_ifnullN, ↓q_ifnull, ↓q_ifnonnullN, ↓q_ifnonnull, ↓q_table, ↓q_lookup, ↓q_getf, ↓q_putI, ↓q_putJ, ↓q_putR, ↓q_iald, ↓q_sld, ↓q_slen, ↓q_alen, ↓q_iast, ↓q_bald, ↓q_bast, ↓q_aald, ↓q_aast, ↓q_newa, ↓q_newq, ↓q_new, ↓q_objInit, ↓q_max, ↓q_min, ↓q_copy, ↓q_callS0, ↓q_callV0, ↓q_callI0, ↓q_callS1, ↓q_callV1, ↓q_callI1, ↓q_callS2, ↓q_callV2, ↓q_callI2, ↓q_callS3, ↓q_callV3, ↓q_callI3, ↓q_callS4, ↓q_callV4, ↓q_callI4, ↓q_callS5, ↓q_callV5, ↓q_callI5, ↓q_callS6, ↓q_callV6, ↓q_callI6, ↓q_callS7, ↓q_callV7, ↓q_callI7, ↓q_callS8, ↓q_callV8, ↓q_callI8, ↓q_iret, ↓q_lret, ↓q_vret, q_e_i_int, q_e_l_long, q_e_a_ref, q_e_a_null, q_cat_int, q_cat_ref, q_cat_null, q_cat_long, q_na_int, q_lgt_z, q_lgt_s, q_lst0, q_lst1, q_lstS, q_lst20, q_lst21, q_lst2S, q_clr_i, q_clr_r, q_clr_n, q_clr_0, q_clr_l, q_cv_i, q_cv_l, q_cv_r, q_rv_s, q_rv_n, q_toL_s, q_toL_n, true_and, and_true, Nat.reduceAdd, s33, s34, s35, s36, s37, s38, s39, s40, s41, s42, s43, s44, s45, s46, r33_3, r33_4, r33_6, r33_7, r33_8, r33_10, r33_11, r33_12, r33_13, r33_15, r33_16, r33_18, r33_19]
    refine ⟨fun e4 => ?_, fun e4 => h94 _ (by rw [m_to, if_pos (bI_ne e4)])⟩
    refine go_wp B_M_change_75_ok ?_; simp only [B_M_change_75, ↓q_nil, ↓q_iconst, ↓q_bipush, ↓q_sipush, ↓q_ldc, ↓q_lconst, ↓q_ldc2, ↓q_null, ↓q_iload, ↓q_iload_n, ↓q_lload, ↓q_lload_n, ↓q_aload, ↓q_aload_n, ↓q_istore, ↓q_istore_n, ↓q_lstore, ↓q_lstore_n, ↓q_astore, ↓q_astore_n, ↓q_iinc, ↓q_iadd, ↓q_isub, ↓q_imul, ↓q_iand, ↓q_idiv, ↓q_irem, ↓q_ineg, ↓q_ladd, ↓q_lsub, ↓q_lmul, ↓q_land, ↓q_ldiv, ↓q_lrem, ↓q_i2l, ↓q_l2i, ↓q_dup, ↓q_pop, ↓q_dup2, ↓q_dup_x1, ↓q_goto, ↓q_if_eq, ↓q_if_ne, ↓q_if_lt, ↓q_if_ge, ↓q_if_gt, ↓q_if_le, ↓q_icmp_eq, ↓q_icmp_ne, ↓q_icmp_lt, ↓q_icmp_ge, ↓q_icmp_gt, ↓q_icmp_le, ↓q_ifnullN, ↓q_ifnull, ↓q_ifnonnullN, ↓q_ifnonnull, ↓q_table, ↓q_lookup, ↓q_getf, ↓q_putI, ↓q_putJ, ↓q_putR, ↓q_iald, ↓q_sld, ↓q_slen, ↓q_alen, ↓q_iast, ↓q_bald, ↓q_bast, ↓q_aald, ↓q_aast, ↓q_newa, ↓q_newq, ↓q_new, ↓q_objInit, ↓q_max, ↓q_min, ↓q_copy, ↓q_callS0, ↓q_callV0, ↓q_callI0, ↓q_callS1, ↓q_callV1, ↓q_callI1, ↓q_callS2, ↓q_callV2, ↓q_callI2, ↓q_callS3, ↓q_callV3, ↓q_callI3, ↓q_callS4, ↓q_callV4, ↓q_callI4, ↓q_callS5, ↓q_callV5, ↓q_callI5, ↓q_callS6, ↓q_callV6, ↓q_callI6, ↓q_callS7, ↓q_callV7, ↓q_callI7, ↓q_callS8, ↓q_callV8, ↓q_callI8, ↓q_iret, ↓q_lret, ↓q_vret, q_e_i_int, q_e_l_long, q_e_a_ref, q_e_a_null, q_cat_int, q_cat_ref, q_cat_null, q_cat_long, q_na_int, q_lgt_z, q_lgt_s, q_lst0, q_lst1, q_lstS, q_lst20, q_lst21, q_lst2S, q_clr_i, q_clr_r, q_clr_n, q_clr_0, q_clr_l, q_cv_i, q_cv_l, q_cv_r, q_rv_s, q_rv_n, q_toL_s, q_toL_n, true_and, and_true, Nat.reduceAdd, s33, s34, s35, s36, s37, s38, s39, s40, s41, s42, s43, s44, s45, s46, r33_3, r33_4, r33_6, r33_7, r33_8, r33_10, r33_11, r33_12, r33_13, r33_15, r33_16, r33_18, r33_19]
    refine call_ro (c_mayGo hs hw ha) (by decide) rfl (Nat.le_refl _) (Nat.le_refl _) ?_
    simp only [↓q_nil, ↓q_iconst, ↓q_bipush, ↓q_sipush, ↓q_ldc, ↓q_lconst, ↓q_ldc2, ↓q_null, ↓q_iload, ↓q_iload_n, ↓q_lload, ↓q_lload_n, ↓q_aload, ↓q_aload_n, ↓q_istore, ↓q_istore_n, ↓q_lstore, ↓q_lstore_n, ↓q_astore, ↓q_astore_n, ↓q_iinc, ↓q_iadd, ↓q_isub, ↓q_imul, ↓q_iand, ↓q_idiv, ↓q_irem, ↓q_ineg, ↓q_ladd, ↓q_lsub, ↓q_lmul, ↓q_land, ↓q_ldiv, ↓q_lrem, ↓q_i2l, ↓q_l2i, ↓q_dup, ↓q_pop, ↓q_dup2, ↓q_dup_x1, ↓q_goto, ↓q_if_eq, ↓q_if_ne, ↓q_if_lt, ↓q_if_ge, ↓q_if_gt, ↓q_if_le, ↓q_icmp_eq, ↓q_icmp_ne, ↓q_icmp_lt, ↓q_icmp_ge, ↓q_icmp_gt, ↓q_icmp_le, ↓q_ifnullN, ↓q_ifnull, ↓q_ifnonnullN, ↓q_ifnonnull, ↓q_table, ↓q_lookup, ↓q_getf, ↓q_putI, ↓q_putJ, ↓q_putR, ↓q_iald, ↓q_sld, ↓q_slen, ↓q_alen, ↓q_iast, ↓q_bald, ↓q_bast, ↓q_aald, ↓q_aast, ↓q_newa, ↓q_newq, ↓q_new, ↓q_objInit, ↓q_max, ↓q_min, ↓q_copy, ↓q_callS0, ↓q_callV0, ↓q_callI0, ↓q_callS1, ↓q_callV1, ↓q_callI1, ↓q_callS2, ↓q_callV2, ↓q_callI2, ↓q_callS3, ↓q_callV3, ↓q_callI3, ↓q_callS4, ↓q_callV4, ↓q_callI4, ↓q_callS5, ↓q_callV5, ↓q_callI5, ↓q_callS6, ↓q_callV6, ↓q_callI6, ↓q_callS7, ↓q_callV7, ↓q_callI7, ↓q_callS8, ↓q_callV8, ↓q_callI8, ↓q_iret, ↓q_lret, ↓q_vret, q_e_i_int, q_e_l_long, q_e_a_ref, q_e_a_null, q_cat_int, q_cat_ref, q_cat_null, q_cat_long, q_na_int, q_lgt_z, q_lgt_s, q_lst0, q_lst1, q_lstS, q_lst20, q_lst21, q_lst2S, q_clr_i, q_clr_r, q_clr_n, q_clr_0, q_clr_l, q_cv_i, q_cv_l, q_cv_r, q_rv_s, q_rv_n, q_toL_s, q_toL_n, true_and, and_true, Nat.reduceAdd, s33, s34, s35, s36, s37, s38, s39, s40, s41, s42, s43, s44, s45, s46, r33_3, r33_4, r33_6, r33_7, r33_8, r33_10, r33_11, r33_12, r33_13, r33_15, r33_16, r33_18, r33_19]
    refine ⟨fun e5 => ?_, fun e5 => h94 _ (by rw [m_to, if_neg (bI_eq e4), if_pos (bI_ne e5)])⟩
    refine go_wp B_M_change_93_ok ?_; simp only [B_M_change_93, ↓q_nil, ↓q_iconst, ↓q_bipush, ↓q_sipush, ↓q_ldc, ↓q_lconst, ↓q_ldc2, ↓q_null, ↓q_iload, ↓q_iload_n, ↓q_lload, ↓q_lload_n, ↓q_aload, ↓q_aload_n, ↓q_istore, ↓q_istore_n, ↓q_lstore, ↓q_lstore_n, ↓q_astore, ↓q_astore_n, ↓q_iinc, ↓q_iadd, ↓q_isub, ↓q_imul, ↓q_iand, ↓q_idiv, ↓q_irem, ↓q_ineg, ↓q_ladd, ↓q_lsub, ↓q_lmul, ↓q_land, ↓q_ldiv, ↓q_lrem, ↓q_i2l, ↓q_l2i, ↓q_dup, ↓q_pop, ↓q_dup2, ↓q_dup_x1, ↓q_goto, ↓q_if_eq, ↓q_if_ne, ↓q_if_lt, ↓q_if_ge, ↓q_if_gt, ↓q_if_le, ↓q_icmp_eq, ↓q_icmp_ne, ↓q_icmp_lt, ↓q_icmp_ge, ↓q_icmp_gt, ↓q_icmp_le, ↓q_ifnullN, ↓q_ifnull, ↓q_ifnonnullN, ↓q_ifnonnull, ↓q_table, ↓q_lookup, ↓q_getf, ↓q_putI, ↓q_putJ, ↓q_putR, ↓q_iald, ↓q_sld, ↓q_slen, ↓q_alen, ↓q_iast, ↓q_bald, ↓q_bast, ↓q_aald, ↓q_aast, ↓q_newa, ↓q_newq, ↓q_new, ↓q_objInit, ↓q_max, ↓q_min, ↓q_copy, ↓q_callS0, ↓q_callV0, ↓q_callI0, ↓q_callS1, ↓q_callV1, ↓q_callI1, ↓q_callS2, ↓q_callV2, ↓q_callI2, ↓q_callS3, ↓q_callV3, ↓q_callI3, ↓q_callS4, ↓q_callV4, ↓q_callI4, ↓q_callS5, ↓q_callV5, ↓q_callI5, ↓q_callS6, ↓q_callV6, ↓q_callI6, ↓q_callS7, ↓q_callV7, ↓q_callI7, ↓q_callS8, ↓q_callV8, ↓q_callI8, ↓q_iret, ↓q_lret, ↓q_vret, q_e_i_int, q_e_l_long, q_e_a_ref, q_e_a_null, q_cat_int, q_cat_ref, q_cat_null, q_cat_long, q_na_int, q_lgt_z, q_lgt_s, q_lst0, q_lst1, q_lstS, q_lst20, q_lst21, q_lst2S, q_clr_i, q_clr_r, q_clr_n, q_clr_0, q_clr_l, q_cv_i, q_cv_l, q_cv_r, q_rv_s, q_rv_n, q_toL_s, q_toL_n, true_and, and_true, Nat.reduceAdd, s33, s34, s35, s36, s37, s38, s39, s40, s41, s42, s43, s44, s45, s46, r33_3, r33_4, r33_6, r33_7, r33_8, r33_10, r33_11, r33_12, r33_13, r33_15, r33_16, r33_18, r33_19]
    exact h94 _ (by rw [m_to, if_neg (bI_eq e4), if_neg (bI_eq e5)])
  · rw [if_neg (fun q => e3 q.2.1)] at hQ
    rw [← hQ]
    exact ⟨rfl, rfl, rfl, rfl⟩
end
end
section
/-! the reference: speeds -/
def mf (I : Nat → Nat → Int32) (k : Nat) (v : Int32) : Nat → Nat → Int32 := va_up I 46 (va_up (I 46) k v)
theorem mf_ne (I : Nat → Nat → Int32) (k : Nat) (v : Int32) {a : Nat} (h : a ≠ 46) : mf I k v a = I a := va_up_ne _ _ h
theorem mf_46 (I : Nat → Nat → Int32) (k : Nat) (v : Int32) : mf I k v 46 = va_up (I 46) k v := va_up_self _ _ _
theorem mci_34 (I : Nat → Nat → Int32) (k : Nat) (d : Int32) : mci I k d 34 = va_up (I 34) k (I 34 k + d) := va_up_self _ _ _
theorem mci_ne (I : Nat → Nat → Int32) (k : Nat) (d : Int32) {a : Nat} (h : a ≠ 34) : mci I k d a = I a := va_up_ne _ _ h
theorem mci_pt (I : Nat → Nat → Int32) {k : Nat} (d : Int32) {p i : Nat} (h : k < 20) : pt (mci I k d 34) p i = pt (I 34) p i := by
  show mci I k d 34 _ = I 34 _
  rw [mci_34, va_up_ne _ _ (by omega)]
theorem mp_pt (I : Nat → Nat → Int32) (i p : Nat) (v : Int32) {q j : Nat} (hp : p < 20) (hq : q < 20) : pt (mp I i p v 34) q j = if j = i ∧ q = p then v else pt (I 34) q j := by
  show mp I i p v 34 _ = _
  rw [mp_34, up_if]
  by_cases h : j = i ∧ q = p
  · rw [if_pos h, if_pos (by rw [h.1, h.2])]
  · rw [if_neg h, if_neg (by omega)]
/-- the reference's state is sound: counts, lanes L, a car's delay isn't 0, its lane is one of three -/
def MOK (I : Nat → Nat → Int32) (N nl nc ns nn L : Nat) : Prop := MW I N nl nc ns nn ∧ (I 33 1 = nI L ∧ 1 ≤ L ∧ L ≤ 3) ∧ ∀ i, i < N → ¬ pt (I 34) 10 i = 0 ∧ ∃ ln, ln < 3 ∧ pt (I 34) 1 i = nI ln
theorem MW.mci {I : Nat → Nat → Int32} {N nl nc ns nn k : Nat} {d : Int32} (hk : k ≠ 0) (h : MW I N nl nc ns nn) : MW (mci I k d) N nl nc ns nn := by
  obtain ⟨h1, h2, h3, h4, h5, h6⟩ := h
  refine ⟨by rw [mci_34, va_up_ne _ _ (fun e => hk e.symm)]; exact h1, by rw [mci_ne _ _ _ (by decide)]; exact h2, by rw [mci_ne _ _ _ (by decide)]; exact h3, by rw [mci_ne _ _ _ (by decide)]; exact h4, by rw [mci_ne _ _ _ (by decide)]; exact h5, by rw [mci_ne _ _ _ (by decide)]; exact h6⟩
theorem MW.mf {I : Nat → Nat → Int32} {N nl nc ns nn k : Nat} {v : Int32} (h : MW I N nl nc ns nn) : MW (mf I k v) N nl nc ns nn := by
  obtain ⟨h1, h2, h3, h4, h5, h6⟩ := h
  refine ⟨by rw [mf_ne _ _ _ (by decide)]; exact h1, by rw [mf_ne _ _ _ (by decide)]; exact h2, by rw [mf_ne _ _ _ (by decide)]; exact h3, by rw [mf_ne _ _ _ (by decide)]; exact h4, by rw [mf_ne _ _ _ (by decide)]; exact h5, by rw [mf_ne _ _ _ (by decide)]; exact h6⟩
theorem MOK.mci {I : Nat → Nat → Int32} {N nl nc ns nn L k : Nat} {d : Int32} (hk : k ≠ 0) (hk2 : k < 20) (h : MOK I N nl nc ns nn L) : MOK (mci I k d) N nl nc ns nn L := by
  refine ⟨h.1.mci hk, by rw [mci_ne _ _ _ (by decide)]; exact h.2.1, fun i hi => ?_⟩
  rw [mci_pt _ _ hk2, mci_pt _ _ hk2]
  exact h.2.2 i hi
theorem MOK.mf {I : Nat → Nat → Int32} {N nl nc ns nn L k : Nat} {v : Int32} (h : MOK I N nl nc ns nn L) : MOK (mf I k v) N nl nc ns nn L := by
  refine ⟨h.1.mf, by rw [mf_ne _ _ _ (by decide)]; exact h.2.1, fun i hi => ?_⟩
  rw [mf_ne _ _ _ (by decide)]
  exact h.2.2 i hi
theorem MOK.mp {I : Nat → Nat → Int32} {N nl nc ns nn L i p : Nat} {v : Int32} (hp : p < 20) (hv : p = 10 → ¬ v = 0) (hv2 : p = 1 → ∃ ln, ln < 3 ∧ v = nI ln) (h : MOK I N nl nc ns nn L) : MOK (mp I i p v) N nl nc ns nn L := by
  refine ⟨h.1.mp, by rw [mp_ne _ _ _ _ (by decide)]; exact h.2.1, fun j hj => ?_⟩
  obtain ⟨h1, ln, h2, h3⟩ := h.2.2 j hj
  rw [mp_pt _ _ _ _ hp (by decide), mp_pt _ _ _ _ hp (by decide)]
  refine ⟨?_, ?_⟩
  · split
    · next e => exact hv e.2.symm
    · exact h1
  · split
    · next e => exact hv2 e.2.symm
    · exact ⟨ln, h2, h3⟩
abbrev m_tick (c : Nat → Int32) (k : Nat) : Prop := c 1 - c 1 / pt c 10 k * pt c 10 k = 0
def m_want (c : Nat → Int32) (k : Nat) : Int32 := lsr (pt c 9 k) (pt c 4 k + if m_tick c k then 6 else 0)
def m_s1 (I : Nat → Nat → Int32) (N nl nc ns : Nat) : Nat → Nat → Nat → Int32
  | 0 => I
  | k + 1 => if pt (m_s1 I N nl nc ns k 34) 2 k = 1 then mf (m_s1 I N nl nc ns k) k (lsr (m_want (m_s1 I N nl nc ns k 34) k) (alw (m_gap (m_s1 I N nl nc ns k) N nl nc ns k (pt (m_s1 I N nl nc ns k 34) 1 k)))) else m_s1 I N nl nc ns k
def m_s2 (I : Nat → Nat → Int32) : Nat → Nat → Nat → Int32
  | 0 => I
  | k + 1 => if pt (m_s2 I k 34) 2 k = 1 then mp (mci (m_s2 I k) 4 (bI (¬ pt (m_s2 I k 34) 4 k - m_s2 I k 46 k < 20))) k 4 (mci (m_s2 I k) 4 (bI (¬ pt (m_s2 I k 34) 4 k - m_s2 I k 46 k < 20)) 46 k) else m_s2 I k
theorem m_s1_ok {I : Nat → Nat → Int32} {N nl nc ns nn L : Nat} (h : MOK I N nl nc ns nn L) : ∀ k, MOK (m_s1 I N nl nc ns k) N nl nc ns nn L
  | 0 => h
  | k + 1 => by
    rw [m_s1]
    split
    · exact (m_s1_ok h k).mf
    · exact m_s1_ok h k
theorem m_s2_ok {I : Nat → Nat → Int32} {N nl nc ns nn L : Nat} (h : MOK I N nl nc ns nn L) : ∀ k, MOK (m_s2 I k) N nl nc ns nn L
  | 0 => h
  | k + 1 => by
    rw [m_s2]
    split
    · exact ((m_s2_ok h k).mci (by decide) (by decide)).mp (by decide) (fun e => absurd e (by decide)) (fun e => absurd e (by decide))
    · exact m_s2_ok h k
def m_spd (I : Nat → Nat → Int32) (N nl nc ns : Nat) : Nat → Nat → Int32 := m_s2 (m_s1 I N nl nc ns N) N
section
variable {g : GT} {n z : Nat} {S : Nat → Nat × Nat} {I : Nat → Nat → Int32} {J : Nat → Nat → Int64} {R : Nat → Nat → Option Nat}
set_option maxRecDepth 100000 in set_option maxHeartbeats 4000000 in
theorem c_speeds (hs : ShM S R) {N nl nc ns nn L : Nat} (hw : MOK I N nl nc ns nn L) : Cn g M_M_speeds 4 0 0 [.ref (gB g + 33)] (n, z, S, I, J, R) (Is none (n, z, S, m_spd I N nl nc ns, J, R)) := by
  have hs' := hs; obtain ⟨⟨s33, s34, s35, s36, s37, s38, s39, s40, s41, s42, s43, s44, s45, s46⟩, r33_3, r33_4, r33_6, r33_7, r33_8, r33_10, r33_11, r33_12, r33_13, r33_15, r33_16, r33_18, r33_19⟩ := hs'
  have hN60 := hw.1.1.2
  refine cn_go (ls := [some (.ref (gB g + 33)), none, none, none]) kc_M_speeds (by decide) rfl rfl ?_
  generalize hQ : Is none (n, z, S, m_spd I N nl nc ns, J, R) = Q
  have h93 : ∀ o2 o3 : Option Value, Go (g, M_M_speeds, 4, n, z, 0, 0, Q) 93 [some (.ref (gB g + 33)), some (.int (nI 0)), o2, o3] [] (n, z, S, m_s2 (m_s1 I N nl nc ns N) 0, J, R) := by
    intro o2 o3
    refine go_loop (P := fun k => Go (g, M_M_speeds, 4, n, z, 0, 0, Q) 93 [some (.ref (gB g + 33)), some (.int (nI k)), o2, o3] [] (n, z, S, m_s2 (m_s1 I N nl nc ns N) k, J, R)) N ?_ ?_
    · have hN := (m_s2_ok (m_s1_ok hw N) N).1.1.1
      refine go_wp B_M_speeds_93_ok ?_; simp only [B_M_speeds_93, ↓q_nil, ↓q_iconst, ↓q_bipush, ↓q_sipush, ↓q_ldc, ↓q_lconst, ↓q_ldc2, ↓q_null, ↓q_iload, ↓q_iload_n, ↓q_lload, ↓q_lload_n, ↓q_aload, ↓q_aload_n, ↓q_istore, ↓q_istore_n, ↓q_lstore, ↓q_lstore_n, ↓q_astore, ↓q_astore_n, ↓q_iinc, ↓q_iadd, ↓q_isub, ↓q_imul, ↓q_iand, ↓q_idiv, ↓q_irem, ↓q_ineg, ↓q_ladd, ↓q_lsub, ↓q_lmul, ↓q_land, ↓q_ldiv, ↓q_lrem, ↓q_i2l, ↓q_l2i, ↓q_dup, ↓q_pop, ↓q_dup2, ↓q_dup_x1, ↓q_goto, ↓q_if_eq, ↓q_if_ne, ↓q_if_lt, ↓q_if_ge, ↓q_if_gt, ↓q_if_le, ↓q_icmp_eq, ↓q_icmp_ne, ↓q_icmp_lt, ↓q_icmp_ge, ↓q_icmp_gt, ↓q_icmp_le, ↓q_ifnullN, ↓q_ifnull, ↓q_ifnonnullN, ↓q_ifnonnull, ↓q_table, ↓q_lookup, ↓q_getf, ↓q_putI, ↓q_putJ, ↓q_putR, ↓q_iald, ↓q_sld, ↓q_slen, ↓q_alen, ↓q_iast, ↓q_bald, ↓q_bast, ↓q_aald, ↓q_aast, ↓q_newa, ↓q_newq, ↓q_new, ↓q_objInit, ↓q_max, ↓q_min, ↓q_copy, ↓q_callS0, ↓q_callV0, ↓q_callI0, ↓q_callS1, ↓q_callV1, ↓q_callI1, ↓q_callS2, ↓q_callV2, ↓q_callI2, ↓q_callS3, ↓q_callV3, ↓q_callI3, ↓q_callS4, ↓q_callV4, ↓q_callI4, ↓q_callS5, ↓q_callV5, ↓q_callI5, ↓q_callS6, ↓q_callV6, ↓q_callI6, ↓q_callS7, ↓q_callV7, ↓q_callI7, ↓q_callS8, ↓q_callV8, ↓q_callI8, ↓q_iret, ↓q_lret, ↓q_vret, q_e_i_int, q_e_l_long, q_e_a_ref, q_e_a_null, q_cat_int, q_cat_ref, q_cat_null, q_cat_long, q_na_int, q_lgt_z, q_lgt_s, q_lst0, q_lst1, q_lstS, q_lst20, q_lst21, q_lst2S, q_clr_i, q_clr_r, q_clr_n, q_clr_0, q_clr_l, q_cv_i, q_cv_l, q_cv_r, q_rv_s, q_rv_n, q_toL_s, q_toL_n, true_and, and_true, Nat.reduceAdd, s33, s34, s35, s36, s37, s38, s39, s40, s41, s42, s43, s44, s45, s46, r33_3, r33_4, r33_6, r33_7, r33_8, r33_10, r33_11, r33_12, r33_13, r33_15, r33_16, r33_18, r33_19]
      refine call_ro (c_cars hs) (by decide) rfl (Nat.le_refl _) (Nat.le_refl _) ?_
      simp only [↓q_nil, ↓q_iconst, ↓q_bipush, ↓q_sipush, ↓q_ldc, ↓q_lconst, ↓q_ldc2, ↓q_null, ↓q_iload, ↓q_iload_n, ↓q_lload, ↓q_lload_n, ↓q_aload, ↓q_aload_n, ↓q_istore, ↓q_istore_n, ↓q_lstore, ↓q_lstore_n, ↓q_astore, ↓q_astore_n, ↓q_iinc, ↓q_iadd, ↓q_isub, ↓q_imul, ↓q_iand, ↓q_idiv, ↓q_irem, ↓q_ineg, ↓q_ladd, ↓q_lsub, ↓q_lmul, ↓q_land, ↓q_ldiv, ↓q_lrem, ↓q_i2l, ↓q_l2i, ↓q_dup, ↓q_pop, ↓q_dup2, ↓q_dup_x1, ↓q_goto, ↓q_if_eq, ↓q_if_ne, ↓q_if_lt, ↓q_if_ge, ↓q_if_gt, ↓q_if_le, ↓q_icmp_eq, ↓q_icmp_ne, ↓q_icmp_lt, ↓q_icmp_ge, ↓q_icmp_gt, ↓q_icmp_le, ↓q_ifnullN, ↓q_ifnull, ↓q_ifnonnullN, ↓q_ifnonnull, ↓q_table, ↓q_lookup, ↓q_getf, ↓q_putI, ↓q_putJ, ↓q_putR, ↓q_iald, ↓q_sld, ↓q_slen, ↓q_alen, ↓q_iast, ↓q_bald, ↓q_bast, ↓q_aald, ↓q_aast, ↓q_newa, ↓q_newq, ↓q_new, ↓q_objInit, ↓q_max, ↓q_min, ↓q_copy, ↓q_callS0, ↓q_callV0, ↓q_callI0, ↓q_callS1, ↓q_callV1, ↓q_callI1, ↓q_callS2, ↓q_callV2, ↓q_callI2, ↓q_callS3, ↓q_callV3, ↓q_callI3, ↓q_callS4, ↓q_callV4, ↓q_callI4, ↓q_callS5, ↓q_callV5, ↓q_callI5, ↓q_callS6, ↓q_callV6, ↓q_callI6, ↓q_callS7, ↓q_callV7, ↓q_callI7, ↓q_callS8, ↓q_callV8, ↓q_callI8, ↓q_iret, ↓q_lret, ↓q_vret, q_e_i_int, q_e_l_long, q_e_a_ref, q_e_a_null, q_cat_int, q_cat_ref, q_cat_null, q_cat_long, q_na_int, q_lgt_z, q_lgt_s, q_lst0, q_lst1, q_lstS, q_lst20, q_lst21, q_lst2S, q_clr_i, q_clr_r, q_clr_n, q_clr_0, q_clr_l, q_cv_i, q_cv_l, q_cv_r, q_rv_s, q_rv_n, q_toL_s, q_toL_n, true_and, and_true, Nat.reduceAdd, s33, s34, s35, s36, s37, s38, s39, s40, s41, s42, s43, s44, s45, s46, r33_3, r33_4, r33_6, r33_7, r33_8, r33_10, r33_11, r33_12, r33_13, r33_15, r33_16, r33_18, r33_19, hN]
      refine ⟨fun h => absurd h (nI_nlt (Nat.le_refl _) (by omega)), fun _ => ?_⟩
      refine go_wp B_M_speeds_161_ok ?_; simp only [B_M_speeds_161, ↓q_nil, ↓q_iconst, ↓q_bipush, ↓q_sipush, ↓q_ldc, ↓q_lconst, ↓q_ldc2, ↓q_null, ↓q_iload, ↓q_iload_n, ↓q_lload, ↓q_lload_n, ↓q_aload, ↓q_aload_n, ↓q_istore, ↓q_istore_n, ↓q_lstore, ↓q_lstore_n, ↓q_astore, ↓q_astore_n, ↓q_iinc, ↓q_iadd, ↓q_isub, ↓q_imul, ↓q_iand, ↓q_idiv, ↓q_irem, ↓q_ineg, ↓q_ladd, ↓q_lsub, ↓q_lmul, ↓q_land, ↓q_ldiv, ↓q_lrem, ↓q_i2l, ↓q_l2i, ↓q_dup, ↓q_pop, ↓q_dup2, ↓q_dup_x1, ↓q_goto, ↓q_if_eq, ↓q_if_ne, ↓q_if_lt, ↓q_if_ge, ↓q_if_gt, ↓q_if_le, ↓q_icmp_eq, ↓q_icmp_ne, ↓q_icmp_lt, ↓q_icmp_ge, ↓q_icmp_gt, ↓q_icmp_le, ↓q_ifnullN, ↓q_ifnull, ↓q_ifnonnullN, ↓q_ifnonnull, ↓q_table, ↓q_lookup, ↓q_getf, ↓q_putI, ↓q_putJ, ↓q_putR, ↓q_iald, ↓q_sld, ↓q_slen, ↓q_alen, ↓q_iast, ↓q_bald, ↓q_bast, ↓q_aald, ↓q_aast, ↓q_newa, ↓q_newq, ↓q_new, ↓q_objInit, ↓q_max, ↓q_min, ↓q_copy, ↓q_callS0, ↓q_callV0, ↓q_callI0, ↓q_callS1, ↓q_callV1, ↓q_callI1, ↓q_callS2, ↓q_callV2, ↓q_callI2, ↓q_callS3, ↓q_callV3, ↓q_callI3, ↓q_callS4, ↓q_callV4, ↓q_callI4, ↓q_callS5, ↓q_callV5, ↓q_callI5, ↓q_callS6, ↓q_callV6, ↓q_callI6, ↓q_callS7, ↓q_callV7, ↓q_callI7, ↓q_callS8, ↓q_callV8, ↓q_callI8, ↓q_iret, ↓q_lret, ↓q_vret, q_e_i_int, q_e_l_long, q_e_a_ref, q_e_a_null, q_cat_int, q_cat_ref, q_cat_null, q_cat_long, q_na_int, q_lgt_z, q_lgt_s, q_lst0, q_lst1, q_lstS, q_lst20, q_lst21, q_lst2S, q_clr_i, q_clr_r, q_clr_n, q_clr_0, q_clr_l, q_cv_i, q_cv_l, q_cv_r, q_rv_s, q_rv_n, q_toL_s, q_toL_n, true_and, and_true, Nat.reduceAdd, s33, s34, s35, s36, s37, s38, s39, s40, s41, s42, s43, s44, s45, s46, r33_3, r33_4, r33_6, r33_7, r33_8, r33_10, r33_11, r33_12, r33_13, r33_15, r33_16, r33_18, r33_19]
      rw [← hQ]
      exact ⟨rfl, rfl, rfl, rfl⟩
    · intro k hk ih
      have hN := (m_s2_ok (m_s1_ok hw N) k).1.1.1
      have hk60 : k < 60 := by omega
      rw [m_s2] at ih
      generalize m_s2 (m_s1 I N nl nc ns N) k = I2 at ih hN ⊢
      refine go_wp B_M_speeds_93_ok ?_; simp only [B_M_speeds_93, ↓q_nil, ↓q_iconst, ↓q_bipush, ↓q_sipush, ↓q_ldc, ↓q_lconst, ↓q_ldc2, ↓q_null, ↓q_iload, ↓q_iload_n, ↓q_lload, ↓q_lload_n, ↓q_aload, ↓q_aload_n, ↓q_istore, ↓q_istore_n, ↓q_lstore, ↓q_lstore_n, ↓q_astore, ↓q_astore_n, ↓q_iinc, ↓q_iadd, ↓q_isub, ↓q_imul, ↓q_iand, ↓q_idiv, ↓q_irem, ↓q_ineg, ↓q_ladd, ↓q_lsub, ↓q_lmul, ↓q_land, ↓q_ldiv, ↓q_lrem, ↓q_i2l, ↓q_l2i, ↓q_dup, ↓q_pop, ↓q_dup2, ↓q_dup_x1, ↓q_goto, ↓q_if_eq, ↓q_if_ne, ↓q_if_lt, ↓q_if_ge, ↓q_if_gt, ↓q_if_le, ↓q_icmp_eq, ↓q_icmp_ne, ↓q_icmp_lt, ↓q_icmp_ge, ↓q_icmp_gt, ↓q_icmp_le, ↓q_ifnullN, ↓q_ifnull, ↓q_ifnonnullN, ↓q_ifnonnull, ↓q_table, ↓q_lookup, ↓q_getf, ↓q_putI, ↓q_putJ, ↓q_putR, ↓q_iald, ↓q_sld, ↓q_slen, ↓q_alen, ↓q_iast, ↓q_bald, ↓q_bast, ↓q_aald, ↓q_aast, ↓q_newa, ↓q_newq, ↓q_new, ↓q_objInit, ↓q_max, ↓q_min, ↓q_copy, ↓q_callS0, ↓q_callV0, ↓q_callI0, ↓q_callS1, ↓q_callV1, ↓q_callI1, ↓q_callS2, ↓q_callV2, ↓q_callI2, ↓q_callS3, ↓q_callV3, ↓q_callI3, ↓q_callS4, ↓q_callV4, ↓q_callI4, ↓q_callS5, ↓q_callV5, ↓q_callI5, ↓q_callS6, ↓q_callV6, ↓q_callI6, ↓q_callS7, ↓q_callV7, ↓q_callI7, ↓q_callS8, ↓q_callV8, ↓q_callI8, ↓q_iret, ↓q_lret, ↓q_vret, q_e_i_int, q_e_l_long, q_e_a_ref, q_e_a_null, q_cat_int, q_cat_ref, q_cat_null, q_cat_long, q_na_int, q_lgt_z, q_lgt_s, q_lst0, q_lst1, q_lstS, q_lst20, q_lst21, q_lst2S, q_clr_i, q_clr_r, q_clr_n, q_clr_0, q_clr_l, q_cv_i, q_cv_l, q_cv_r, q_rv_s, q_rv_n, q_toL_s, q_toL_n, true_and, and_true, Nat.reduceAdd, s33, s34, s35, s36, s37, s38, s39, s40, s41, s42, s43, s44, s45, s46, r33_3, r33_4, r33_6, r33_7, r33_8, r33_10, r33_11, r33_12, r33_13, r33_15, r33_16, r33_18, r33_19]
      refine call_ro (c_cars hs) (by decide) rfl (Nat.le_refl _) (Nat.le_refl _) ?_
      simp only [↓q_nil, ↓q_iconst, ↓q_bipush, ↓q_sipush, ↓q_ldc, ↓q_lconst, ↓q_ldc2, ↓q_null, ↓q_iload, ↓q_iload_n, ↓q_lload, ↓q_lload_n, ↓q_aload, ↓q_aload_n, ↓q_istore, ↓q_istore_n, ↓q_lstore, ↓q_lstore_n, ↓q_astore, ↓q_astore_n, ↓q_iinc, ↓q_iadd, ↓q_isub, ↓q_imul, ↓q_iand, ↓q_idiv, ↓q_irem, ↓q_ineg, ↓q_ladd, ↓q_lsub, ↓q_lmul, ↓q_land, ↓q_ldiv, ↓q_lrem, ↓q_i2l, ↓q_l2i, ↓q_dup, ↓q_pop, ↓q_dup2, ↓q_dup_x1, ↓q_goto, ↓q_if_eq, ↓q_if_ne, ↓q_if_lt, ↓q_if_ge, ↓q_if_gt, ↓q_if_le, ↓q_icmp_eq, ↓q_icmp_ne, ↓q_icmp_lt, ↓q_icmp_ge, ↓q_icmp_gt, ↓q_icmp_le, ↓q_ifnullN, ↓q_ifnull, ↓q_ifnonnullN, ↓q_ifnonnull, ↓q_table, ↓q_lookup, ↓q_getf, ↓q_putI, ↓q_putJ, ↓q_putR, ↓q_iald, ↓q_sld, ↓q_slen, ↓q_alen, ↓q_iast, ↓q_bald, ↓q_bast, ↓q_aald, ↓q_aast, ↓q_newa, ↓q_newq, ↓q_new, ↓q_objInit, ↓q_max, ↓q_min, ↓q_copy, ↓q_callS0, ↓q_callV0, ↓q_callI0, ↓q_callS1, ↓q_callV1, ↓q_callI1, ↓q_callS2, ↓q_callV2, ↓q_callI2, ↓q_callS3, ↓q_callV3, ↓q_callI3, ↓q_callS4, ↓q_callV4, ↓q_callI4, ↓q_callS5, ↓q_callV5, ↓q_callI5, ↓q_callS6, ↓q_callV6, ↓q_callI6, ↓q_callS7, ↓q_callV7, ↓q_callI7, ↓q_callS8, ↓q_callV8, ↓q_callI8, ↓q_iret, ↓q_lret, ↓q_vret, q_e_i_int, q_e_l_long, q_e_a_ref, q_e_a_null, q_cat_int, q_cat_ref, q_cat_null, q_cat_long, q_na_int, q_lgt_z, q_lgt_s, q_lst0, q_lst1, q_lstS, q_lst20, q_lst21, q_lst2S, q_clr_i, q_clr_r, q_clr_n, q_clr_0, q_clr_l, q_cv_i, q_cv_l, q_cv_r, q_rv_s, q_rv_n, q_toL_s, q_toL_n, true_and, and_true, Nat.reduceAdd, s33, s34, s35, s36, s37, s38, s39, s40, s41, s42, s43, s44, s45, s46, r33_3, r33_4, r33_6, r33_7, r33_8, r33_10, r33_11, r33_12, r33_13, r33_15, r33_16, r33_18, r33_19, hN]
      refine ⟨fun _ => ?_, fun h => absurd (nI_lt hk (by omega)) h⟩
      refine call_ro (c_of hs (p := 2) hk60 (by decide)) (by decide) rfl (Nat.le_refl _) (Nat.le_refl _) ?_
      simp only [↓q_nil, ↓q_iconst, ↓q_bipush, ↓q_sipush, ↓q_ldc, ↓q_lconst, ↓q_ldc2, ↓q_null, ↓q_iload, ↓q_iload_n, ↓q_lload, ↓q_lload_n, ↓q_aload, ↓q_aload_n, ↓q_istore, ↓q_istore_n, ↓q_lstore, ↓q_lstore_n, ↓q_astore, ↓q_astore_n, ↓q_iinc, ↓q_iadd, ↓q_isub, ↓q_imul, ↓q_iand, ↓q_idiv, ↓q_irem, ↓q_ineg, ↓q_ladd, ↓q_lsub, ↓q_lmul, ↓q_land, ↓q_ldiv, ↓q_lrem, ↓q_i2l, ↓q_l2i, ↓q_dup, ↓q_pop, ↓q_dup2, ↓q_dup_x1, ↓q_goto, ↓q_if_eq, ↓q_if_ne, ↓q_if_lt, ↓q_if_ge, ↓q_if_gt, ↓q_if_le, ↓q_icmp_eq, ↓q_icmp_ne, ↓q_icmp_lt, ↓q_icmp_ge, ↓q_icmp_gt, ↓q_icmp_le, ↓q_ifnullN, ↓q_ifnull, ↓q_ifnonnullN, ↓q_ifnonnull, ↓q_table, ↓q_lookup, ↓q_getf, ↓q_putI, ↓q_putJ, ↓q_putR, ↓q_iald, ↓q_sld, ↓q_slen, ↓q_alen, ↓q_iast, ↓q_bald, ↓q_bast, ↓q_aald, ↓q_aast, ↓q_newa, ↓q_newq, ↓q_new, ↓q_objInit, ↓q_max, ↓q_min, ↓q_copy, ↓q_callS0, ↓q_callV0, ↓q_callI0, ↓q_callS1, ↓q_callV1, ↓q_callI1, ↓q_callS2, ↓q_callV2, ↓q_callI2, ↓q_callS3, ↓q_callV3, ↓q_callI3, ↓q_callS4, ↓q_callV4, ↓q_callI4, ↓q_callS5, ↓q_callV5, ↓q_callI5, ↓q_callS6, ↓q_callV6, ↓q_callI6, ↓q_callS7, ↓q_callV7, ↓q_callI7, ↓q_callS8, ↓q_callV8, ↓q_callI8, ↓q_iret, ↓q_lret, ↓q_vret, q_e_i_int, q_e_l_long, q_e_a_ref, q_e_a_null, q_cat_int, q_cat_ref, q_cat_null, q_cat_long, q_na_int, q_lgt_z, q_lgt_s, q_lst0, q_lst1, q_lstS, q_lst20, q_lst21, q_lst2S, q_clr_i, q_clr_r, q_clr_n, q_clr_0, q_clr_l, q_cv_i, q_cv_l, q_cv_r, q_rv_s, q_rv_n, q_toL_s, q_toL_n, true_and, and_true, Nat.reduceAdd, s33, s34, s35, s36, s37, s38, s39, s40, s41, s42, s43, s44, s45, s46, r33_3, r33_4, r33_6, r33_7, r33_8, r33_10, r33_11, r33_12, r33_13, r33_15, r33_16, r33_18, r33_19]
      refine ⟨fun e1 => ?_, fun e1 => ?_⟩
      · rw [if_pos e1] at ih
        refine ⟨vp_in_iff.mpr (by decide), ?_⟩
        refine call_ro (c_of hs (p := 4) hk60 (by decide)) (by decide) rfl (Nat.le_refl _) (Nat.le_refl _) ?_
        simp only [↓q_nil, ↓q_iconst, ↓q_bipush, ↓q_sipush, ↓q_ldc, ↓q_lconst, ↓q_ldc2, ↓q_null, ↓q_iload, ↓q_iload_n, ↓q_lload, ↓q_lload_n, ↓q_aload, ↓q_aload_n, ↓q_istore, ↓q_istore_n, ↓q_lstore, ↓q_lstore_n, ↓q_astore, ↓q_astore_n, ↓q_iinc, ↓q_iadd, ↓q_isub, ↓q_imul, ↓q_iand, ↓q_idiv, ↓q_irem, ↓q_ineg, ↓q_ladd, ↓q_lsub, ↓q_lmul, ↓q_land, ↓q_ldiv, ↓q_lrem, ↓q_i2l, ↓q_l2i, ↓q_dup, ↓q_pop, ↓q_dup2, ↓q_dup_x1, ↓q_goto, ↓q_if_eq, ↓q_if_ne, ↓q_if_lt, ↓q_if_ge, ↓q_if_gt, ↓q_if_le, ↓q_icmp_eq, ↓q_icmp_ne, ↓q_icmp_lt, ↓q_icmp_ge, ↓q_icmp_gt, ↓q_icmp_le, ↓q_ifnullN, ↓q_ifnull, ↓q_ifnonnullN, ↓q_ifnonnull, ↓q_table, ↓q_lookup, ↓q_getf, ↓q_putI, ↓q_putJ, ↓q_putR, ↓q_iald, ↓q_sld, ↓q_slen, ↓q_alen, ↓q_iast, ↓q_bald, ↓q_bast, ↓q_aald, ↓q_aast, ↓q_newa, ↓q_newq, ↓q_new, ↓q_objInit, ↓q_max, ↓q_min, ↓q_copy, ↓q_callS0, ↓q_callV0, ↓q_callI0, ↓q_callS1, ↓q_callV1, ↓q_callI1, ↓q_callS2, ↓q_callV2, ↓q_callI2, ↓q_callS3, ↓q_callV3, ↓q_callI3, ↓q_callS4, ↓q_callV4, ↓q_callI4, ↓q_callS5, ↓q_callV5, ↓q_callI5, ↓q_callS6, ↓q_callV6, ↓q_callI6, ↓q_callS7, ↓q_callV7, ↓q_callI7, ↓q_callS8, ↓q_callV8, ↓q_callI8, ↓q_iret, ↓q_lret, ↓q_vret, q_e_i_int, q_e_l_long, q_e_a_ref, q_e_a_null, q_cat_int, q_cat_ref, q_cat_null, q_cat_long, q_na_int, q_lgt_z, q_lgt_s, q_lst0, q_lst1, q_lstS, q_lst20, q_lst21, q_lst2S, q_clr_i, q_clr_r, q_clr_n, q_clr_0, q_clr_l, q_cv_i, q_cv_l, q_cv_r, q_rv_s, q_rv_n, q_toL_s, q_toL_n, true_and, and_true, Nat.reduceAdd, s33, s34, s35, s36, s37, s38, s39, s40, s41, s42, s43, s44, s45, s46, r33_3, r33_4, r33_6, r33_7, r33_8, r33_10, r33_11, r33_12, r33_13, r33_15, r33_16, r33_18, r33_19, cl_nI (show k < 2147483648 by omega)]
        refine ⟨vp_nI hk60 (by decide), ?_⟩
        have h141 : ∀ d : Int32, d = bI (¬ pt (I2 34) 4 k - I2 46 k < 20) → Go (g, M_M_speeds, 4, n, z, 0, 0, Q) 141 [some (.ref (gB g + 33)), some (.int (nI k)), o2, o3] [.int d, .int (I2 34 (4 : Int32).toNatClampNeg), .int 4, .ref (gB g + 34)] (n, z, S, I2, J, R) := by
          intro d hdd
          rw [← hdd] at ih
          refine go_wp B_M_speeds_141_ok ?_; simp only [B_M_speeds_141, ↓q_nil, ↓q_iconst, ↓q_bipush, ↓q_sipush, ↓q_ldc, ↓q_lconst, ↓q_ldc2, ↓q_null, ↓q_iload, ↓q_iload_n, ↓q_lload, ↓q_lload_n, ↓q_aload, ↓q_aload_n, ↓q_istore, ↓q_istore_n, ↓q_lstore, ↓q_lstore_n, ↓q_astore, ↓q_astore_n, ↓q_iinc, ↓q_iadd, ↓q_isub, ↓q_imul, ↓q_iand, ↓q_idiv, ↓q_irem, ↓q_ineg, ↓q_ladd, ↓q_lsub, ↓q_lmul, ↓q_land, ↓q_ldiv, ↓q_lrem, ↓q_i2l, ↓q_l2i, ↓q_dup, ↓q_pop, ↓q_dup2, ↓q_dup_x1, ↓q_goto, ↓q_if_eq, ↓q_if_ne, ↓q_if_lt, ↓q_if_ge, ↓q_if_gt, ↓q_if_le, ↓q_icmp_eq, ↓q_icmp_ne, ↓q_icmp_lt, ↓q_icmp_ge, ↓q_icmp_gt, ↓q_icmp_le, ↓q_ifnullN, ↓q_ifnull, ↓q_ifnonnullN, ↓q_ifnonnull, ↓q_table, ↓q_lookup, ↓q_getf, ↓q_putI, ↓q_putJ, ↓q_putR, ↓q_iald, ↓q_sld, ↓q_slen, ↓q_alen, ↓q_iast, ↓q_bald, ↓q_bast, ↓q_aald, ↓q_aast, ↓q_newa, ↓q_newq, ↓q_new, ↓q_objInit, ↓q_max, ↓q_min, ↓q_copy, ↓q_callS0, ↓q_callV0, ↓q_callI0, ↓q_callS1, ↓q_callV1, ↓q_callI1, ↓q_callS2, ↓q_callV2, ↓q_callI2, ↓q_callS3, ↓q_callV3, ↓q_callI3, ↓q_callS4, ↓q_callV4, ↓q_callI4, ↓q_callS5, ↓q_callV5, ↓q_callI5, ↓q_callS6, ↓q_callV6, ↓q_callI6, ↓q_callS7, ↓q_callV7, ↓q_callI7, ↓q_callS8, ↓q_callV8, ↓q_callI8, ↓q_iret, ↓q_lret, ↓q_vret, q_e_i_int, q_e_l_long, q_e_a_ref, q_e_a_null, q_cat_int, q_cat_ref, q_cat_null, q_cat_long, q_na_int, q_lgt_z, q_lgt_s, q_lst0, q_lst1, q_lstS, q_lst20, q_lst21, q_lst2S, q_clr_i, q_clr_r, q_clr_n, q_clr_0, q_clr_l, q_cv_i, q_cv_l, q_cv_r, q_rv_s, q_rv_n, q_toL_s, q_toL_n, true_and, and_true, Nat.reduceAdd, s33, s34, s35, s36, s37, s38, s39, s40, s41, s42, s43, s44, s45, s46, r33_3, r33_4, r33_6, r33_7, r33_8, r33_10, r33_11, r33_12, r33_13, r33_15, r33_16, r33_18, r33_19, cl_nI (show k < 2147483648 by omega)]
          refine ⟨vp_in_iff.mpr (by decide), vp_nI hk60 (by decide), ?_⟩
          refine call_ro (c_putm hs (I := mci I2 4 d) (p := 4) hk60 (by decide)) (by decide) rfl (Nat.le_refl _) (Nat.le_refl _) ?_
          simp only [↓q_nil, ↓q_iconst, ↓q_bipush, ↓q_sipush, ↓q_ldc, ↓q_lconst, ↓q_ldc2, ↓q_null, ↓q_iload, ↓q_iload_n, ↓q_lload, ↓q_lload_n, ↓q_aload, ↓q_aload_n, ↓q_istore, ↓q_istore_n, ↓q_lstore, ↓q_lstore_n, ↓q_astore, ↓q_astore_n, ↓q_iinc, ↓q_iadd, ↓q_isub, ↓q_imul, ↓q_iand, ↓q_idiv, ↓q_irem, ↓q_ineg, ↓q_ladd, ↓q_lsub, ↓q_lmul, ↓q_land, ↓q_ldiv, ↓q_lrem, ↓q_i2l, ↓q_l2i, ↓q_dup, ↓q_pop, ↓q_dup2, ↓q_dup_x1, ↓q_goto, ↓q_if_eq, ↓q_if_ne, ↓q_if_lt, ↓q_if_ge, ↓q_if_gt, ↓q_if_le, ↓q_icmp_eq, ↓q_icmp_ne, ↓q_icmp_lt, ↓q_icmp_ge, ↓q_icmp_gt, ↓q_icmp_le, ↓q_ifnullN, ↓q_ifnull, ↓q_ifnonnullN, ↓q_ifnonnull, ↓q_table, ↓q_lookup, ↓q_getf, ↓q_putI, ↓q_putJ, ↓q_putR, ↓q_iald, ↓q_sld, ↓q_slen, ↓q_alen, ↓q_iast, ↓q_bald, ↓q_bast, ↓q_aald, ↓q_aast, ↓q_newa, ↓q_newq, ↓q_new, ↓q_objInit, ↓q_max, ↓q_min, ↓q_copy, ↓q_callS0, ↓q_callV0, ↓q_callI0, ↓q_callS1, ↓q_callV1, ↓q_callI1, ↓q_callS2, ↓q_callV2, ↓q_callI2, ↓q_callS3, ↓q_callV3, ↓q_callI3, ↓q_callS4, ↓q_callV4, ↓q_callI4, ↓q_callS5, ↓q_callV5, ↓q_callI5, ↓q_callS6, ↓q_callV6, ↓q_callI6, ↓q_callS7, ↓q_callV7, ↓q_callI7, ↓q_callS8, ↓q_callV8, ↓q_callI8, ↓q_iret, ↓q_lret, ↓q_vret, q_e_i_int, q_e_l_long, q_e_a_ref, q_e_a_null, q_cat_int, q_cat_ref, q_cat_null, q_cat_long, q_na_int, q_lgt_z, q_lgt_s, q_lst0, q_lst1, q_lstS, q_lst20, q_lst21, q_lst2S, q_clr_i, q_clr_r, q_clr_n, q_clr_0, q_clr_l, q_cv_i, q_cv_l, q_cv_r, q_rv_s, q_rv_n, q_toL_s, q_toL_n, true_and, and_true, Nat.reduceAdd, s33, s34, s35, s36, s37, s38, s39, s40, s41, s42, s43, s44, s45, s46, r33_3, r33_4, r33_6, r33_7, r33_8, r33_10, r33_11, r33_12, r33_13, r33_15, r33_16, r33_18, r33_19]
          refine go_wp B_M_speeds_155_ok ?_; simp only [B_M_speeds_155, ↓q_nil, ↓q_iconst, ↓q_bipush, ↓q_sipush, ↓q_ldc, ↓q_lconst, ↓q_ldc2, ↓q_null, ↓q_iload, ↓q_iload_n, ↓q_lload, ↓q_lload_n, ↓q_aload, ↓q_aload_n, ↓q_istore, ↓q_istore_n, ↓q_lstore, ↓q_lstore_n, ↓q_astore, ↓q_astore_n, ↓q_iinc, ↓q_iadd, ↓q_isub, ↓q_imul, ↓q_iand, ↓q_idiv, ↓q_irem, ↓q_ineg, ↓q_ladd, ↓q_lsub, ↓q_lmul, ↓q_land, ↓q_ldiv, ↓q_lrem, ↓q_i2l, ↓q_l2i, ↓q_dup, ↓q_pop, ↓q_dup2, ↓q_dup_x1, ↓q_goto, ↓q_if_eq, ↓q_if_ne, ↓q_if_lt, ↓q_if_ge, ↓q_if_gt, ↓q_if_le, ↓q_icmp_eq, ↓q_icmp_ne, ↓q_icmp_lt, ↓q_icmp_ge, ↓q_icmp_gt, ↓q_icmp_le, ↓q_ifnullN, ↓q_ifnull, ↓q_ifnonnullN, ↓q_ifnonnull, ↓q_table, ↓q_lookup, ↓q_getf, ↓q_putI, ↓q_putJ, ↓q_putR, ↓q_iald, ↓q_sld, ↓q_slen, ↓q_alen, ↓q_iast, ↓q_bald, ↓q_bast, ↓q_aald, ↓q_aast, ↓q_newa, ↓q_newq, ↓q_new, ↓q_objInit, ↓q_max, ↓q_min, ↓q_copy, ↓q_callS0, ↓q_callV0, ↓q_callI0, ↓q_callS1, ↓q_callV1, ↓q_callI1, ↓q_callS2, ↓q_callV2, ↓q_callI2, ↓q_callS3, ↓q_callV3, ↓q_callI3, ↓q_callS4, ↓q_callV4, ↓q_callI4, ↓q_callS5, ↓q_callV5, ↓q_callI5, ↓q_callS6, ↓q_callV6, ↓q_callI6, ↓q_callS7, ↓q_callV7, ↓q_callI7, ↓q_callS8, ↓q_callV8, ↓q_callI8, ↓q_iret, ↓q_lret, ↓q_vret, q_e_i_int, q_e_l_long, q_e_a_ref, q_e_a_null, q_cat_int, q_cat_ref, q_cat_null, q_cat_long, q_na_int, q_lgt_z, q_lgt_s, q_lst0, q_lst1, q_lstS, q_lst20, q_lst21, q_lst2S, q_clr_i, q_clr_r, q_clr_n, q_clr_0, q_clr_l, q_cv_i, q_cv_l, q_cv_r, q_rv_s, q_rv_n, q_toL_s, q_toL_n, true_and, and_true, Nat.reduceAdd, s33, s34, s35, s36, s37, s38, s39, s40, s41, s42, s43, s44, s45, s46, r33_3, r33_4, r33_6, r33_7, r33_8, r33_10, r33_11, r33_12, r33_13, r33_15, r33_16, r33_18, r33_19, nI_inc]
          exact ih
        refine ⟨fun e2 => ?_, fun e2 => h141 1 (by rw [bI_t e2])⟩
        refine go_wp B_M_speeds_140_ok ?_; simp only [B_M_speeds_140, ↓q_nil, ↓q_iconst, ↓q_bipush, ↓q_sipush, ↓q_ldc, ↓q_lconst, ↓q_ldc2, ↓q_null, ↓q_iload, ↓q_iload_n, ↓q_lload, ↓q_lload_n, ↓q_aload, ↓q_aload_n, ↓q_istore, ↓q_istore_n, ↓q_lstore, ↓q_lstore_n, ↓q_astore, ↓q_astore_n, ↓q_iinc, ↓q_iadd, ↓q_isub, ↓q_imul, ↓q_iand, ↓q_idiv, ↓q_irem, ↓q_ineg, ↓q_ladd, ↓q_lsub, ↓q_lmul, ↓q_land, ↓q_ldiv, ↓q_lrem, ↓q_i2l, ↓q_l2i, ↓q_dup, ↓q_pop, ↓q_dup2, ↓q_dup_x1, ↓q_goto, ↓q_if_eq, ↓q_if_ne, ↓q_if_lt, ↓q_if_ge, ↓q_if_gt, ↓q_if_le, ↓q_icmp_eq, ↓q_icmp_ne, ↓q_icmp_lt, ↓q_icmp_ge, ↓q_icmp_gt, ↓q_icmp_le, ↓q_ifnullN, ↓q_ifnull, ↓q_ifnonnullN, ↓q_ifnonnull, ↓q_table, ↓q_lookup, ↓q_getf, ↓q_putI, ↓q_putJ, ↓q_putR, ↓q_iald, ↓q_sld, ↓q_slen, ↓q_alen, ↓q_iast, ↓q_bald, ↓q_bast, ↓q_aald, ↓q_aast, ↓q_newa, ↓q_newq, ↓q_new, ↓q_objInit, ↓q_max, ↓q_min, ↓q_copy, ↓q_callS0, ↓q_callV0, ↓q_callI0, ↓q_callS1, ↓q_callV1, ↓q_callI1, ↓q_callS2, ↓q_callV2, ↓q_callI2, ↓q_callS3, ↓q_callV3, ↓q_callI3, ↓q_callS4, ↓q_callV4, ↓q_callI4, ↓q_callS5, ↓q_callV5, ↓q_callI5, ↓q_callS6, ↓q_callV6, ↓q_callI6, ↓q_callS7, ↓q_callV7, ↓q_callI7, ↓q_callS8, ↓q_callV8, ↓q_callI8, ↓q_iret, ↓q_lret, ↓q_vret, q_e_i_int, q_e_l_long, q_e_a_ref, q_e_a_null, q_cat_int, q_cat_ref, q_cat_null, q_cat_long, q_na_int, q_lgt_z, q_lgt_s, q_lst0, q_lst1, q_lstS, q_lst20, q_lst21, q_lst2S, q_clr_i, q_clr_r, q_clr_n, q_clr_0, q_clr_l, q_cv_i, q_cv_l, q_cv_r, q_rv_s, q_rv_n, q_toL_s, q_toL_n, true_and, and_true, Nat.reduceAdd, s33, s34, s35, s36, s37, s38, s39, s40, s41, s42, s43, s44, s45, s46, r33_3, r33_4, r33_6, r33_7, r33_8, r33_10, r33_11, r33_12, r33_13, r33_15, r33_16, r33_18, r33_19]
        exact h141 0 (by rw [bI_f (fun q => q e2)])
      · rw [if_neg e1] at ih
        refine go_wp B_M_speeds_155_ok ?_; simp only [B_M_speeds_155, ↓q_nil, ↓q_iconst, ↓q_bipush, ↓q_sipush, ↓q_ldc, ↓q_lconst, ↓q_ldc2, ↓q_null, ↓q_iload, ↓q_iload_n, ↓q_lload, ↓q_lload_n, ↓q_aload, ↓q_aload_n, ↓q_istore, ↓q_istore_n, ↓q_lstore, ↓q_lstore_n, ↓q_astore, ↓q_astore_n, ↓q_iinc, ↓q_iadd, ↓q_isub, ↓q_imul, ↓q_iand, ↓q_idiv, ↓q_irem, ↓q_ineg, ↓q_ladd, ↓q_lsub, ↓q_lmul, ↓q_land, ↓q_ldiv, ↓q_lrem, ↓q_i2l, ↓q_l2i, ↓q_dup, ↓q_pop, ↓q_dup2, ↓q_dup_x1, ↓q_goto, ↓q_if_eq, ↓q_if_ne, ↓q_if_lt, ↓q_if_ge, ↓q_if_gt, ↓q_if_le, ↓q_icmp_eq, ↓q_icmp_ne, ↓q_icmp_lt, ↓q_icmp_ge, ↓q_icmp_gt, ↓q_icmp_le, ↓q_ifnullN, ↓q_ifnull, ↓q_ifnonnullN, ↓q_ifnonnull, ↓q_table, ↓q_lookup, ↓q_getf, ↓q_putI, ↓q_putJ, ↓q_putR, ↓q_iald, ↓q_sld, ↓q_slen, ↓q_alen, ↓q_iast, ↓q_bald, ↓q_bast, ↓q_aald, ↓q_aast, ↓q_newa, ↓q_newq, ↓q_new, ↓q_objInit, ↓q_max, ↓q_min, ↓q_copy, ↓q_callS0, ↓q_callV0, ↓q_callI0, ↓q_callS1, ↓q_callV1, ↓q_callI1, ↓q_callS2, ↓q_callV2, ↓q_callI2, ↓q_callS3, ↓q_callV3, ↓q_callI3, ↓q_callS4, ↓q_callV4, ↓q_callI4, ↓q_callS5, ↓q_callV5, ↓q_callI5, ↓q_callS6, ↓q_callV6, ↓q_callI6, ↓q_callS7, ↓q_callV7, ↓q_callI7, ↓q_callS8, ↓q_callV8, ↓q_callI8, ↓q_iret, ↓q_lret, ↓q_vret, q_e_i_int, q_e_l_long, q_e_a_ref, q_e_a_null, q_cat_int, q_cat_ref, q_cat_null, q_cat_long, q_na_int, q_lgt_z, q_lgt_s, q_lst0, q_lst1, q_lstS, q_lst20, q_lst21, q_lst2S, q_clr_i, q_clr_r, q_clr_n, q_clr_0, q_clr_l, q_cv_i, q_cv_l, q_cv_r, q_rv_s, q_rv_n, q_toL_s, q_toL_n, true_and, and_true, Nat.reduceAdd, s33, s34, s35, s36, s37, s38, s39, s40, s41, s42, s43, s44, s45, s46, r33_3, r33_4, r33_6, r33_7, r33_8, r33_10, r33_11, r33_12, r33_13, r33_15, r33_16, r33_18, r33_19, nI_inc]
        exact ih
  have h2 : ∀ o2 o3 : Option Value, Go (g, M_M_speeds, 4, n, z, 0, 0, Q) 2 [some (.ref (gB g + 33)), some (.int (nI 0)), o2, o3] [] (n, z, S, m_s1 I N nl nc ns 0, J, R) := by
    refine go_loop (P := fun k => ∀ o2 o3 : Option Value, Go (g, M_M_speeds, 4, n, z, 0, 0, Q) 2 [some (.ref (gB g + 33)), some (.int (nI k)), o2, o3] [] (n, z, S, m_s1 I N nl nc ns k, J, R)) N ?_ ?_
    · intro o2 o3
      have hN := (m_s1_ok hw N).1.1.1
      refine go_wp B_M_speeds_2_ok ?_; simp only [B_M_speeds_2, ↓q_nil, ↓q_iconst, ↓q_bipush, ↓q_sipush, ↓q_ldc, ↓q_lconst, ↓q_ldc2, ↓q_null, ↓q_iload, ↓q_iload_n, ↓q_lload, ↓q_lload_n, ↓q_aload, ↓q_aload_n, ↓q_istore, ↓q_istore_n, ↓q_lstore, ↓q_lstore_n, ↓q_astore, ↓q_astore_n, ↓q_iinc, ↓q_iadd, ↓q_isub, ↓q_imul, ↓q_iand, ↓q_idiv, ↓q_irem, ↓q_ineg, ↓q_ladd, ↓q_lsub, ↓q_lmul, ↓q_land, ↓q_ldiv, ↓q_lrem, ↓q_i2l, ↓q_l2i, ↓q_dup, ↓q_pop, ↓q_dup2, ↓q_dup_x1, ↓q_goto, ↓q_if_eq, ↓q_if_ne, ↓q_if_lt, ↓q_if_ge, ↓q_if_gt, ↓q_if_le, ↓q_icmp_eq, ↓q_icmp_ne, ↓q_icmp_lt, ↓q_icmp_ge, ↓q_icmp_gt, ↓q_icmp_le, ↓q_ifnullN, ↓q_ifnull, ↓q_ifnonnullN, ↓q_ifnonnull, ↓q_table, ↓q_lookup, ↓q_getf, ↓q_putI, ↓q_putJ, ↓q_putR, ↓q_iald, ↓q_sld, ↓q_slen, ↓q_alen, ↓q_iast, ↓q_bald, ↓q_bast, ↓q_aald, ↓q_aast, ↓q_newa, ↓q_newq, ↓q_new, ↓q_objInit, ↓q_max, ↓q_min, ↓q_copy, ↓q_callS0, ↓q_callV0, ↓q_callI0, ↓q_callS1, ↓q_callV1, ↓q_callI1, ↓q_callS2, ↓q_callV2, ↓q_callI2, ↓q_callS3, ↓q_callV3, ↓q_callI3, ↓q_callS4, ↓q_callV4, ↓q_callI4, ↓q_callS5, ↓q_callV5, ↓q_callI5, ↓q_callS6, ↓q_callV6, ↓q_callI6, ↓q_callS7, ↓q_callV7, ↓q_callI7, ↓q_callS8, ↓q_callV8, ↓q_callI8, ↓q_iret, ↓q_lret, ↓q_vret, q_e_i_int, q_e_l_long, q_e_a_ref, q_e_a_null, q_cat_int, q_cat_ref, q_cat_null, q_cat_long, q_na_int, q_lgt_z, q_lgt_s, q_lst0, q_lst1, q_lstS, q_lst20, q_lst21, q_lst2S, q_clr_i, q_clr_r, q_clr_n, q_clr_0, q_clr_l, q_cv_i, q_cv_l, q_cv_r, q_rv_s, q_rv_n, q_toL_s, q_toL_n, true_and, and_true, Nat.reduceAdd, s33, s34, s35, s36, s37, s38, s39, s40, s41, s42, s43, s44, s45, s46, r33_3, r33_4, r33_6, r33_7, r33_8, r33_10, r33_11, r33_12, r33_13, r33_15, r33_16, r33_18, r33_19]
      refine call_ro (c_cars hs) (by decide) rfl (Nat.le_refl _) (Nat.le_refl _) ?_
      simp only [↓q_nil, ↓q_iconst, ↓q_bipush, ↓q_sipush, ↓q_ldc, ↓q_lconst, ↓q_ldc2, ↓q_null, ↓q_iload, ↓q_iload_n, ↓q_lload, ↓q_lload_n, ↓q_aload, ↓q_aload_n, ↓q_istore, ↓q_istore_n, ↓q_lstore, ↓q_lstore_n, ↓q_astore, ↓q_astore_n, ↓q_iinc, ↓q_iadd, ↓q_isub, ↓q_imul, ↓q_iand, ↓q_idiv, ↓q_irem, ↓q_ineg, ↓q_ladd, ↓q_lsub, ↓q_lmul, ↓q_land, ↓q_ldiv, ↓q_lrem, ↓q_i2l, ↓q_l2i, ↓q_dup, ↓q_pop, ↓q_dup2, ↓q_dup_x1, ↓q_goto, ↓q_if_eq, ↓q_if_ne, ↓q_if_lt, ↓q_if_ge, ↓q_if_gt, ↓q_if_le, ↓q_icmp_eq, ↓q_icmp_ne, ↓q_icmp_lt, ↓q_icmp_ge, ↓q_icmp_gt, ↓q_icmp_le, ↓q_ifnullN, ↓q_ifnull, ↓q_ifnonnullN, ↓q_ifnonnull, ↓q_table, ↓q_lookup, ↓q_getf, ↓q_putI, ↓q_putJ, ↓q_putR, ↓q_iald, ↓q_sld, ↓q_slen, ↓q_alen, ↓q_iast, ↓q_bald, ↓q_bast, ↓q_aald, ↓q_aast, ↓q_newa, ↓q_newq, ↓q_new, ↓q_objInit, ↓q_max, ↓q_min, ↓q_copy, ↓q_callS0, ↓q_callV0, ↓q_callI0, ↓q_callS1, ↓q_callV1, ↓q_callI1, ↓q_callS2, ↓q_callV2, ↓q_callI2, ↓q_callS3, ↓q_callV3, ↓q_callI3, ↓q_callS4, ↓q_callV4, ↓q_callI4, ↓q_callS5, ↓q_callV5, ↓q_callI5, ↓q_callS6, ↓q_callV6, ↓q_callI6, ↓q_callS7, ↓q_callV7, ↓q_callI7, ↓q_callS8, ↓q_callV8, ↓q_callI8, ↓q_iret, ↓q_lret, ↓q_vret, q_e_i_int, q_e_l_long, q_e_a_ref, q_e_a_null, q_cat_int, q_cat_ref, q_cat_null, q_cat_long, q_na_int, q_lgt_z, q_lgt_s, q_lst0, q_lst1, q_lstS, q_lst20, q_lst21, q_lst2S, q_clr_i, q_clr_r, q_clr_n, q_clr_0, q_clr_l, q_cv_i, q_cv_l, q_cv_r, q_rv_s, q_rv_n, q_toL_s, q_toL_n, true_and, and_true, Nat.reduceAdd, s33, s34, s35, s36, s37, s38, s39, s40, s41, s42, s43, s44, s45, s46, r33_3, r33_4, r33_6, r33_7, r33_8, r33_10, r33_11, r33_12, r33_13, r33_15, r33_16, r33_18, r33_19, hN]
      refine ⟨fun h => absurd h (nI_nlt (Nat.le_refl _) (by omega)), fun _ => ?_⟩
      refine go_wp B_M_speeds_91_ok ?_; simp only [B_M_speeds_91, ↓q_nil, ↓q_iconst, ↓q_bipush, ↓q_sipush, ↓q_ldc, ↓q_lconst, ↓q_ldc2, ↓q_null, ↓q_iload, ↓q_iload_n, ↓q_lload, ↓q_lload_n, ↓q_aload, ↓q_aload_n, ↓q_istore, ↓q_istore_n, ↓q_lstore, ↓q_lstore_n, ↓q_astore, ↓q_astore_n, ↓q_iinc, ↓q_iadd, ↓q_isub, ↓q_imul, ↓q_iand, ↓q_idiv, ↓q_irem, ↓q_ineg, ↓q_ladd, ↓q_lsub, ↓q_lmul, ↓q_land, ↓q_ldiv, ↓q_lrem, ↓q_i2l, ↓q_l2i, ↓q_dup, ↓q_pop, ↓q_dup2, ↓q_dup_x1, ↓q_goto, ↓q_if_eq, ↓q_if_ne, ↓q_if_lt, ↓q_if_ge, ↓q_if_gt, ↓q_if_le, ↓q_icmp_eq, ↓q_icmp_ne, ↓q_icmp_lt, ↓q_icmp_ge, ↓q_icmp_gt, ↓q_icmp_le, ↓q_ifnullN, ↓q_ifnull, ↓q_ifnonnullN, ↓q_ifnonnull, ↓q_table, ↓q_lookup, ↓q_getf, ↓q_putI, ↓q_putJ, ↓q_putR, ↓q_iald, ↓q_sld, ↓q_slen, ↓q_alen, ↓q_iast, ↓q_bald, ↓q_bast, ↓q_aald, ↓q_aast, ↓q_newa, ↓q_newq, ↓q_new, ↓q_objInit, ↓q_max, ↓q_min, ↓q_copy, ↓q_callS0, ↓q_callV0, ↓q_callI0, ↓q_callS1, ↓q_callV1, ↓q_callI1, ↓q_callS2, ↓q_callV2, ↓q_callI2, ↓q_callS3, ↓q_callV3, ↓q_callI3, ↓q_callS4, ↓q_callV4, ↓q_callI4, ↓q_callS5, ↓q_callV5, ↓q_callI5, ↓q_callS6, ↓q_callV6, ↓q_callI6, ↓q_callS7, ↓q_callV7, ↓q_callI7, ↓q_callS8, ↓q_callV8, ↓q_callI8, ↓q_iret, ↓q_lret, ↓q_vret, q_e_i_int, q_e_l_long, q_e_a_ref, q_e_a_null, q_cat_int, q_cat_ref, q_cat_null, q_cat_long, q_na_int, q_lgt_z, q_lgt_s, q_lst0, q_lst1, q_lstS, q_lst20, q_lst21, q_lst2S, q_clr_i, q_clr_r, q_clr_n, q_clr_0, q_clr_l, q_cv_i, q_cv_l, q_cv_r, q_rv_s, q_rv_n, q_toL_s, q_toL_n, true_and, and_true, Nat.reduceAdd, s33, s34, s35, s36, s37, s38, s39, s40, s41, s42, s43, s44, s45, s46, r33_3, r33_4, r33_6, r33_7, r33_8, r33_10, r33_11, r33_12, r33_13, r33_15, r33_16, r33_18, r33_19]
      exact h93 _ _
    · intro k hk ih o2 o3
      have hM := m_s1_ok hw k
      have hN := hM.1.1.1
      have hk60 : k < 60 := by omega
      rw [m_s1] at ih
      generalize m_s1 I N nl nc ns k = I2 at ih hN hM ⊢
      refine go_wp B_M_speeds_2_ok ?_; simp only [B_M_speeds_2, ↓q_nil, ↓q_iconst, ↓q_bipush, ↓q_sipush, ↓q_ldc, ↓q_lconst, ↓q_ldc2, ↓q_null, ↓q_iload, ↓q_iload_n, ↓q_lload, ↓q_lload_n, ↓q_aload, ↓q_aload_n, ↓q_istore, ↓q_istore_n, ↓q_lstore, ↓q_lstore_n, ↓q_astore, ↓q_astore_n, ↓q_iinc, ↓q_iadd, ↓q_isub, ↓q_imul, ↓q_iand, ↓q_idiv, ↓q_irem, ↓q_ineg, ↓q_ladd, ↓q_lsub, ↓q_lmul, ↓q_land, ↓q_ldiv, ↓q_lrem, ↓q_i2l, ↓q_l2i, ↓q_dup, ↓q_pop, ↓q_dup2, ↓q_dup_x1, ↓q_goto, ↓q_if_eq, ↓q_if_ne, ↓q_if_lt, ↓q_if_ge, ↓q_if_gt, ↓q_if_le, ↓q_icmp_eq, ↓q_icmp_ne, ↓q_icmp_lt, ↓q_icmp_ge, ↓q_icmp_gt, ↓q_icmp_le, ↓q_ifnullN, ↓q_ifnull, ↓q_ifnonnullN, ↓q_ifnonnull, ↓q_table, ↓q_lookup, ↓q_getf, ↓q_putI, ↓q_putJ, ↓q_putR, ↓q_iald, ↓q_sld, ↓q_slen, ↓q_alen, ↓q_iast, ↓q_bald, ↓q_bast, ↓q_aald, ↓q_aast, ↓q_newa, ↓q_newq, ↓q_new, ↓q_objInit, ↓q_max, ↓q_min, ↓q_copy, ↓q_callS0, ↓q_callV0, ↓q_callI0, ↓q_callS1, ↓q_callV1, ↓q_callI1, ↓q_callS2, ↓q_callV2, ↓q_callI2, ↓q_callS3, ↓q_callV3, ↓q_callI3, ↓q_callS4, ↓q_callV4, ↓q_callI4, ↓q_callS5, ↓q_callV5, ↓q_callI5, ↓q_callS6, ↓q_callV6, ↓q_callI6, ↓q_callS7, ↓q_callV7, ↓q_callI7, ↓q_callS8, ↓q_callV8, ↓q_callI8, ↓q_iret, ↓q_lret, ↓q_vret, q_e_i_int, q_e_l_long, q_e_a_ref, q_e_a_null, q_cat_int, q_cat_ref, q_cat_null, q_cat_long, q_na_int, q_lgt_z, q_lgt_s, q_lst0, q_lst1, q_lstS, q_lst20, q_lst21, q_lst2S, q_clr_i, q_clr_r, q_clr_n, q_clr_0, q_clr_l, q_cv_i, q_cv_l, q_cv_r, q_rv_s, q_rv_n, q_toL_s, q_toL_n, true_and, and_true, Nat.reduceAdd, s33, s34, s35, s36, s37, s38, s39, s40, s41, s42, s43, s44, s45, s46, r33_3, r33_4, r33_6, r33_7, r33_8, r33_10, r33_11, r33_12, r33_13, r33_15, r33_16, r33_18, r33_19]
      refine call_ro (c_cars hs) (by decide) rfl (Nat.le_refl _) (Nat.le_refl _) ?_
      simp only [↓q_nil, ↓q_iconst, ↓q_bipush, ↓q_sipush, ↓q_ldc, ↓q_lconst, ↓q_ldc2, ↓q_null, ↓q_iload, ↓q_iload_n, ↓q_lload, ↓q_lload_n, ↓q_aload, ↓q_aload_n, ↓q_istore, ↓q_istore_n, ↓q_lstore, ↓q_lstore_n, ↓q_astore, ↓q_astore_n, ↓q_iinc, ↓q_iadd, ↓q_isub, ↓q_imul, ↓q_iand, ↓q_idiv, ↓q_irem, ↓q_ineg, ↓q_ladd, ↓q_lsub, ↓q_lmul, ↓q_land, ↓q_ldiv, ↓q_lrem, ↓q_i2l, ↓q_l2i, ↓q_dup, ↓q_pop, ↓q_dup2, ↓q_dup_x1, ↓q_goto, ↓q_if_eq, ↓q_if_ne, ↓q_if_lt, ↓q_if_ge, ↓q_if_gt, ↓q_if_le, ↓q_icmp_eq, ↓q_icmp_ne, ↓q_icmp_lt, ↓q_icmp_ge, ↓q_icmp_gt, ↓q_icmp_le, ↓q_ifnullN, ↓q_ifnull, ↓q_ifnonnullN, ↓q_ifnonnull, ↓q_table, ↓q_lookup, ↓q_getf, ↓q_putI, ↓q_putJ, ↓q_putR, ↓q_iald, ↓q_sld, ↓q_slen, ↓q_alen, ↓q_iast, ↓q_bald, ↓q_bast, ↓q_aald, ↓q_aast, ↓q_newa, ↓q_newq, ↓q_new, ↓q_objInit, ↓q_max, ↓q_min, ↓q_copy, ↓q_callS0, ↓q_callV0, ↓q_callI0, ↓q_callS1, ↓q_callV1, ↓q_callI1, ↓q_callS2, ↓q_callV2, ↓q_callI2, ↓q_callS3, ↓q_callV3, ↓q_callI3, ↓q_callS4, ↓q_callV4, ↓q_callI4, ↓q_callS5, ↓q_callV5, ↓q_callI5, ↓q_callS6, ↓q_callV6, ↓q_callI6, ↓q_callS7, ↓q_callV7, ↓q_callI7, ↓q_callS8, ↓q_callV8, ↓q_callI8, ↓q_iret, ↓q_lret, ↓q_vret, q_e_i_int, q_e_l_long, q_e_a_ref, q_e_a_null, q_cat_int, q_cat_ref, q_cat_null, q_cat_long, q_na_int, q_lgt_z, q_lgt_s, q_lst0, q_lst1, q_lstS, q_lst20, q_lst21, q_lst2S, q_clr_i, q_clr_r, q_clr_n, q_clr_0, q_clr_l, q_cv_i, q_cv_l, q_cv_r, q_rv_s, q_rv_n, q_toL_s, q_toL_n, true_and, and_true, Nat.reduceAdd, s33, s34, s35, s36, s37, s38, s39, s40, s41, s42, s43, s44, s45, s46, r33_3, r33_4, r33_6, r33_7, r33_8, r33_10, r33_11, r33_12, r33_13, r33_15, r33_16, r33_18, r33_19, hN]
      refine ⟨fun _ => ?_, fun h => absurd (nI_lt hk (by omega)) h⟩
      refine call_ro (c_of hs (p := 2) hk60 (by decide)) (by decide) rfl (Nat.le_refl _) (Nat.le_refl _) ?_
      simp only [↓q_nil, ↓q_iconst, ↓q_bipush, ↓q_sipush, ↓q_ldc, ↓q_lconst, ↓q_ldc2, ↓q_null, ↓q_iload, ↓q_iload_n, ↓q_lload, ↓q_lload_n, ↓q_aload, ↓q_aload_n, ↓q_istore, ↓q_istore_n, ↓q_lstore, ↓q_lstore_n, ↓q_astore, ↓q_astore_n, ↓q_iinc, ↓q_iadd, ↓q_isub, ↓q_imul, ↓q_iand, ↓q_idiv, ↓q_irem, ↓q_ineg, ↓q_ladd, ↓q_lsub, ↓q_lmul, ↓q_land, ↓q_ldiv, ↓q_lrem, ↓q_i2l, ↓q_l2i, ↓q_dup, ↓q_pop, ↓q_dup2, ↓q_dup_x1, ↓q_goto, ↓q_if_eq, ↓q_if_ne, ↓q_if_lt, ↓q_if_ge, ↓q_if_gt, ↓q_if_le, ↓q_icmp_eq, ↓q_icmp_ne, ↓q_icmp_lt, ↓q_icmp_ge, ↓q_icmp_gt, ↓q_icmp_le, ↓q_ifnullN, ↓q_ifnull, ↓q_ifnonnullN, ↓q_ifnonnull, ↓q_table, ↓q_lookup, ↓q_getf, ↓q_putI, ↓q_putJ, ↓q_putR, ↓q_iald, ↓q_sld, ↓q_slen, ↓q_alen, ↓q_iast, ↓q_bald, ↓q_bast, ↓q_aald, ↓q_aast, ↓q_newa, ↓q_newq, ↓q_new, ↓q_objInit, ↓q_max, ↓q_min, ↓q_copy, ↓q_callS0, ↓q_callV0, ↓q_callI0, ↓q_callS1, ↓q_callV1, ↓q_callI1, ↓q_callS2, ↓q_callV2, ↓q_callI2, ↓q_callS3, ↓q_callV3, ↓q_callI3, ↓q_callS4, ↓q_callV4, ↓q_callI4, ↓q_callS5, ↓q_callV5, ↓q_callI5, ↓q_callS6, ↓q_callV6, ↓q_callI6, ↓q_callS7, ↓q_callV7, ↓q_callI7, ↓q_callS8, ↓q_callV8, ↓q_callI8, ↓q_iret, ↓q_lret, ↓q_vret, q_e_i_int, q_e_l_long, q_e_a_ref, q_e_a_null, q_cat_int, q_cat_ref, q_cat_null, q_cat_long, q_na_int, q_lgt_z, q_lgt_s, q_lst0, q_lst1, q_lstS, q_lst20, q_lst21, q_lst2S, q_clr_i, q_clr_r, q_clr_n, q_clr_0, q_clr_l, q_cv_i, q_cv_l, q_cv_r, q_rv_s, q_rv_n, q_toL_s, q_toL_n, true_and, and_true, Nat.reduceAdd, s33, s34, s35, s36, s37, s38, s39, s40, s41, s42, s43, s44, s45, s46, r33_3, r33_4, r33_6, r33_7, r33_8, r33_10, r33_11, r33_12, r33_13, r33_15, r33_16, r33_18, r33_19]
      refine ⟨fun e1 => ?_, fun e1 => ?_⟩
      · rw [if_pos e1] at ih
        have h41 : ∀ d : Int32, d = (if m_tick (I2 34) k then 6 else 0) → Go (g, M_M_speeds, 4, n, z, 0, 0, Q) 41 [some (.ref (gB g + 33)), some (.int (nI k)), o2, o3] [.int d] (n, z, S, I2, J, R) := by
          intro d hdd
          rw [m_want, ← hdd] at ih
          refine go_wp B_M_speeds_41_ok ?_; simp only [B_M_speeds_41, ↓q_nil, ↓q_iconst, ↓q_bipush, ↓q_sipush, ↓q_ldc, ↓q_lconst, ↓q_ldc2, ↓q_null, ↓q_iload, ↓q_iload_n, ↓q_lload, ↓q_lload_n, ↓q_aload, ↓q_aload_n, ↓q_istore, ↓q_istore_n, ↓q_lstore, ↓q_lstore_n, ↓q_astore, ↓q_astore_n, ↓q_iinc, ↓q_iadd, ↓q_isub, ↓q_imul, ↓q_iand, ↓q_idiv, ↓q_irem, ↓q_ineg, ↓q_ladd, ↓q_lsub, ↓q_lmul, ↓q_land, ↓q_ldiv, ↓q_lrem, ↓q_i2l, ↓q_l2i, ↓q_dup, ↓q_pop, ↓q_dup2, ↓q_dup_x1, ↓q_goto, ↓q_if_eq, ↓q_if_ne, ↓q_if_lt, ↓q_if_ge, ↓q_if_gt, ↓q_if_le, ↓q_icmp_eq, ↓q_icmp_ne, ↓q_icmp_lt, ↓q_icmp_ge, ↓q_icmp_gt, ↓q_icmp_le, ↓q_ifnullN, ↓q_ifnull, ↓q_ifnonnullN, ↓q_ifnonnull, ↓q_table, ↓q_lookup, ↓q_getf, ↓q_putI, ↓q_putJ, ↓q_putR, ↓q_iald, ↓q_sld, ↓q_slen, ↓q_alen, ↓q_iast, ↓q_bald, ↓q_bast, ↓q_aald, ↓q_aast, ↓q_newa, ↓q_newq, ↓q_new, ↓q_objInit, ↓q_max, ↓q_min, ↓q_copy, ↓q_callS0, ↓q_callV0, ↓q_callI0, ↓q_callS1, ↓q_callV1, ↓q_callI1, ↓q_callS2, ↓q_callV2, ↓q_callI2, ↓q_callS3, ↓q_callV3, ↓q_callI3, ↓q_callS4, ↓q_callV4, ↓q_callI4, ↓q_callS5, ↓q_callV5, ↓q_callI5, ↓q_callS6, ↓q_callV6, ↓q_callI6, ↓q_callS7, ↓q_callV7, ↓q_callI7, ↓q_callS8, ↓q_callV8, ↓q_callI8, ↓q_iret, ↓q_lret, ↓q_vret, q_e_i_int, q_e_l_long, q_e_a_ref, q_e_a_null, q_cat_int, q_cat_ref, q_cat_null, q_cat_long, q_na_int, q_lgt_z, q_lgt_s, q_lst0, q_lst1, q_lstS, q_lst20, q_lst21, q_lst2S, q_clr_i, q_clr_r, q_clr_n, q_clr_0, q_clr_l, q_cv_i, q_cv_l, q_cv_r, q_rv_s, q_rv_n, q_toL_s, q_toL_n, true_and, and_true, Nat.reduceAdd, s33, s34, s35, s36, s37, s38, s39, s40, s41, s42, s43, s44, s45, s46, r33_3, r33_4, r33_6, r33_7, r33_8, r33_10, r33_11, r33_12, r33_13, r33_15, r33_16, r33_18, r33_19]
          refine call_ro (c_of hs (p := 9) hk60 (by decide)) (by decide) rfl (Nat.le_refl _) (Nat.le_refl _) ?_
          simp only [↓q_nil, ↓q_iconst, ↓q_bipush, ↓q_sipush, ↓q_ldc, ↓q_lconst, ↓q_ldc2, ↓q_null, ↓q_iload, ↓q_iload_n, ↓q_lload, ↓q_lload_n, ↓q_aload, ↓q_aload_n, ↓q_istore, ↓q_istore_n, ↓q_lstore, ↓q_lstore_n, ↓q_astore, ↓q_astore_n, ↓q_iinc, ↓q_iadd, ↓q_isub, ↓q_imul, ↓q_iand, ↓q_idiv, ↓q_irem, ↓q_ineg, ↓q_ladd, ↓q_lsub, ↓q_lmul, ↓q_land, ↓q_ldiv, ↓q_lrem, ↓q_i2l, ↓q_l2i, ↓q_dup, ↓q_pop, ↓q_dup2, ↓q_dup_x1, ↓q_goto, ↓q_if_eq, ↓q_if_ne, ↓q_if_lt, ↓q_if_ge, ↓q_if_gt, ↓q_if_le, ↓q_icmp_eq, ↓q_icmp_ne, ↓q_icmp_lt, ↓q_icmp_ge, ↓q_icmp_gt, ↓q_icmp_le, ↓q_ifnullN, ↓q_ifnull, ↓q_ifnonnullN, ↓q_ifnonnull, ↓q_table, ↓q_lookup, ↓q_getf, ↓q_putI, ↓q_putJ, ↓q_putR, ↓q_iald, ↓q_sld, ↓q_slen, ↓q_alen, ↓q_iast, ↓q_bald, ↓q_bast, ↓q_aald, ↓q_aast, ↓q_newa, ↓q_newq, ↓q_new, ↓q_objInit, ↓q_max, ↓q_min, ↓q_copy, ↓q_callS0, ↓q_callV0, ↓q_callI0, ↓q_callS1, ↓q_callV1, ↓q_callI1, ↓q_callS2, ↓q_callV2, ↓q_callI2, ↓q_callS3, ↓q_callV3, ↓q_callI3, ↓q_callS4, ↓q_callV4, ↓q_callI4, ↓q_callS5, ↓q_callV5, ↓q_callI5, ↓q_callS6, ↓q_callV6, ↓q_callI6, ↓q_callS7, ↓q_callV7, ↓q_callI7, ↓q_callS8, ↓q_callV8, ↓q_callI8, ↓q_iret, ↓q_lret, ↓q_vret, q_e_i_int, q_e_l_long, q_e_a_ref, q_e_a_null, q_cat_int, q_cat_ref, q_cat_null, q_cat_long, q_na_int, q_lgt_z, q_lgt_s, q_lst0, q_lst1, q_lstS, q_lst20, q_lst21, q_lst2S, q_clr_i, q_clr_r, q_clr_n, q_clr_0, q_clr_l, q_cv_i, q_cv_l, q_cv_r, q_rv_s, q_rv_n, q_toL_s, q_toL_n, true_and, and_true, Nat.reduceAdd, s33, s34, s35, s36, s37, s38, s39, s40, s41, s42, s43, s44, s45, s46, r33_3, r33_4, r33_6, r33_7, r33_8, r33_10, r33_11, r33_12, r33_13, r33_15, r33_16, r33_18, r33_19]
          refine call_ro (c_of hs (p := 4) hk60 (by decide)) (by decide) rfl (Nat.le_refl _) (Nat.le_refl _) ?_
          simp only [↓q_nil, ↓q_iconst, ↓q_bipush, ↓q_sipush, ↓q_ldc, ↓q_lconst, ↓q_ldc2, ↓q_null, ↓q_iload, ↓q_iload_n, ↓q_lload, ↓q_lload_n, ↓q_aload, ↓q_aload_n, ↓q_istore, ↓q_istore_n, ↓q_lstore, ↓q_lstore_n, ↓q_astore, ↓q_astore_n, ↓q_iinc, ↓q_iadd, ↓q_isub, ↓q_imul, ↓q_iand, ↓q_idiv, ↓q_irem, ↓q_ineg, ↓q_ladd, ↓q_lsub, ↓q_lmul, ↓q_land, ↓q_ldiv, ↓q_lrem, ↓q_i2l, ↓q_l2i, ↓q_dup, ↓q_pop, ↓q_dup2, ↓q_dup_x1, ↓q_goto, ↓q_if_eq, ↓q_if_ne, ↓q_if_lt, ↓q_if_ge, ↓q_if_gt, ↓q_if_le, ↓q_icmp_eq, ↓q_icmp_ne, ↓q_icmp_lt, ↓q_icmp_ge, ↓q_icmp_gt, ↓q_icmp_le, ↓q_ifnullN, ↓q_ifnull, ↓q_ifnonnullN, ↓q_ifnonnull, ↓q_table, ↓q_lookup, ↓q_getf, ↓q_putI, ↓q_putJ, ↓q_putR, ↓q_iald, ↓q_sld, ↓q_slen, ↓q_alen, ↓q_iast, ↓q_bald, ↓q_bast, ↓q_aald, ↓q_aast, ↓q_newa, ↓q_newq, ↓q_new, ↓q_objInit, ↓q_max, ↓q_min, ↓q_copy, ↓q_callS0, ↓q_callV0, ↓q_callI0, ↓q_callS1, ↓q_callV1, ↓q_callI1, ↓q_callS2, ↓q_callV2, ↓q_callI2, ↓q_callS3, ↓q_callV3, ↓q_callI3, ↓q_callS4, ↓q_callV4, ↓q_callI4, ↓q_callS5, ↓q_callV5, ↓q_callI5, ↓q_callS6, ↓q_callV6, ↓q_callI6, ↓q_callS7, ↓q_callV7, ↓q_callI7, ↓q_callS8, ↓q_callV8, ↓q_callI8, ↓q_iret, ↓q_lret, ↓q_vret, q_e_i_int, q_e_l_long, q_e_a_ref, q_e_a_null, q_cat_int, q_cat_ref, q_cat_null, q_cat_long, q_na_int, q_lgt_z, q_lgt_s, q_lst0, q_lst1, q_lstS, q_lst20, q_lst21, q_lst2S, q_clr_i, q_clr_r, q_clr_n, q_clr_0, q_clr_l, q_cv_i, q_cv_l, q_cv_r, q_rv_s, q_rv_n, q_toL_s, q_toL_n, true_and, and_true, Nat.reduceAdd, s33, s34, s35, s36, s37, s38, s39, s40, s41, s42, s43, s44, s45, s46, r33_3, r33_4, r33_6, r33_7, r33_8, r33_10, r33_11, r33_12, r33_13, r33_15, r33_16, r33_18, r33_19]
          refine call_ro (c_lesser) (by decide) rfl (Nat.le_refl _) (Nat.le_refl _) ?_
          simp only [↓q_nil, ↓q_iconst, ↓q_bipush, ↓q_sipush, ↓q_ldc, ↓q_lconst, ↓q_ldc2, ↓q_null, ↓q_iload, ↓q_iload_n, ↓q_lload, ↓q_lload_n, ↓q_aload, ↓q_aload_n, ↓q_istore, ↓q_istore_n, ↓q_lstore, ↓q_lstore_n, ↓q_astore, ↓q_astore_n, ↓q_iinc, ↓q_iadd, ↓q_isub, ↓q_imul, ↓q_iand, ↓q_idiv, ↓q_irem, ↓q_ineg, ↓q_ladd, ↓q_lsub, ↓q_lmul, ↓q_land, ↓q_ldiv, ↓q_lrem, ↓q_i2l, ↓q_l2i, ↓q_dup, ↓q_pop, ↓q_dup2, ↓q_dup_x1, ↓q_goto, ↓q_if_eq, ↓q_if_ne, ↓q_if_lt, ↓q_if_ge, ↓q_if_gt, ↓q_if_le, ↓q_icmp_eq, ↓q_icmp_ne, ↓q_icmp_lt, ↓q_icmp_ge, ↓q_icmp_gt, ↓q_icmp_le, ↓q_ifnullN, ↓q_ifnull, ↓q_ifnonnullN, ↓q_ifnonnull, ↓q_table, ↓q_lookup, ↓q_getf, ↓q_putI, ↓q_putJ, ↓q_putR, ↓q_iald, ↓q_sld, ↓q_slen, ↓q_alen, ↓q_iast, ↓q_bald, ↓q_bast, ↓q_aald, ↓q_aast, ↓q_newa, ↓q_newq, ↓q_new, ↓q_objInit, ↓q_max, ↓q_min, ↓q_copy, ↓q_callS0, ↓q_callV0, ↓q_callI0, ↓q_callS1, ↓q_callV1, ↓q_callI1, ↓q_callS2, ↓q_callV2, ↓q_callI2, ↓q_callS3, ↓q_callV3, ↓q_callI3, ↓q_callS4, ↓q_callV4, ↓q_callI4, ↓q_callS5, ↓q_callV5, ↓q_callI5, ↓q_callS6, ↓q_callV6, ↓q_callI6, ↓q_callS7, ↓q_callV7, ↓q_callI7, ↓q_callS8, ↓q_callV8, ↓q_callI8, ↓q_iret, ↓q_lret, ↓q_vret, q_e_i_int, q_e_l_long, q_e_a_ref, q_e_a_null, q_cat_int, q_cat_ref, q_cat_null, q_cat_long, q_na_int, q_lgt_z, q_lgt_s, q_lst0, q_lst1, q_lstS, q_lst20, q_lst21, q_lst2S, q_clr_i, q_clr_r, q_clr_n, q_clr_0, q_clr_l, q_cv_i, q_cv_l, q_cv_r, q_rv_s, q_rv_n, q_toL_s, q_toL_n, true_and, and_true, Nat.reduceAdd, s33, s34, s35, s36, s37, s38, s39, s40, s41, s42, s43, s44, s45, s46, r33_3, r33_4, r33_6, r33_7, r33_8, r33_10, r33_11, r33_12, r33_13, r33_15, r33_16, r33_18, r33_19]
          refine call_ro (c_of hs (p := 1) hk60 (by decide)) (by decide) rfl (Nat.le_refl _) (Nat.le_refl _) ?_
          simp only [↓q_nil, ↓q_iconst, ↓q_bipush, ↓q_sipush, ↓q_ldc, ↓q_lconst, ↓q_ldc2, ↓q_null, ↓q_iload, ↓q_iload_n, ↓q_lload, ↓q_lload_n, ↓q_aload, ↓q_aload_n, ↓q_istore, ↓q_istore_n, ↓q_lstore, ↓q_lstore_n, ↓q_astore, ↓q_astore_n, ↓q_iinc, ↓q_iadd, ↓q_isub, ↓q_imul, ↓q_iand, ↓q_idiv, ↓q_irem, ↓q_ineg, ↓q_ladd, ↓q_lsub, ↓q_lmul, ↓q_land, ↓q_ldiv, ↓q_lrem, ↓q_i2l, ↓q_l2i, ↓q_dup, ↓q_pop, ↓q_dup2, ↓q_dup_x1, ↓q_goto, ↓q_if_eq, ↓q_if_ne, ↓q_if_lt, ↓q_if_ge, ↓q_if_gt, ↓q_if_le, ↓q_icmp_eq, ↓q_icmp_ne, ↓q_icmp_lt, ↓q_icmp_ge, ↓q_icmp_gt, ↓q_icmp_le, ↓q_ifnullN, ↓q_ifnull, ↓q_ifnonnullN, ↓q_ifnonnull, ↓q_table, ↓q_lookup, ↓q_getf, ↓q_putI, ↓q_putJ, ↓q_putR, ↓q_iald, ↓q_sld, ↓q_slen, ↓q_alen, ↓q_iast, ↓q_bald, ↓q_bast, ↓q_aald, ↓q_aast, ↓q_newa, ↓q_newq, ↓q_new, ↓q_objInit, ↓q_max, ↓q_min, ↓q_copy, ↓q_callS0, ↓q_callV0, ↓q_callI0, ↓q_callS1, ↓q_callV1, ↓q_callI1, ↓q_callS2, ↓q_callV2, ↓q_callI2, ↓q_callS3, ↓q_callV3, ↓q_callI3, ↓q_callS4, ↓q_callV4, ↓q_callI4, ↓q_callS5, ↓q_callV5, ↓q_callI5, ↓q_callS6, ↓q_callV6, ↓q_callI6, ↓q_callS7, ↓q_callV7, ↓q_callI7, ↓q_callS8, ↓q_callV8, ↓q_callI8, ↓q_iret, ↓q_lret, ↓q_vret, q_e_i_int, q_e_l_long, q_e_a_ref, q_e_a_null, q_cat_int, q_cat_ref, q_cat_null, q_cat_long, q_na_int, q_lgt_z, q_lgt_s, q_lst0, q_lst1, q_lstS, q_lst20, q_lst21, q_lst2S, q_clr_i, q_clr_r, q_clr_n, q_clr_0, q_clr_l, q_cv_i, q_cv_l, q_cv_r, q_rv_s, q_rv_n, q_toL_s, q_toL_n, true_and, and_true, Nat.reduceAdd, s33, s34, s35, s36, s37, s38, s39, s40, s41, s42, s43, s44, s45, s46, r33_3, r33_4, r33_6, r33_7, r33_8, r33_10, r33_11, r33_12, r33_13, r33_15, r33_16, r33_18, r33_19]
          refine call_ro (c_gapIn hs hM.1 hk60) (by decide) rfl (Nat.le_refl _) (Nat.le_refl _) ?_
          simp only [↓q_nil, ↓q_iconst, ↓q_bipush, ↓q_sipush, ↓q_ldc, ↓q_lconst, ↓q_ldc2, ↓q_null, ↓q_iload, ↓q_iload_n, ↓q_lload, ↓q_lload_n, ↓q_aload, ↓q_aload_n, ↓q_istore, ↓q_istore_n, ↓q_lstore, ↓q_lstore_n, ↓q_astore, ↓q_astore_n, ↓q_iinc, ↓q_iadd, ↓q_isub, ↓q_imul, ↓q_iand, ↓q_idiv, ↓q_irem, ↓q_ineg, ↓q_ladd, ↓q_lsub, ↓q_lmul, ↓q_land, ↓q_ldiv, ↓q_lrem, ↓q_i2l, ↓q_l2i, ↓q_dup, ↓q_pop, ↓q_dup2, ↓q_dup_x1, ↓q_goto, ↓q_if_eq, ↓q_if_ne, ↓q_if_lt, ↓q_if_ge, ↓q_if_gt, ↓q_if_le, ↓q_icmp_eq, ↓q_icmp_ne, ↓q_icmp_lt, ↓q_icmp_ge, ↓q_icmp_gt, ↓q_icmp_le, ↓q_ifnullN, ↓q_ifnull, ↓q_ifnonnullN, ↓q_ifnonnull, ↓q_table, ↓q_lookup, ↓q_getf, ↓q_putI, ↓q_putJ, ↓q_putR, ↓q_iald, ↓q_sld, ↓q_slen, ↓q_alen, ↓q_iast, ↓q_bald, ↓q_bast, ↓q_aald, ↓q_aast, ↓q_newa, ↓q_newq, ↓q_new, ↓q_objInit, ↓q_max, ↓q_min, ↓q_copy, ↓q_callS0, ↓q_callV0, ↓q_callI0, ↓q_callS1, ↓q_callV1, ↓q_callI1, ↓q_callS2, ↓q_callV2, ↓q_callI2, ↓q_callS3, ↓q_callV3, ↓q_callI3, ↓q_callS4, ↓q_callV4, ↓q_callI4, ↓q_callS5, ↓q_callV5, ↓q_callI5, ↓q_callS6, ↓q_callV6, ↓q_callI6, ↓q_callS7, ↓q_callV7, ↓q_callI7, ↓q_callS8, ↓q_callV8, ↓q_callI8, ↓q_iret, ↓q_lret, ↓q_vret, q_e_i_int, q_e_l_long, q_e_a_ref, q_e_a_null, q_cat_int, q_cat_ref, q_cat_null, q_cat_long, q_na_int, q_lgt_z, q_lgt_s, q_lst0, q_lst1, q_lstS, q_lst20, q_lst21, q_lst2S, q_clr_i, q_clr_r, q_clr_n, q_clr_0, q_clr_l, q_cv_i, q_cv_l, q_cv_r, q_rv_s, q_rv_n, q_toL_s, q_toL_n, true_and, and_true, Nat.reduceAdd, s33, s34, s35, s36, s37, s38, s39, s40, s41, s42, s43, s44, s45, s46, r33_3, r33_4, r33_6, r33_7, r33_8, r33_10, r33_11, r33_12, r33_13, r33_15, r33_16, r33_18, r33_19]
          refine call_ro (c_allowed) (by decide) rfl (Nat.le_refl _) (Nat.le_refl _) ?_
          simp only [↓q_nil, ↓q_iconst, ↓q_bipush, ↓q_sipush, ↓q_ldc, ↓q_lconst, ↓q_ldc2, ↓q_null, ↓q_iload, ↓q_iload_n, ↓q_lload, ↓q_lload_n, ↓q_aload, ↓q_aload_n, ↓q_istore, ↓q_istore_n, ↓q_lstore, ↓q_lstore_n, ↓q_astore, ↓q_astore_n, ↓q_iinc, ↓q_iadd, ↓q_isub, ↓q_imul, ↓q_iand, ↓q_idiv, ↓q_irem, ↓q_ineg, ↓q_ladd, ↓q_lsub, ↓q_lmul, ↓q_land, ↓q_ldiv, ↓q_lrem, ↓q_i2l, ↓q_l2i, ↓q_dup, ↓q_pop, ↓q_dup2, ↓q_dup_x1, ↓q_goto, ↓q_if_eq, ↓q_if_ne, ↓q_if_lt, ↓q_if_ge, ↓q_if_gt, ↓q_if_le, ↓q_icmp_eq, ↓q_icmp_ne, ↓q_icmp_lt, ↓q_icmp_ge, ↓q_icmp_gt, ↓q_icmp_le, ↓q_ifnullN, ↓q_ifnull, ↓q_ifnonnullN, ↓q_ifnonnull, ↓q_table, ↓q_lookup, ↓q_getf, ↓q_putI, ↓q_putJ, ↓q_putR, ↓q_iald, ↓q_sld, ↓q_slen, ↓q_alen, ↓q_iast, ↓q_bald, ↓q_bast, ↓q_aald, ↓q_aast, ↓q_newa, ↓q_newq, ↓q_new, ↓q_objInit, ↓q_max, ↓q_min, ↓q_copy, ↓q_callS0, ↓q_callV0, ↓q_callI0, ↓q_callS1, ↓q_callV1, ↓q_callI1, ↓q_callS2, ↓q_callV2, ↓q_callI2, ↓q_callS3, ↓q_callV3, ↓q_callI3, ↓q_callS4, ↓q_callV4, ↓q_callI4, ↓q_callS5, ↓q_callV5, ↓q_callI5, ↓q_callS6, ↓q_callV6, ↓q_callI6, ↓q_callS7, ↓q_callV7, ↓q_callI7, ↓q_callS8, ↓q_callV8, ↓q_callI8, ↓q_iret, ↓q_lret, ↓q_vret, q_e_i_int, q_e_l_long, q_e_a_ref, q_e_a_null, q_cat_int, q_cat_ref, q_cat_null, q_cat_long, q_na_int, q_lgt_z, q_lgt_s, q_lst0, q_lst1, q_lstS, q_lst20, q_lst21, q_lst2S, q_clr_i, q_clr_r, q_clr_n, q_clr_0, q_clr_l, q_cv_i, q_cv_l, q_cv_r, q_rv_s, q_rv_n, q_toL_s, q_toL_n, true_and, and_true, Nat.reduceAdd, s33, s34, s35, s36, s37, s38, s39, s40, s41, s42, s43, s44, s45, s46, r33_3, r33_4, r33_6, r33_7, r33_8, r33_10, r33_11, r33_12, r33_13, r33_15, r33_16, r33_18, r33_19]
          refine call_ro (c_lesser) (by decide) rfl (Nat.le_refl _) (Nat.le_refl _) ?_
          simp only [↓q_nil, ↓q_iconst, ↓q_bipush, ↓q_sipush, ↓q_ldc, ↓q_lconst, ↓q_ldc2, ↓q_null, ↓q_iload, ↓q_iload_n, ↓q_lload, ↓q_lload_n, ↓q_aload, ↓q_aload_n, ↓q_istore, ↓q_istore_n, ↓q_lstore, ↓q_lstore_n, ↓q_astore, ↓q_astore_n, ↓q_iinc, ↓q_iadd, ↓q_isub, ↓q_imul, ↓q_iand, ↓q_idiv, ↓q_irem, ↓q_ineg, ↓q_ladd, ↓q_lsub, ↓q_lmul, ↓q_land, ↓q_ldiv, ↓q_lrem, ↓q_i2l, ↓q_l2i, ↓q_dup, ↓q_pop, ↓q_dup2, ↓q_dup_x1, ↓q_goto, ↓q_if_eq, ↓q_if_ne, ↓q_if_lt, ↓q_if_ge, ↓q_if_gt, ↓q_if_le, ↓q_icmp_eq, ↓q_icmp_ne, ↓q_icmp_lt, ↓q_icmp_ge, ↓q_icmp_gt, ↓q_icmp_le, ↓q_ifnullN, ↓q_ifnull, ↓q_ifnonnullN, ↓q_ifnonnull, ↓q_table, ↓q_lookup, ↓q_getf, ↓q_putI, ↓q_putJ, ↓q_putR, ↓q_iald, ↓q_sld, ↓q_slen, ↓q_alen, ↓q_iast, ↓q_bald, ↓q_bast, ↓q_aald, ↓q_aast, ↓q_newa, ↓q_newq, ↓q_new, ↓q_objInit, ↓q_max, ↓q_min, ↓q_copy, ↓q_callS0, ↓q_callV0, ↓q_callI0, ↓q_callS1, ↓q_callV1, ↓q_callI1, ↓q_callS2, ↓q_callV2, ↓q_callI2, ↓q_callS3, ↓q_callV3, ↓q_callI3, ↓q_callS4, ↓q_callV4, ↓q_callI4, ↓q_callS5, ↓q_callV5, ↓q_callI5, ↓q_callS6, ↓q_callV6, ↓q_callI6, ↓q_callS7, ↓q_callV7, ↓q_callI7, ↓q_callS8, ↓q_callV8, ↓q_callI8, ↓q_iret, ↓q_lret, ↓q_vret, q_e_i_int, q_e_l_long, q_e_a_ref, q_e_a_null, q_cat_int, q_cat_ref, q_cat_null, q_cat_long, q_na_int, q_lgt_z, q_lgt_s, q_lst0, q_lst1, q_lstS, q_lst20, q_lst21, q_lst2S, q_clr_i, q_clr_r, q_clr_n, q_clr_0, q_clr_l, q_cv_i, q_cv_l, q_cv_r, q_rv_s, q_rv_n, q_toL_s, q_toL_n, true_and, and_true, Nat.reduceAdd, s33, s34, s35, s36, s37, s38, s39, s40, s41, s42, s43, s44, s45, s46, r33_3, r33_4, r33_6, r33_7, r33_8, r33_10, r33_11, r33_12, r33_13, r33_15, r33_16, r33_18, r33_19, cl_nI (show k < 2147483648 by omega)]
          refine ⟨vp_nI hk60 (by decide), ?_⟩
          refine go_wp B_M_speeds_85_ok ?_; simp only [B_M_speeds_85, ↓q_nil, ↓q_iconst, ↓q_bipush, ↓q_sipush, ↓q_ldc, ↓q_lconst, ↓q_ldc2, ↓q_null, ↓q_iload, ↓q_iload_n, ↓q_lload, ↓q_lload_n, ↓q_aload, ↓q_aload_n, ↓q_istore, ↓q_istore_n, ↓q_lstore, ↓q_lstore_n, ↓q_astore, ↓q_astore_n, ↓q_iinc, ↓q_iadd, ↓q_isub, ↓q_imul, ↓q_iand, ↓q_idiv, ↓q_irem, ↓q_ineg, ↓q_ladd, ↓q_lsub, ↓q_lmul, ↓q_land, ↓q_ldiv, ↓q_lrem, ↓q_i2l, ↓q_l2i, ↓q_dup, ↓q_pop, ↓q_dup2, ↓q_dup_x1, ↓q_goto, ↓q_if_eq, ↓q_if_ne, ↓q_if_lt, ↓q_if_ge, ↓q_if_gt, ↓q_if_le, ↓q_icmp_eq, ↓q_icmp_ne, ↓q_icmp_lt, ↓q_icmp_ge, ↓q_icmp_gt, ↓q_icmp_le, ↓q_ifnullN, ↓q_ifnull, ↓q_ifnonnullN, ↓q_ifnonnull, ↓q_table, ↓q_lookup, ↓q_getf, ↓q_putI, ↓q_putJ, ↓q_putR, ↓q_iald, ↓q_sld, ↓q_slen, ↓q_alen, ↓q_iast, ↓q_bald, ↓q_bast, ↓q_aald, ↓q_aast, ↓q_newa, ↓q_newq, ↓q_new, ↓q_objInit, ↓q_max, ↓q_min, ↓q_copy, ↓q_callS0, ↓q_callV0, ↓q_callI0, ↓q_callS1, ↓q_callV1, ↓q_callI1, ↓q_callS2, ↓q_callV2, ↓q_callI2, ↓q_callS3, ↓q_callV3, ↓q_callI3, ↓q_callS4, ↓q_callV4, ↓q_callI4, ↓q_callS5, ↓q_callV5, ↓q_callI5, ↓q_callS6, ↓q_callV6, ↓q_callI6, ↓q_callS7, ↓q_callV7, ↓q_callI7, ↓q_callS8, ↓q_callV8, ↓q_callI8, ↓q_iret, ↓q_lret, ↓q_vret, q_e_i_int, q_e_l_long, q_e_a_ref, q_e_a_null, q_cat_int, q_cat_ref, q_cat_null, q_cat_long, q_na_int, q_lgt_z, q_lgt_s, q_lst0, q_lst1, q_lstS, q_lst20, q_lst21, q_lst2S, q_clr_i, q_clr_r, q_clr_n, q_clr_0, q_clr_l, q_cv_i, q_cv_l, q_cv_r, q_rv_s, q_rv_n, q_toL_s, q_toL_n, true_and, and_true, Nat.reduceAdd, s33, s34, s35, s36, s37, s38, s39, s40, s41, s42, s43, s44, s45, s46, r33_3, r33_4, r33_6, r33_7, r33_8, r33_10, r33_11, r33_12, r33_13, r33_15, r33_16, r33_18, r33_19, nI_inc]
          exact ih _ _
        refine call_ro (c_now hs) (by decide) rfl (Nat.le_refl _) (Nat.le_refl _) ?_
        simp only [↓q_nil, ↓q_iconst, ↓q_bipush, ↓q_sipush, ↓q_ldc, ↓q_lconst, ↓q_ldc2, ↓q_null, ↓q_iload, ↓q_iload_n, ↓q_lload, ↓q_lload_n, ↓q_aload, ↓q_aload_n, ↓q_istore, ↓q_istore_n, ↓q_lstore, ↓q_lstore_n, ↓q_astore, ↓q_astore_n, ↓q_iinc, ↓q_iadd, ↓q_isub, ↓q_imul, ↓q_iand, ↓q_idiv, ↓q_irem, ↓q_ineg, ↓q_ladd, ↓q_lsub, ↓q_lmul, ↓q_land, ↓q_ldiv, ↓q_lrem, ↓q_i2l, ↓q_l2i, ↓q_dup, ↓q_pop, ↓q_dup2, ↓q_dup_x1, ↓q_goto, ↓q_if_eq, ↓q_if_ne, ↓q_if_lt, ↓q_if_ge, ↓q_if_gt, ↓q_if_le, ↓q_icmp_eq, ↓q_icmp_ne, ↓q_icmp_lt, ↓q_icmp_ge, ↓q_icmp_gt, ↓q_icmp_le, ↓q_ifnullN, ↓q_ifnull, ↓q_ifnonnullN, ↓q_ifnonnull, ↓q_table, ↓q_lookup, ↓q_getf, ↓q_putI, ↓q_putJ, ↓q_putR, ↓q_iald, ↓q_sld, ↓q_slen, ↓q_alen, ↓q_iast, ↓q_bald, ↓q_bast, ↓q_aald, ↓q_aast, ↓q_newa, ↓q_newq, ↓q_new, ↓q_objInit, ↓q_max, ↓q_min, ↓q_copy, ↓q_callS0, ↓q_callV0, ↓q_callI0, ↓q_callS1, ↓q_callV1, ↓q_callI1, ↓q_callS2, ↓q_callV2, ↓q_callI2, ↓q_callS3, ↓q_callV3, ↓q_callI3, ↓q_callS4, ↓q_callV4, ↓q_callI4, ↓q_callS5, ↓q_callV5, ↓q_callI5, ↓q_callS6, ↓q_callV6, ↓q_callI6, ↓q_callS7, ↓q_callV7, ↓q_callI7, ↓q_callS8, ↓q_callV8, ↓q_callI8, ↓q_iret, ↓q_lret, ↓q_vret, q_e_i_int, q_e_l_long, q_e_a_ref, q_e_a_null, q_cat_int, q_cat_ref, q_cat_null, q_cat_long, q_na_int, q_lgt_z, q_lgt_s, q_lst0, q_lst1, q_lstS, q_lst20, q_lst21, q_lst2S, q_clr_i, q_clr_r, q_clr_n, q_clr_0, q_clr_l, q_cv_i, q_cv_l, q_cv_r, q_rv_s, q_rv_n, q_toL_s, q_toL_n, true_and, and_true, Nat.reduceAdd, s33, s34, s35, s36, s37, s38, s39, s40, s41, s42, s43, s44, s45, s46, r33_3, r33_4, r33_6, r33_7, r33_8, r33_10, r33_11, r33_12, r33_13, r33_15, r33_16, r33_18, r33_19]
        refine call_ro (c_of hs (p := 10) hk60 (by decide)) (by decide) rfl (Nat.le_refl _) (Nat.le_refl _) ?_
        simp only [↓q_nil, ↓q_iconst, ↓q_bipush, ↓q_sipush, ↓q_ldc, ↓q_lconst, ↓q_ldc2, ↓q_null, ↓q_iload, ↓q_iload_n, ↓q_lload, ↓q_lload_n, ↓q_aload, ↓q_aload_n, ↓q_istore, ↓q_istore_n, ↓q_lstore, ↓q_lstore_n, ↓q_astore, ↓q_astore_n, ↓q_iinc, ↓q_iadd, ↓q_isub, ↓q_imul, ↓q_iand, ↓q_idiv, ↓q_irem, ↓q_ineg, ↓q_ladd, ↓q_lsub, ↓q_lmul, ↓q_land, ↓q_ldiv, ↓q_lrem, ↓q_i2l, ↓q_l2i, ↓q_dup, ↓q_pop, ↓q_dup2, ↓q_dup_x1, ↓q_goto, ↓q_if_eq, ↓q_if_ne, ↓q_if_lt, ↓q_if_ge, ↓q_if_gt, ↓q_if_le, ↓q_icmp_eq, ↓q_icmp_ne, ↓q_icmp_lt, ↓q_icmp_ge, ↓q_icmp_gt, ↓q_icmp_le, ↓q_ifnullN, ↓q_ifnull, ↓q_ifnonnullN, ↓q_ifnonnull, ↓q_table, ↓q_lookup, ↓q_getf, ↓q_putI, ↓q_putJ, ↓q_putR, ↓q_iald, ↓q_sld, ↓q_slen, ↓q_alen, ↓q_iast, ↓q_bald, ↓q_bast, ↓q_aald, ↓q_aast, ↓q_newa, ↓q_newq, ↓q_new, ↓q_objInit, ↓q_max, ↓q_min, ↓q_copy, ↓q_callS0, ↓q_callV0, ↓q_callI0, ↓q_callS1, ↓q_callV1, ↓q_callI1, ↓q_callS2, ↓q_callV2, ↓q_callI2, ↓q_callS3, ↓q_callV3, ↓q_callI3, ↓q_callS4, ↓q_callV4, ↓q_callI4, ↓q_callS5, ↓q_callV5, ↓q_callI5, ↓q_callS6, ↓q_callV6, ↓q_callI6, ↓q_callS7, ↓q_callV7, ↓q_callI7, ↓q_callS8, ↓q_callV8, ↓q_callI8, ↓q_iret, ↓q_lret, ↓q_vret, q_e_i_int, q_e_l_long, q_e_a_ref, q_e_a_null, q_cat_int, q_cat_ref, q_cat_null, q_cat_long, q_na_int, q_lgt_z, q_lgt_s, q_lst0, q_lst1, q_lstS, q_lst20, q_lst21, q_lst2S, q_clr_i, q_clr_r, q_clr_n, q_clr_0, q_clr_l, q_cv_i, q_cv_l, q_cv_r, q_rv_s, q_rv_n, q_toL_s, q_toL_n, true_and, and_true, Nat.reduceAdd, s33, s34, s35, s36, s37, s38, s39, s40, s41, s42, s43, s44, s45, s46, r33_3, r33_4, r33_6, r33_7, r33_8, r33_10, r33_11, r33_12, r33_13, r33_15, r33_16, r33_18, r33_19]
        refine ⟨(hM.2.2 k hk).1, fun e2 => h41 6 (by rw [if_pos (show m_tick (I2 34) k from e2)]), fun e2 => ?_⟩
        refine go_wp B_M_speeds_40_ok ?_; simp only [B_M_speeds_40, ↓q_nil, ↓q_iconst, ↓q_bipush, ↓q_sipush, ↓q_ldc, ↓q_lconst, ↓q_ldc2, ↓q_null, ↓q_iload, ↓q_iload_n, ↓q_lload, ↓q_lload_n, ↓q_aload, ↓q_aload_n, ↓q_istore, ↓q_istore_n, ↓q_lstore, ↓q_lstore_n, ↓q_astore, ↓q_astore_n, ↓q_iinc, ↓q_iadd, ↓q_isub, ↓q_imul, ↓q_iand, ↓q_idiv, ↓q_irem, ↓q_ineg, ↓q_ladd, ↓q_lsub, ↓q_lmul, ↓q_land, ↓q_ldiv, ↓q_lrem, ↓q_i2l, ↓q_l2i, ↓q_dup, ↓q_pop, ↓q_dup2, ↓q_dup_x1, ↓q_goto, ↓q_if_eq, ↓q_if_ne, ↓q_if_lt, ↓q_if_ge, ↓q_if_gt, ↓q_if_le, ↓q_icmp_eq, ↓q_icmp_ne, ↓q_icmp_lt, ↓q_icmp_ge, ↓q_icmp_gt, ↓q_icmp_le, ↓q_ifnullN, ↓q_ifnull, ↓q_ifnonnullN, ↓q_ifnonnull, ↓q_table, ↓q_lookup, ↓q_getf, ↓q_putI, ↓q_putJ, ↓q_putR, ↓q_iald, ↓q_sld, ↓q_slen, ↓q_alen, ↓q_iast, ↓q_bald, ↓q_bast, ↓q_aald, ↓q_aast, ↓q_newa, ↓q_newq, ↓q_new, ↓q_objInit, ↓q_max, ↓q_min, ↓q_copy, ↓q_callS0, ↓q_callV0, ↓q_callI0, ↓q_callS1, ↓q_callV1, ↓q_callI1, ↓q_callS2, ↓q_callV2, ↓q_callI2, ↓q_callS3, ↓q_callV3, ↓q_callI3, ↓q_callS4, ↓q_callV4, ↓q_callI4, ↓q_callS5, ↓q_callV5, ↓q_callI5, ↓q_callS6, ↓q_callV6, ↓q_callI6, ↓q_callS7, ↓q_callV7, ↓q_callI7, ↓q_callS8, ↓q_callV8, ↓q_callI8, ↓q_iret, ↓q_lret, ↓q_vret, q_e_i_int, q_e_l_long, q_e_a_ref, q_e_a_null, q_cat_int, q_cat_ref, q_cat_null, q_cat_long, q_na_int, q_lgt_z, q_lgt_s, q_lst0, q_lst1, q_lstS, q_lst20, q_lst21, q_lst2S, q_clr_i, q_clr_r, q_clr_n, q_clr_0, q_clr_l, q_cv_i, q_cv_l, q_cv_r, q_rv_s, q_rv_n, q_toL_s, q_toL_n, true_and, and_true, Nat.reduceAdd, s33, s34, s35, s36, s37, s38, s39, s40, s41, s42, s43, s44, s45, s46, r33_3, r33_4, r33_6, r33_7, r33_8, r33_10, r33_11, r33_12, r33_13, r33_15, r33_16, r33_18, r33_19]
        exact h41 0 (by rw [if_neg (show ¬ m_tick (I2 34) k from e2)])
      · rw [if_neg e1] at ih
        refine go_wp B_M_speeds_85_ok ?_; simp only [B_M_speeds_85, ↓q_nil, ↓q_iconst, ↓q_bipush, ↓q_sipush, ↓q_ldc, ↓q_lconst, ↓q_ldc2, ↓q_null, ↓q_iload, ↓q_iload_n, ↓q_lload, ↓q_lload_n, ↓q_aload, ↓q_aload_n, ↓q_istore, ↓q_istore_n, ↓q_lstore, ↓q_lstore_n, ↓q_astore, ↓q_astore_n, ↓q_iinc, ↓q_iadd, ↓q_isub, ↓q_imul, ↓q_iand, ↓q_idiv, ↓q_irem, ↓q_ineg, ↓q_ladd, ↓q_lsub, ↓q_lmul, ↓q_land, ↓q_ldiv, ↓q_lrem, ↓q_i2l, ↓q_l2i, ↓q_dup, ↓q_pop, ↓q_dup2, ↓q_dup_x1, ↓q_goto, ↓q_if_eq, ↓q_if_ne, ↓q_if_lt, ↓q_if_ge, ↓q_if_gt, ↓q_if_le, ↓q_icmp_eq, ↓q_icmp_ne, ↓q_icmp_lt, ↓q_icmp_ge, ↓q_icmp_gt, ↓q_icmp_le, ↓q_ifnullN, ↓q_ifnull, ↓q_ifnonnullN, ↓q_ifnonnull, ↓q_table, ↓q_lookup, ↓q_getf, ↓q_putI, ↓q_putJ, ↓q_putR, ↓q_iald, ↓q_sld, ↓q_slen, ↓q_alen, ↓q_iast, ↓q_bald, ↓q_bast, ↓q_aald, ↓q_aast, ↓q_newa, ↓q_newq, ↓q_new, ↓q_objInit, ↓q_max, ↓q_min, ↓q_copy, ↓q_callS0, ↓q_callV0, ↓q_callI0, ↓q_callS1, ↓q_callV1, ↓q_callI1, ↓q_callS2, ↓q_callV2, ↓q_callI2, ↓q_callS3, ↓q_callV3, ↓q_callI3, ↓q_callS4, ↓q_callV4, ↓q_callI4, ↓q_callS5, ↓q_callV5, ↓q_callI5, ↓q_callS6, ↓q_callV6, ↓q_callI6, ↓q_callS7, ↓q_callV7, ↓q_callI7, ↓q_callS8, ↓q_callV8, ↓q_callI8, ↓q_iret, ↓q_lret, ↓q_vret, q_e_i_int, q_e_l_long, q_e_a_ref, q_e_a_null, q_cat_int, q_cat_ref, q_cat_null, q_cat_long, q_na_int, q_lgt_z, q_lgt_s, q_lst0, q_lst1, q_lstS, q_lst20, q_lst21, q_lst2S, q_clr_i, q_clr_r, q_clr_n, q_clr_0, q_clr_l, q_cv_i, q_cv_l, q_cv_r, q_rv_s, q_rv_n, q_toL_s, q_toL_n, true_and, and_true, Nat.reduceAdd, s33, s34, s35, s36, s37, s38, s39, s40, s41, s42, s43, s44, s45, s46, r33_3, r33_4, r33_6, r33_7, r33_8, r33_10, r33_11, r33_12, r33_13, r33_15, r33_16, r33_18, r33_19, nI_inc]
        exact ih _ _
  refine go_wp B_M_speeds_0_ok ?_; simp only [B_M_speeds_0, ↓q_nil, ↓q_iconst, ↓q_bipush, ↓q_sipush, ↓q_ldc, ↓q_lconst, ↓q_ldc2, ↓q_null, ↓q_iload, ↓q_iload_n, ↓q_lload, ↓q_lload_n, ↓q_aload, ↓q_aload_n, ↓q_istore, ↓q_istore_n, ↓q_lstore, ↓q_lstore_n, ↓q_astore, ↓q_astore_n, ↓q_iinc, ↓q_iadd, ↓q_isub, ↓q_imul, ↓q_iand, ↓q_idiv, ↓q_irem, ↓q_ineg, ↓q_ladd, ↓q_lsub, ↓q_lmul, ↓q_land, ↓q_ldiv, ↓q_lrem, ↓q_i2l, ↓q_l2i, ↓q_dup, ↓q_pop, ↓q_dup2, ↓q_dup_x1, ↓q_goto, ↓q_if_eq, ↓q_if_ne, ↓q_if_lt, ↓q_if_ge, ↓q_if_gt, ↓q_if_le, ↓q_icmp_eq, ↓q_icmp_ne, ↓q_icmp_lt, ↓q_icmp_ge, ↓q_icmp_gt, ↓q_icmp_le, ↓q_ifnullN, ↓q_ifnull, ↓q_ifnonnullN, ↓q_ifnonnull, ↓q_table, ↓q_lookup, ↓q_getf, ↓q_putI, ↓q_putJ, ↓q_putR, ↓q_iald, ↓q_sld, ↓q_slen, ↓q_alen, ↓q_iast, ↓q_bald, ↓q_bast, ↓q_aald, ↓q_aast, ↓q_newa, ↓q_newq, ↓q_new, ↓q_objInit, ↓q_max, ↓q_min, ↓q_copy, ↓q_callS0, ↓q_callV0, ↓q_callI0, ↓q_callS1, ↓q_callV1, ↓q_callI1, ↓q_callS2, ↓q_callV2, ↓q_callI2, ↓q_callS3, ↓q_callV3, ↓q_callI3, ↓q_callS4, ↓q_callV4, ↓q_callI4, ↓q_callS5, ↓q_callV5, ↓q_callI5, ↓q_callS6, ↓q_callV6, ↓q_callI6, ↓q_callS7, ↓q_callV7, ↓q_callI7, ↓q_callS8, ↓q_callV8, ↓q_callI8, ↓q_iret, ↓q_lret, ↓q_vret, q_e_i_int, q_e_l_long, q_e_a_ref, q_e_a_null, q_cat_int, q_cat_ref, q_cat_null, q_cat_long, q_na_int, q_lgt_z, q_lgt_s, q_lst0, q_lst1, q_lstS, q_lst20, q_lst21, q_lst2S, q_clr_i, q_clr_r, q_clr_n, q_clr_0, q_clr_l, q_cv_i, q_cv_l, q_cv_r, q_rv_s, q_rv_n, q_toL_s, q_toL_n, true_and, and_true, Nat.reduceAdd, s33, s34, s35, s36, s37, s38, s39, s40, s41, s42, s43, s44, s45, s46, r33_3, r33_4, r33_6, r33_7, r33_8, r33_10, r33_11, r33_12, r33_13, r33_15, r33_16, r33_18, r33_19]
  exact h2 _ _
end
end
section
/-! the reference: move -/
abbrev m_std (I : Nat → Nat → Int32) (a : Nat) (x : Int32) (k : Nat) : Prop := pt (I 34) 0 a = 1 ∧ pt (I 34) 4 a = 0 ∧ (0 ≤ I 43 k - x ∧ I 43 k - x ≤ 400)
abbrev m_more (I : Nat → Nat → Int32) (a : Nat) (x : Int32) (k : Nat) : Prop := m_std I a x k ∧ pt (I 34) (11 + k) a < I 44 k
def m_m1 (I : Nat → Nat → Int32) (a : Nat) (x : Int32) : Nat → Nat → Nat → Int32
  | 0 => I
  | k + 1 => mp (m_m1 I a x k) a (11 + k) (pt (m_m1 I a x k 34) (11 + k) a + bI (m_more (m_m1 I a x k) a x k))
def m_m2 (I : Nat → Nat → Int32) (ln : Nat) (w x : Int32) : Nat → Nat → Nat → Int32
  | 0 => I
  | k + 1 => mci (m_m2 I ln w x k) (6 + 3 * k + ln) (bI (w ≤ m_m2 I ln w x k 45 k ∧ m_m2 I ln w x k 45 k < x))
def m_m3 (I : Nat → Nat → Int32) (a : Nat) (x : Int32) : Nat → Nat → Int32 :=
  if I 33 2 < x - pt (I 34) 8 a then
    let I1 := mp (mp I a 2 2) a 6 (mp I a 2 2 34 1)
    mci I1 2 (I1 34 1 - pt (I1 34) 5 a)
  else I
def m_mov (I : Nat → Nat → Int32) (ns nn a ln : Nat) : Nat → Nat → Int32 :=
  let w := pt (I 34) 3 a
  let x := w + pt (I 34) 4 a
  m_m3 (m_m2 (m_m1 (mp I a 3 x) a x ns) ln w x nn) a x
theorem m_m1_ok {I : Nat → Nat → Int32} {N nl nc ns nn L a : Nat} {x : Int32} (h : MOK I N nl nc ns nn L) : ∀ k, k ≤ 4 → MOK (m_m1 I a x k) N nl nc ns nn L
  | 0, _ => h
  | k + 1, hk => (m_m1_ok h k (by omega)).mp (by omega) (fun e => absurd e (by omega)) (fun e => absurd e (by omega))
theorem m_m1_ne {I : Nat → Nat → Int32} {a : Nat} {x : Int32} {b : Nat} (hb : b ≠ 34) : ∀ k, m_m1 I a x k b = I b
  | 0 => rfl
  | k + 1 => (mp_ne _ _ _ _ hb).trans (m_m1_ne hb k)
theorem m_m2_ok {I : Nat → Nat → Int32} {N nl nc ns nn L ln : Nat} {w x : Int32} (hl : ln < 3) (h : MOK I N nl nc ns nn L) : ∀ k, k ≤ 4 → MOK (m_m2 I ln w x k) N nl nc ns nn L
  | 0, _ => h
  | k + 1, hk => (m_m2_ok hl h k (by omega)).mci (by omega) (by omega)
theorem m_m2_pt {I : Nat → Nat → Int32} {ln p i : Nat} {w x : Int32} (hl : ln < 3) : ∀ k, k ≤ 4 → pt (m_m2 I ln w x k 34) p i = pt (I 34) p i
  | 0, _ => rfl
  | k + 1, hk => (mci_pt _ _ (by omega)).trans (m_m2_pt hl k (by omega))
theorem m_m1_pt {I : Nat → Nat → Int32} {a p i : Nat} {x : Int32} (hp : p < 11) : ∀ k, k ≤ 4 → pt (m_m1 I a x k 34) p i = pt (I 34) p i
  | 0, _ => rfl
  | k + 1, hk => by
    rw [m_m1, mp_pt _ _ _ _ (by omega) (by omega), if_neg (by omega)]
    exact m_m1_pt hp k (by omega)
theorem m_m3_ok {I : Nat → Nat → Int32} {N nl nc ns nn L a : Nat} {x : Int32} (h : MOK I N nl nc ns nn L) : MOK (m_m3 I a x) N nl nc ns nn L := by
  unfold m_m3
  split
  · exact ((h.mp (by decide) (fun e => absurd e (by decide)) (fun e => absurd e (by decide))).mp (by decide) (fun e => absurd e (by decide)) (fun e => absurd e (by decide))).mci (by decide) (by decide)
  · exact h
theorem m_mov_ok {I : Nat → Nat → Int32} {N nl nc ns nn L a ln : Nat} (hl : ln < 3) (h : MOK I N nl nc ns nn L) : MOK (m_mov I ns nn a ln) N nl nc ns nn L := by
  have h1 := h.1.2.2.2.1.2
  have h2 := h.1.2.2.2.2.1.2
  exact m_m3_ok (m_m2_ok hl (m_m1_ok (h.mp (by decide) (fun e => absurd e (by decide)) (fun e => absurd e (by decide))) ns h1) nn h2)
theorem nI_ln (k ln : Nat) : (6 : Int32) + 3 * nI k + nI ln = nI (6 + 3 * k + ln) := by
  rw [← nI_add, ← nI_add, ← pk_mul]
  rfl
section
variable {g : GT} {n z : Nat} {S : Nat → Nat × Nat} {I : Nat → Nat → Int32} {J : Nat → Nat → Int64} {R : Nat → Nat → Option Nat}
set_option maxRecDepth 100000 in set_option maxHeartbeats 4000000 in
theorem c_move (hs : ShM S R) {N nl nc ns nn L a ln : Nat} (hw : MOK I N nl nc ns nn L) (ha : a < 60) (hln : ln < 3) (hlan : pt (I 34) 1 a = nI ln) : Cn g M_M_move 1 0 0 [.ref (gB g + 33), .int (nI a)] (n, z, S, I, J, R) (Is none (n, z, S, m_mov I ns nn a ln, J, R)) := by
  have hs' := hs; obtain ⟨⟨s33, s34, s35, s36, s37, s38, s39, s40, s41, s42, s43, s44, s45, s46⟩, r33_3, r33_4, r33_6, r33_7, r33_8, r33_10, r33_11, r33_12, r33_13, r33_15, r33_16, r33_18, r33_19⟩ := hs'
  refine cn_go (ls := [some (.ref (gB g + 33)), some (.int (nI a)), none, none, none, none, none]) kc_M_move (by decide) rfl rfl ?_
  generalize hQ : Is none (n, z, S, m_mov I ns nn a ln, J, R) = Q
  rw [m_mov] at hQ
  generalize hwv : pt (I 34) 3 a = wv at hQ
  generalize hxv : wv + pt (I 34) 4 a = xv at hQ
  have hns4 : ns ≤ 4 := hw.1.2.2.2.1.2
  have hnn4 : nn ≤ 4 := hw.1.2.2.2.2.1.2
  have hw1 : MOK (mp I a 3 xv) N nl nc ns nn L := hw.mp (by decide) (fun e => absurd e (by decide)) (fun e => absurd e (by decide))
  have hlan1 : pt (mp I a 3 xv 34) 1 a = nI ln := by rw [mp_pt _ _ _ _ (by decide) (by decide), if_neg (by omega)]; exact hlan
  generalize hI1 : mp I a 3 xv = I1 at hQ hw1 hlan1
  have h152 : ∀ o5 o6 : Option Value, Go (g, M_M_move, 1, n, z, 0, 0, Q) 152 [some (.ref (gB g + 33)), some (.int (nI a)), some (.int wv), some (.int xv), some (.int (nI 0)), o5, o6] [] (n, z, S, m_m2 (m_m1 I1 a xv ns) ln wv xv 0, J, R) := by
    intro o5 o6
    have hw2 := m_m1_ok (a := a) (x := xv) hw1 ns hns4
    have hlan2 : pt (m_m1 I1 a xv ns 34) 1 a = nI ln := (m_m1_pt (by decide) ns hns4).trans hlan1
    generalize m_m1 I1 a xv ns = I2 at hQ hw2 hlan2 ⊢
    refine go_loop (P := fun k => Go (g, M_M_move, 1, n, z, 0, 0, Q) 152 [some (.ref (gB g + 33)), some (.int (nI a)), some (.int wv), some (.int xv), some (.int (nI k)), o5, o6] [] (n, z, S, m_m2 I2 ln wv xv k, J, R)) nn ?_ ?_
    · have hnn := (m_m2_ok (w := wv) (x := xv) hln hw2 nn hnn4).1.2.2.2.2.1.1
      generalize m_m2 I2 ln wv xv nn = I3 at hQ hnn ⊢
      refine go_wp B_M_move_152_ok ?_; simp only [B_M_move_152, ↓q_nil, ↓q_iconst, ↓q_bipush, ↓q_sipush, ↓q_ldc, ↓q_lconst, ↓q_ldc2, ↓q_null, ↓q_iload, ↓q_iload_n, ↓q_lload, ↓q_lload_n, ↓q_aload, ↓q_aload_n, ↓q_istore, ↓q_istore_n, ↓q_lstore, ↓q_lstore_n, ↓q_astore, ↓q_astore_n, ↓q_iinc, ↓q_iadd, ↓q_isub, ↓q_imul, ↓q_iand, ↓q_idiv, ↓q_irem, ↓q_ineg, ↓q_ladd, ↓q_lsub, ↓q_lmul, ↓q_land, ↓q_ldiv, ↓q_lrem, ↓q_i2l, ↓q_l2i, ↓q_dup, ↓q_pop, ↓q_dup2, ↓q_dup_x1, ↓q_goto, ↓q_if_eq, ↓q_if_ne, ↓q_if_lt, ↓q_if_ge, ↓q_if_gt, ↓q_if_le, ↓q_icmp_eq, ↓q_icmp_ne, ↓q_icmp_lt, ↓q_icmp_ge, ↓q_icmp_gt, ↓q_icmp_le, ↓q_ifnullN, ↓q_ifnull, ↓q_ifnonnullN, ↓q_ifnonnull, ↓q_table, ↓q_lookup, ↓q_getf, ↓q_putI, ↓q_putJ, ↓q_putR, ↓q_iald, ↓q_sld, ↓q_slen, ↓q_alen, ↓q_iast, ↓q_bald, ↓q_bast, ↓q_aald, ↓q_aast, ↓q_newa, ↓q_newq, ↓q_new, ↓q_objInit, ↓q_max, ↓q_min, ↓q_copy, ↓q_callS0, ↓q_callV0, ↓q_callI0, ↓q_callS1, ↓q_callV1, ↓q_callI1, ↓q_callS2, ↓q_callV2, ↓q_callI2, ↓q_callS3, ↓q_callV3, ↓q_callI3, ↓q_callS4, ↓q_callV4, ↓q_callI4, ↓q_callS5, ↓q_callV5, ↓q_callI5, ↓q_callS6, ↓q_callV6, ↓q_callI6, ↓q_callS7, ↓q_callV7, ↓q_callI7, ↓q_callS8, ↓q_callV8, ↓q_callI8, ↓q_iret, ↓q_lret, ↓q_vret, q_e_i_int, q_e_l_long, q_e_a_ref, q_e_a_null, q_cat_int, q_cat_ref, q_cat_null, q_cat_long, q_na_int, q_lgt_z, q_lgt_s, q_lst0, q_lst1, q_lstS, q_lst20, q_lst21, q_lst2S, q_clr_i, q_clr_r, q_clr_n, q_clr_0, q_clr_l, q_cv_i, q_cv_l, q_cv_r, q_rv_s, q_rv_n, q_toL_s, q_toL_n, true_and, and_true, Nat.reduceAdd, s33, s34, s35, s36, s37, s38, s39, s40, s41, s42, s43, s44, s45, s46, r33_3, r33_4, r33_6, r33_7, r33_8, r33_10, r33_11, r33_12, r33_13, r33_15, r33_16, r33_18, r33_19, hnn]
      refine ⟨fun h => absurd h (nI_nlt (Nat.le_refl _) (by omega)), fun _ => ?_⟩
      refine go_wp B_M_move_216_ok ?_; simp only [B_M_move_216, ↓q_nil, ↓q_iconst, ↓q_bipush, ↓q_sipush, ↓q_ldc, ↓q_lconst, ↓q_ldc2, ↓q_null, ↓q_iload, ↓q_iload_n, ↓q_lload, ↓q_lload_n, ↓q_aload, ↓q_aload_n, ↓q_istore, ↓q_istore_n, ↓q_lstore, ↓q_lstore_n, ↓q_astore, ↓q_astore_n, ↓q_iinc, ↓q_iadd, ↓q_isub, ↓q_imul, ↓q_iand, ↓q_idiv, ↓q_irem, ↓q_ineg, ↓q_ladd, ↓q_lsub, ↓q_lmul, ↓q_land, ↓q_ldiv, ↓q_lrem, ↓q_i2l, ↓q_l2i, ↓q_dup, ↓q_pop, ↓q_dup2, ↓q_dup_x1, ↓q_goto, ↓q_if_eq, ↓q_if_ne, ↓q_if_lt, ↓q_if_ge, ↓q_if_gt, ↓q_if_le, ↓q_icmp_eq, ↓q_icmp_ne, ↓q_icmp_lt, ↓q_icmp_ge, ↓q_icmp_gt, ↓q_icmp_le, ↓q_ifnullN, ↓q_ifnull, ↓q_ifnonnullN, ↓q_ifnonnull, ↓q_table, ↓q_lookup, ↓q_getf, ↓q_putI, ↓q_putJ, ↓q_putR, ↓q_iald, ↓q_sld, ↓q_slen, ↓q_alen, ↓q_iast, ↓q_bald, ↓q_bast, ↓q_aald, ↓q_aast, ↓q_newa, ↓q_newq, ↓q_new, ↓q_objInit, ↓q_max, ↓q_min, ↓q_copy, ↓q_callS0, ↓q_callV0, ↓q_callI0, ↓q_callS1, ↓q_callV1, ↓q_callI1, ↓q_callS2, ↓q_callV2, ↓q_callI2, ↓q_callS3, ↓q_callV3, ↓q_callI3, ↓q_callS4, ↓q_callV4, ↓q_callI4, ↓q_callS5, ↓q_callV5, ↓q_callI5, ↓q_callS6, ↓q_callV6, ↓q_callI6, ↓q_callS7, ↓q_callV7, ↓q_callI7, ↓q_callS8, ↓q_callV8, ↓q_callI8, ↓q_iret, ↓q_lret, ↓q_vret, q_e_i_int, q_e_l_long, q_e_a_ref, q_e_a_null, q_cat_int, q_cat_ref, q_cat_null, q_cat_long, q_na_int, q_lgt_z, q_lgt_s, q_lst0, q_lst1, q_lstS, q_lst20, q_lst21, q_lst2S, q_clr_i, q_clr_r, q_clr_n, q_clr_0, q_clr_l, q_cv_i, q_cv_l, q_cv_r, q_rv_s, q_rv_n, q_toL_s, q_toL_n, true_and, and_true, Nat.reduceAdd, s33, s34, s35, s36, s37, s38, s39, s40, s41, s42, s43, s44, s45, s46, r33_3, r33_4, r33_6, r33_7, r33_8, r33_10, r33_11, r33_12, r33_13, r33_15, r33_16, r33_18, r33_19]
      refine call_ro (c_of hs (p := 8) ha (by decide)) (by decide) rfl (Nat.le_refl _) (Nat.le_refl _) ?_
      simp only [↓q_nil, ↓q_iconst, ↓q_bipush, ↓q_sipush, ↓q_ldc, ↓q_lconst, ↓q_ldc2, ↓q_null, ↓q_iload, ↓q_iload_n, ↓q_lload, ↓q_lload_n, ↓q_aload, ↓q_aload_n, ↓q_istore, ↓q_istore_n, ↓q_lstore, ↓q_lstore_n, ↓q_astore, ↓q_astore_n, ↓q_iinc, ↓q_iadd, ↓q_isub, ↓q_imul, ↓q_iand, ↓q_idiv, ↓q_irem, ↓q_ineg, ↓q_ladd, ↓q_lsub, ↓q_lmul, ↓q_land, ↓q_ldiv, ↓q_lrem, ↓q_i2l, ↓q_l2i, ↓q_dup, ↓q_pop, ↓q_dup2, ↓q_dup_x1, ↓q_goto, ↓q_if_eq, ↓q_if_ne, ↓q_if_lt, ↓q_if_ge, ↓q_if_gt, ↓q_if_le, ↓q_icmp_eq, ↓q_icmp_ne, ↓q_icmp_lt, ↓q_icmp_ge, ↓q_icmp_gt, ↓q_icmp_le, ↓q_ifnullN, ↓q_ifnull, ↓q_ifnonnullN, ↓q_ifnonnull, ↓q_table, ↓q_lookup, ↓q_getf, ↓q_putI, ↓q_putJ, ↓q_putR, ↓q_iald, ↓q_sld, ↓q_slen, ↓q_alen, ↓q_iast, ↓q_bald, ↓q_bast, ↓q_aald, ↓q_aast, ↓q_newa, ↓q_newq, ↓q_new, ↓q_objInit, ↓q_max, ↓q_min, ↓q_copy, ↓q_callS0, ↓q_callV0, ↓q_callI0, ↓q_callS1, ↓q_callV1, ↓q_callI1, ↓q_callS2, ↓q_callV2, ↓q_callI2, ↓q_callS3, ↓q_callV3, ↓q_callI3, ↓q_callS4, ↓q_callV4, ↓q_callI4, ↓q_callS5, ↓q_callV5, ↓q_callI5, ↓q_callS6, ↓q_callV6, ↓q_callI6, ↓q_callS7, ↓q_callV7, ↓q_callI7, ↓q_callS8, ↓q_callV8, ↓q_callI8, ↓q_iret, ↓q_lret, ↓q_vret, q_e_i_int, q_e_l_long, q_e_a_ref, q_e_a_null, q_cat_int, q_cat_ref, q_cat_null, q_cat_long, q_na_int, q_lgt_z, q_lgt_s, q_lst0, q_lst1, q_lstS, q_lst20, q_lst21, q_lst2S, q_clr_i, q_clr_r, q_clr_n, q_clr_0, q_clr_l, q_cv_i, q_cv_l, q_cv_r, q_rv_s, q_rv_n, q_toL_s, q_toL_n, true_and, and_true, Nat.reduceAdd, s33, s34, s35, s36, s37, s38, s39, s40, s41, s42, s43, s44, s45, s46, r33_3, r33_4, r33_6, r33_7, r33_8, r33_10, r33_11, r33_12, r33_13, r33_15, r33_16, r33_18, r33_19]
      rw [m_m3] at hQ
      refine ⟨fun e1 => ?_, fun e1 => ?_⟩
      · rw [if_pos e1] at hQ
        refine call_ro (c_putm hs (p := 2) (v := 2) ha (by decide)) (by decide) rfl (Nat.le_refl _) (Nat.le_refl _) ?_
        simp only [↓q_nil, ↓q_iconst, ↓q_bipush, ↓q_sipush, ↓q_ldc, ↓q_lconst, ↓q_ldc2, ↓q_null, ↓q_iload, ↓q_iload_n, ↓q_lload, ↓q_lload_n, ↓q_aload, ↓q_aload_n, ↓q_istore, ↓q_istore_n, ↓q_lstore, ↓q_lstore_n, ↓q_astore, ↓q_astore_n, ↓q_iinc, ↓q_iadd, ↓q_isub, ↓q_imul, ↓q_iand, ↓q_idiv, ↓q_irem, ↓q_ineg, ↓q_ladd, ↓q_lsub, ↓q_lmul, ↓q_land, ↓q_ldiv, ↓q_lrem, ↓q_i2l, ↓q_l2i, ↓q_dup, ↓q_pop, ↓q_dup2, ↓q_dup_x1, ↓q_goto, ↓q_if_eq, ↓q_if_ne, ↓q_if_lt, ↓q_if_ge, ↓q_if_gt, ↓q_if_le, ↓q_icmp_eq, ↓q_icmp_ne, ↓q_icmp_lt, ↓q_icmp_ge, ↓q_icmp_gt, ↓q_icmp_le, ↓q_ifnullN, ↓q_ifnull, ↓q_ifnonnullN, ↓q_ifnonnull, ↓q_table, ↓q_lookup, ↓q_getf, ↓q_putI, ↓q_putJ, ↓q_putR, ↓q_iald, ↓q_sld, ↓q_slen, ↓q_alen, ↓q_iast, ↓q_bald, ↓q_bast, ↓q_aald, ↓q_aast, ↓q_newa, ↓q_newq, ↓q_new, ↓q_objInit, ↓q_max, ↓q_min, ↓q_copy, ↓q_callS0, ↓q_callV0, ↓q_callI0, ↓q_callS1, ↓q_callV1, ↓q_callI1, ↓q_callS2, ↓q_callV2, ↓q_callI2, ↓q_callS3, ↓q_callV3, ↓q_callI3, ↓q_callS4, ↓q_callV4, ↓q_callI4, ↓q_callS5, ↓q_callV5, ↓q_callI5, ↓q_callS6, ↓q_callV6, ↓q_callI6, ↓q_callS7, ↓q_callV7, ↓q_callI7, ↓q_callS8, ↓q_callV8, ↓q_callI8, ↓q_iret, ↓q_lret, ↓q_vret, q_e_i_int, q_e_l_long, q_e_a_ref, q_e_a_null, q_cat_int, q_cat_ref, q_cat_null, q_cat_long, q_na_int, q_lgt_z, q_lgt_s, q_lst0, q_lst1, q_lstS, q_lst20, q_lst21, q_lst2S, q_clr_i, q_clr_r, q_clr_n, q_clr_0, q_clr_l, q_cv_i, q_cv_l, q_cv_r, q_rv_s, q_rv_n, q_toL_s, q_toL_n, true_and, and_true, Nat.reduceAdd, s33, s34, s35, s36, s37, s38, s39, s40, s41, s42, s43, s44, s45, s46, r33_3, r33_4, r33_6, r33_7, r33_8, r33_10, r33_11, r33_12, r33_13, r33_15, r33_16, r33_18, r33_19]
        refine call_ro (c_now hs) (by decide) rfl (Nat.le_refl _) (Nat.le_refl _) ?_
        simp only [↓q_nil, ↓q_iconst, ↓q_bipush, ↓q_sipush, ↓q_ldc, ↓q_lconst, ↓q_ldc2, ↓q_null, ↓q_iload, ↓q_iload_n, ↓q_lload, ↓q_lload_n, ↓q_aload, ↓q_aload_n, ↓q_istore, ↓q_istore_n, ↓q_lstore, ↓q_lstore_n, ↓q_astore, ↓q_astore_n, ↓q_iinc, ↓q_iadd, ↓q_isub, ↓q_imul, ↓q_iand, ↓q_idiv, ↓q_irem, ↓q_ineg, ↓q_ladd, ↓q_lsub, ↓q_lmul, ↓q_land, ↓q_ldiv, ↓q_lrem, ↓q_i2l, ↓q_l2i, ↓q_dup, ↓q_pop, ↓q_dup2, ↓q_dup_x1, ↓q_goto, ↓q_if_eq, ↓q_if_ne, ↓q_if_lt, ↓q_if_ge, ↓q_if_gt, ↓q_if_le, ↓q_icmp_eq, ↓q_icmp_ne, ↓q_icmp_lt, ↓q_icmp_ge, ↓q_icmp_gt, ↓q_icmp_le, ↓q_ifnullN, ↓q_ifnull, ↓q_ifnonnullN, ↓q_ifnonnull, ↓q_table, ↓q_lookup, ↓q_getf, ↓q_putI, ↓q_putJ, ↓q_putR, ↓q_iald, ↓q_sld, ↓q_slen, ↓q_alen, ↓q_iast, ↓q_bald, ↓q_bast, ↓q_aald, ↓q_aast, ↓q_newa, ↓q_newq, ↓q_new, ↓q_objInit, ↓q_max, ↓q_min, ↓q_copy, ↓q_callS0, ↓q_callV0, ↓q_callI0, ↓q_callS1, ↓q_callV1, ↓q_callI1, ↓q_callS2, ↓q_callV2, ↓q_callI2, ↓q_callS3, ↓q_callV3, ↓q_callI3, ↓q_callS4, ↓q_callV4, ↓q_callI4, ↓q_callS5, ↓q_callV5, ↓q_callI5, ↓q_callS6, ↓q_callV6, ↓q_callI6, ↓q_callS7, ↓q_callV7, ↓q_callI7, ↓q_callS8, ↓q_callV8, ↓q_callI8, ↓q_iret, ↓q_lret, ↓q_vret, q_e_i_int, q_e_l_long, q_e_a_ref, q_e_a_null, q_cat_int, q_cat_ref, q_cat_null, q_cat_long, q_na_int, q_lgt_z, q_lgt_s, q_lst0, q_lst1, q_lstS, q_lst20, q_lst21, q_lst2S, q_clr_i, q_clr_r, q_clr_n, q_clr_0, q_clr_l, q_cv_i, q_cv_l, q_cv_r, q_rv_s, q_rv_n, q_toL_s, q_toL_n, true_and, and_true, Nat.reduceAdd, s33, s34, s35, s36, s37, s38, s39, s40, s41, s42, s43, s44, s45, s46, r33_3, r33_4, r33_6, r33_7, r33_8, r33_10, r33_11, r33_12, r33_13, r33_15, r33_16, r33_18, r33_19]
        refine call_ro (c_putm hs (p := 6) ha (by decide)) (by decide) rfl (Nat.le_refl _) (Nat.le_refl _) ?_
        simp only [↓q_nil, ↓q_iconst, ↓q_bipush, ↓q_sipush, ↓q_ldc, ↓q_lconst, ↓q_ldc2, ↓q_null, ↓q_iload, ↓q_iload_n, ↓q_lload, ↓q_lload_n, ↓q_aload, ↓q_aload_n, ↓q_istore, ↓q_istore_n, ↓q_lstore, ↓q_lstore_n, ↓q_astore, ↓q_astore_n, ↓q_iinc, ↓q_iadd, ↓q_isub, ↓q_imul, ↓q_iand, ↓q_idiv, ↓q_irem, ↓q_ineg, ↓q_ladd, ↓q_lsub, ↓q_lmul, ↓q_land, ↓q_ldiv, ↓q_lrem, ↓q_i2l, ↓q_l2i, ↓q_dup, ↓q_pop, ↓q_dup2, ↓q_dup_x1, ↓q_goto, ↓q_if_eq, ↓q_if_ne, ↓q_if_lt, ↓q_if_ge, ↓q_if_gt, ↓q_if_le, ↓q_icmp_eq, ↓q_icmp_ne, ↓q_icmp_lt, ↓q_icmp_ge, ↓q_icmp_gt, ↓q_icmp_le, ↓q_ifnullN, ↓q_ifnull, ↓q_ifnonnullN, ↓q_ifnonnull, ↓q_table, ↓q_lookup, ↓q_getf, ↓q_putI, ↓q_putJ, ↓q_putR, ↓q_iald, ↓q_sld, ↓q_slen, ↓q_alen, ↓q_iast, ↓q_bald, ↓q_bast, ↓q_aald, ↓q_aast, ↓q_newa, ↓q_newq, ↓q_new, ↓q_objInit, ↓q_max, ↓q_min, ↓q_copy, ↓q_callS0, ↓q_callV0, ↓q_callI0, ↓q_callS1, ↓q_callV1, ↓q_callI1, ↓q_callS2, ↓q_callV2, ↓q_callI2, ↓q_callS3, ↓q_callV3, ↓q_callI3, ↓q_callS4, ↓q_callV4, ↓q_callI4, ↓q_callS5, ↓q_callV5, ↓q_callI5, ↓q_callS6, ↓q_callV6, ↓q_callI6, ↓q_callS7, ↓q_callV7, ↓q_callI7, ↓q_callS8, ↓q_callV8, ↓q_callI8, ↓q_iret, ↓q_lret, ↓q_vret, q_e_i_int, q_e_l_long, q_e_a_ref, q_e_a_null, q_cat_int, q_cat_ref, q_cat_null, q_cat_long, q_na_int, q_lgt_z, q_lgt_s, q_lst0, q_lst1, q_lstS, q_lst20, q_lst21, q_lst2S, q_clr_i, q_clr_r, q_clr_n, q_clr_0, q_clr_l, q_cv_i, q_cv_l, q_cv_r, q_rv_s, q_rv_n, q_toL_s, q_toL_n, true_and, and_true, Nat.reduceAdd, s33, s34, s35, s36, s37, s38, s39, s40, s41, s42, s43, s44, s45, s46, r33_3, r33_4, r33_6, r33_7, r33_8, r33_10, r33_11, r33_12, r33_13, r33_15, r33_16, r33_18, r33_19]
        refine ⟨vp_in_iff.mpr (by decide), ?_⟩
        refine call_ro (c_now hs) (by decide) rfl (Nat.le_refl _) (Nat.le_refl _) ?_
        simp only [↓q_nil, ↓q_iconst, ↓q_bipush, ↓q_sipush, ↓q_ldc, ↓q_lconst, ↓q_ldc2, ↓q_null, ↓q_iload, ↓q_iload_n, ↓q_lload, ↓q_lload_n, ↓q_aload, ↓q_aload_n, ↓q_istore, ↓q_istore_n, ↓q_lstore, ↓q_lstore_n, ↓q_astore, ↓q_astore_n, ↓q_iinc, ↓q_iadd, ↓q_isub, ↓q_imul, ↓q_iand, ↓q_idiv, ↓q_irem, ↓q_ineg, ↓q_ladd, ↓q_lsub, ↓q_lmul, ↓q_land, ↓q_ldiv, ↓q_lrem, ↓q_i2l, ↓q_l2i, ↓q_dup, ↓q_pop, ↓q_dup2, ↓q_dup_x1, ↓q_goto, ↓q_if_eq, ↓q_if_ne, ↓q_if_lt, ↓q_if_ge, ↓q_if_gt, ↓q_if_le, ↓q_icmp_eq, ↓q_icmp_ne, ↓q_icmp_lt, ↓q_icmp_ge, ↓q_icmp_gt, ↓q_icmp_le, ↓q_ifnullN, ↓q_ifnull, ↓q_ifnonnullN, ↓q_ifnonnull, ↓q_table, ↓q_lookup, ↓q_getf, ↓q_putI, ↓q_putJ, ↓q_putR, ↓q_iald, ↓q_sld, ↓q_slen, ↓q_alen, ↓q_iast, ↓q_bald, ↓q_bast, ↓q_aald, ↓q_aast, ↓q_newa, ↓q_newq, ↓q_new, ↓q_objInit, ↓q_max, ↓q_min, ↓q_copy, ↓q_callS0, ↓q_callV0, ↓q_callI0, ↓q_callS1, ↓q_callV1, ↓q_callI1, ↓q_callS2, ↓q_callV2, ↓q_callI2, ↓q_callS3, ↓q_callV3, ↓q_callI3, ↓q_callS4, ↓q_callV4, ↓q_callI4, ↓q_callS5, ↓q_callV5, ↓q_callI5, ↓q_callS6, ↓q_callV6, ↓q_callI6, ↓q_callS7, ↓q_callV7, ↓q_callI7, ↓q_callS8, ↓q_callV8, ↓q_callI8, ↓q_iret, ↓q_lret, ↓q_vret, q_e_i_int, q_e_l_long, q_e_a_ref, q_e_a_null, q_cat_int, q_cat_ref, q_cat_null, q_cat_long, q_na_int, q_lgt_z, q_lgt_s, q_lst0, q_lst1, q_lstS, q_lst20, q_lst21, q_lst2S, q_clr_i, q_clr_r, q_clr_n, q_clr_0, q_clr_l, q_cv_i, q_cv_l, q_cv_r, q_rv_s, q_rv_n, q_toL_s, q_toL_n, true_and, and_true, Nat.reduceAdd, s33, s34, s35, s36, s37, s38, s39, s40, s41, s42, s43, s44, s45, s46, r33_3, r33_4, r33_6, r33_7, r33_8, r33_10, r33_11, r33_12, r33_13, r33_15, r33_16, r33_18, r33_19]
        refine call_ro (c_of hs (p := 5) ha (by decide)) (by decide) rfl (Nat.le_refl _) (Nat.le_refl _) ?_
        simp only [↓q_nil, ↓q_iconst, ↓q_bipush, ↓q_sipush, ↓q_ldc, ↓q_lconst, ↓q_ldc2, ↓q_null, ↓q_iload, ↓q_iload_n, ↓q_lload, ↓q_lload_n, ↓q_aload, ↓q_aload_n, ↓q_istore, ↓q_istore_n, ↓q_lstore, ↓q_lstore_n, ↓q_astore, ↓q_astore_n, ↓q_iinc, ↓q_iadd, ↓q_isub, ↓q_imul, ↓q_iand, ↓q_idiv, ↓q_irem, ↓q_ineg, ↓q_ladd, ↓q_lsub, ↓q_lmul, ↓q_land, ↓q_ldiv, ↓q_lrem, ↓q_i2l, ↓q_l2i, ↓q_dup, ↓q_pop, ↓q_dup2, ↓q_dup_x1, ↓q_goto, ↓q_if_eq, ↓q_if_ne, ↓q_if_lt, ↓q_if_ge, ↓q_if_gt, ↓q_if_le, ↓q_icmp_eq, ↓q_icmp_ne, ↓q_icmp_lt, ↓q_icmp_ge, ↓q_icmp_gt, ↓q_icmp_le, ↓q_ifnullN, ↓q_ifnull, ↓q_ifnonnullN, ↓q_ifnonnull, ↓q_table, ↓q_lookup, ↓q_getf, ↓q_putI, ↓q_putJ, ↓q_putR, ↓q_iald, ↓q_sld, ↓q_slen, ↓q_alen, ↓q_iast, ↓q_bald, ↓q_bast, ↓q_aald, ↓q_aast, ↓q_newa, ↓q_newq, ↓q_new, ↓q_objInit, ↓q_max, ↓q_min, ↓q_copy, ↓q_callS0, ↓q_callV0, ↓q_callI0, ↓q_callS1, ↓q_callV1, ↓q_callI1, ↓q_callS2, ↓q_callV2, ↓q_callI2, ↓q_callS3, ↓q_callV3, ↓q_callI3, ↓q_callS4, ↓q_callV4, ↓q_callI4, ↓q_callS5, ↓q_callV5, ↓q_callI5, ↓q_callS6, ↓q_callV6, ↓q_callI6, ↓q_callS7, ↓q_callV7, ↓q_callI7, ↓q_callS8, ↓q_callV8, ↓q_callI8, ↓q_iret, ↓q_lret, ↓q_vret, q_e_i_int, q_e_l_long, q_e_a_ref, q_e_a_null, q_cat_int, q_cat_ref, q_cat_null, q_cat_long, q_na_int, q_lgt_z, q_lgt_s, q_lst0, q_lst1, q_lstS, q_lst20, q_lst21, q_lst2S, q_clr_i, q_clr_r, q_clr_n, q_clr_0, q_clr_l, q_cv_i, q_cv_l, q_cv_r, q_rv_s, q_rv_n, q_toL_s, q_toL_n, true_and, and_true, Nat.reduceAdd, s33, s34, s35, s36, s37, s38, s39, s40, s41, s42, s43, s44, s45, s46, r33_3, r33_4, r33_6, r33_7, r33_8, r33_10, r33_11, r33_12, r33_13, r33_15, r33_16, r33_18, r33_19]
        refine ⟨vp_in_iff.mpr (by decide), ?_⟩
        refine go_wp B_M_move_270_ok ?_; simp only [B_M_move_270, ↓q_nil, ↓q_iconst, ↓q_bipush, ↓q_sipush, ↓q_ldc, ↓q_lconst, ↓q_ldc2, ↓q_null, ↓q_iload, ↓q_iload_n, ↓q_lload, ↓q_lload_n, ↓q_aload, ↓q_aload_n, ↓q_istore, ↓q_istore_n, ↓q_lstore, ↓q_lstore_n, ↓q_astore, ↓q_astore_n, ↓q_iinc, ↓q_iadd, ↓q_isub, ↓q_imul, ↓q_iand, ↓q_idiv, ↓q_irem, ↓q_ineg, ↓q_ladd, ↓q_lsub, ↓q_lmul, ↓q_land, ↓q_ldiv, ↓q_lrem, ↓q_i2l, ↓q_l2i, ↓q_dup, ↓q_pop, ↓q_dup2, ↓q_dup_x1, ↓q_goto, ↓q_if_eq, ↓q_if_ne, ↓q_if_lt, ↓q_if_ge, ↓q_if_gt, ↓q_if_le, ↓q_icmp_eq, ↓q_icmp_ne, ↓q_icmp_lt, ↓q_icmp_ge, ↓q_icmp_gt, ↓q_icmp_le, ↓q_ifnullN, ↓q_ifnull, ↓q_ifnonnullN, ↓q_ifnonnull, ↓q_table, ↓q_lookup, ↓q_getf, ↓q_putI, ↓q_putJ, ↓q_putR, ↓q_iald, ↓q_sld, ↓q_slen, ↓q_alen, ↓q_iast, ↓q_bald, ↓q_bast, ↓q_aald, ↓q_aast, ↓q_newa, ↓q_newq, ↓q_new, ↓q_objInit, ↓q_max, ↓q_min, ↓q_copy, ↓q_callS0, ↓q_callV0, ↓q_callI0, ↓q_callS1, ↓q_callV1, ↓q_callI1, ↓q_callS2, ↓q_callV2, ↓q_callI2, ↓q_callS3, ↓q_callV3, ↓q_callI3, ↓q_callS4, ↓q_callV4, ↓q_callI4, ↓q_callS5, ↓q_callV5, ↓q_callI5, ↓q_callS6, ↓q_callV6, ↓q_callI6, ↓q_callS7, ↓q_callV7, ↓q_callI7, ↓q_callS8, ↓q_callV8, ↓q_callI8, ↓q_iret, ↓q_lret, ↓q_vret, q_e_i_int, q_e_l_long, q_e_a_ref, q_e_a_null, q_cat_int, q_cat_ref, q_cat_null, q_cat_long, q_na_int, q_lgt_z, q_lgt_s, q_lst0, q_lst1, q_lstS, q_lst20, q_lst21, q_lst2S, q_clr_i, q_clr_r, q_clr_n, q_clr_0, q_clr_l, q_cv_i, q_cv_l, q_cv_r, q_rv_s, q_rv_n, q_toL_s, q_toL_n, true_and, and_true, Nat.reduceAdd, s33, s34, s35, s36, s37, s38, s39, s40, s41, s42, s43, s44, s45, s46, r33_3, r33_4, r33_6, r33_7, r33_8, r33_10, r33_11, r33_12, r33_13, r33_15, r33_16, r33_18, r33_19]
        rw [← hQ]
        exact ⟨rfl, rfl, rfl, rfl⟩
      · rw [if_neg e1] at hQ
        refine go_wp B_M_move_270_ok ?_; simp only [B_M_move_270, ↓q_nil, ↓q_iconst, ↓q_bipush, ↓q_sipush, ↓q_ldc, ↓q_lconst, ↓q_ldc2, ↓q_null, ↓q_iload, ↓q_iload_n, ↓q_lload, ↓q_lload_n, ↓q_aload, ↓q_aload_n, ↓q_istore, ↓q_istore_n, ↓q_lstore, ↓q_lstore_n, ↓q_astore, ↓q_astore_n, ↓q_iinc, ↓q_iadd, ↓q_isub, ↓q_imul, ↓q_iand, ↓q_idiv, ↓q_irem, ↓q_ineg, ↓q_ladd, ↓q_lsub, ↓q_lmul, ↓q_land, ↓q_ldiv, ↓q_lrem, ↓q_i2l, ↓q_l2i, ↓q_dup, ↓q_pop, ↓q_dup2, ↓q_dup_x1, ↓q_goto, ↓q_if_eq, ↓q_if_ne, ↓q_if_lt, ↓q_if_ge, ↓q_if_gt, ↓q_if_le, ↓q_icmp_eq, ↓q_icmp_ne, ↓q_icmp_lt, ↓q_icmp_ge, ↓q_icmp_gt, ↓q_icmp_le, ↓q_ifnullN, ↓q_ifnull, ↓q_ifnonnullN, ↓q_ifnonnull, ↓q_table, ↓q_lookup, ↓q_getf, ↓q_putI, ↓q_putJ, ↓q_putR, ↓q_iald, ↓q_sld, ↓q_slen, ↓q_alen, ↓q_iast, ↓q_bald, ↓q_bast, ↓q_aald, ↓q_aast, ↓q_newa, ↓q_newq, ↓q_new, ↓q_objInit, ↓q_max, ↓q_min, ↓q_copy, ↓q_callS0, ↓q_callV0, ↓q_callI0, ↓q_callS1, ↓q_callV1, ↓q_callI1, ↓q_callS2, ↓q_callV2, ↓q_callI2, ↓q_callS3, ↓q_callV3, ↓q_callI3, ↓q_callS4, ↓q_callV4, ↓q_callI4, ↓q_callS5, ↓q_callV5, ↓q_callI5, ↓q_callS6, ↓q_callV6, ↓q_callI6, ↓q_callS7, ↓q_callV7, ↓q_callI7, ↓q_callS8, ↓q_callV8, ↓q_callI8, ↓q_iret, ↓q_lret, ↓q_vret, q_e_i_int, q_e_l_long, q_e_a_ref, q_e_a_null, q_cat_int, q_cat_ref, q_cat_null, q_cat_long, q_na_int, q_lgt_z, q_lgt_s, q_lst0, q_lst1, q_lstS, q_lst20, q_lst21, q_lst2S, q_clr_i, q_clr_r, q_clr_n, q_clr_0, q_clr_l, q_cv_i, q_cv_l, q_cv_r, q_rv_s, q_rv_n, q_toL_s, q_toL_n, true_and, and_true, Nat.reduceAdd, s33, s34, s35, s36, s37, s38, s39, s40, s41, s42, s43, s44, s45, s46, r33_3, r33_4, r33_6, r33_7, r33_8, r33_10, r33_11, r33_12, r33_13, r33_15, r33_16, r33_18, r33_19]
        rw [← hQ]
        exact ⟨rfl, rfl, rfl, rfl⟩
    · intro k hk ih
      have hk4 : k < 4 := by omega
      have hM := m_m2_ok (w := wv) (x := xv) hln hw2 k (by omega)
      have hnn := hM.1.2.2.2.2.1.1
      have hlan3 : pt (m_m2 I2 ln wv xv k 34) 1 a = nI ln := (m_m2_pt hln k (by omega)).trans hlan2
      rw [m_m2] at ih
      generalize m_m2 I2 ln wv xv k = I3 at ih hM hnn hlan3 ⊢
      have hix : 6 + 3 * k + ln < 3900 := by omega
      have hlan4 : I3 34 (20 + 20 * a + 1) = nI ln := hlan3
      refine go_wp B_M_move_152_ok ?_; simp only [B_M_move_152, ↓q_nil, ↓q_iconst, ↓q_bipush, ↓q_sipush, ↓q_ldc, ↓q_lconst, ↓q_ldc2, ↓q_null, ↓q_iload, ↓q_iload_n, ↓q_lload, ↓q_lload_n, ↓q_aload, ↓q_aload_n, ↓q_istore, ↓q_istore_n, ↓q_lstore, ↓q_lstore_n, ↓q_astore, ↓q_astore_n, ↓q_iinc, ↓q_iadd, ↓q_isub, ↓q_imul, ↓q_iand, ↓q_idiv, ↓q_irem, ↓q_ineg, ↓q_ladd, ↓q_lsub, ↓q_lmul, ↓q_land, ↓q_ldiv, ↓q_lrem, ↓q_i2l, ↓q_l2i, ↓q_dup, ↓q_pop, ↓q_dup2, ↓q_dup_x1, ↓q_goto, ↓q_if_eq, ↓q_if_ne, ↓q_if_lt, ↓q_if_ge, ↓q_if_gt, ↓q_if_le, ↓q_icmp_eq, ↓q_icmp_ne, ↓q_icmp_lt, ↓q_icmp_ge, ↓q_icmp_gt, ↓q_icmp_le, ↓q_ifnullN, ↓q_ifnull, ↓q_ifnonnullN, ↓q_ifnonnull, ↓q_table, ↓q_lookup, ↓q_getf, ↓q_putI, ↓q_putJ, ↓q_putR, ↓q_iald, ↓q_sld, ↓q_slen, ↓q_alen, ↓q_iast, ↓q_bald, ↓q_bast, ↓q_aald, ↓q_aast, ↓q_newa, ↓q_newq, ↓q_new, ↓q_objInit, ↓q_max, ↓q_min, ↓q_copy, ↓q_callS0, ↓q_callV0, ↓q_callI0, ↓q_callS1, ↓q_callV1, ↓q_callI1, ↓q_callS2, ↓q_callV2, ↓q_callI2, ↓q_callS3, ↓q_callV3, ↓q_callI3, ↓q_callS4, ↓q_callV4, ↓q_callI4, ↓q_callS5, ↓q_callV5, ↓q_callI5, ↓q_callS6, ↓q_callV6, ↓q_callI6, ↓q_callS7, ↓q_callV7, ↓q_callI7, ↓q_callS8, ↓q_callV8, ↓q_callI8, ↓q_iret, ↓q_lret, ↓q_vret, q_e_i_int, q_e_l_long, q_e_a_ref, q_e_a_null, q_cat_int, q_cat_ref, q_cat_null, q_cat_long, q_na_int, q_lgt_z, q_lgt_s, q_lst0, q_lst1, q_lstS, q_lst20, q_lst21, q_lst2S, q_clr_i, q_clr_r, q_clr_n, q_clr_0, q_clr_l, q_cv_i, q_cv_l, q_cv_r, q_rv_s, q_rv_n, q_toL_s, q_toL_n, true_and, and_true, Nat.reduceAdd, s33, s34, s35, s36, s37, s38, s39, s40, s41, s42, s43, s44, s45, s46, r33_3, r33_4, r33_6, r33_7, r33_8, r33_10, r33_11, r33_12, r33_13, r33_15, r33_16, r33_18, r33_19, hnn]
      refine ⟨fun _ => ?_, fun h => absurd (nI_lt hk (by omega)) h⟩
      refine call_ro (c_of hs (p := 1) ha (by decide)) (by decide) rfl (Nat.le_refl _) (Nat.le_refl _) ?_
      simp only [↓q_nil, ↓q_iconst, ↓q_bipush, ↓q_sipush, ↓q_ldc, ↓q_lconst, ↓q_ldc2, ↓q_null, ↓q_iload, ↓q_iload_n, ↓q_lload, ↓q_lload_n, ↓q_aload, ↓q_aload_n, ↓q_istore, ↓q_istore_n, ↓q_lstore, ↓q_lstore_n, ↓q_astore, ↓q_astore_n, ↓q_iinc, ↓q_iadd, ↓q_isub, ↓q_imul, ↓q_iand, ↓q_idiv, ↓q_irem, ↓q_ineg, ↓q_ladd, ↓q_lsub, ↓q_lmul, ↓q_land, ↓q_ldiv, ↓q_lrem, ↓q_i2l, ↓q_l2i, ↓q_dup, ↓q_pop, ↓q_dup2, ↓q_dup_x1, ↓q_goto, ↓q_if_eq, ↓q_if_ne, ↓q_if_lt, ↓q_if_ge, ↓q_if_gt, ↓q_if_le, ↓q_icmp_eq, ↓q_icmp_ne, ↓q_icmp_lt, ↓q_icmp_ge, ↓q_icmp_gt, ↓q_icmp_le, ↓q_ifnullN, ↓q_ifnull, ↓q_ifnonnullN, ↓q_ifnonnull, ↓q_table, ↓q_lookup, ↓q_getf, ↓q_putI, ↓q_putJ, ↓q_putR, ↓q_iald, ↓q_sld, ↓q_slen, ↓q_alen, ↓q_iast, ↓q_bald, ↓q_bast, ↓q_aald, ↓q_aast, ↓q_newa, ↓q_newq, ↓q_new, ↓q_objInit, ↓q_max, ↓q_min, ↓q_copy, ↓q_callS0, ↓q_callV0, ↓q_callI0, ↓q_callS1, ↓q_callV1, ↓q_callI1, ↓q_callS2, ↓q_callV2, ↓q_callI2, ↓q_callS3, ↓q_callV3, ↓q_callI3, ↓q_callS4, ↓q_callV4, ↓q_callI4, ↓q_callS5, ↓q_callV5, ↓q_callI5, ↓q_callS6, ↓q_callV6, ↓q_callI6, ↓q_callS7, ↓q_callV7, ↓q_callI7, ↓q_callS8, ↓q_callV8, ↓q_callI8, ↓q_iret, ↓q_lret, ↓q_vret, q_e_i_int, q_e_l_long, q_e_a_ref, q_e_a_null, q_cat_int, q_cat_ref, q_cat_null, q_cat_long, q_na_int, q_lgt_z, q_lgt_s, q_lst0, q_lst1, q_lstS, q_lst20, q_lst21, q_lst2S, q_clr_i, q_clr_r, q_clr_n, q_clr_0, q_clr_l, q_cv_i, q_cv_l, q_cv_r, q_rv_s, q_rv_n, q_toL_s, q_toL_n, true_and, and_true, Nat.reduceAdd, s33, s34, s35, s36, s37, s38, s39, s40, s41, s42, s43, s44, s45, s46, r33_3, r33_4, r33_6, r33_7, r33_8, r33_10, r33_11, r33_12, r33_13, r33_15, r33_16, r33_18, r33_19, hlan4, nI_ln, cl_nI (show k < 2147483648 by omega), cl_nI (show 6 + 3 * k + ln < 2147483648 by omega)]
      refine ⟨vp_nI hix (by decide), vp_nI hk4 (by decide), ?_⟩
      have h208 : ∀ d : Int32, d = bI (wv ≤ I3 45 k ∧ I3 45 k < xv) → Go (g, M_M_move, 1, n, z, 0, 0, Q) 208 [some (.ref (gB g + 33)), some (.int (nI a)), some (.int wv), some (.int xv), some (.int (nI k)), o5, o6] [.int d, .int (I3 34 (6 + 3 * k + ln)), .int (nI (6 + 3 * k + ln)), .ref (gB g + 34)] (n, z, S, I3, J, R) := by
        intro d hdd
        rw [← hdd] at ih
        refine go_wp B_M_move_208_ok ?_; simp only [B_M_move_208, ↓q_nil, ↓q_iconst, ↓q_bipush, ↓q_sipush, ↓q_ldc, ↓q_lconst, ↓q_ldc2, ↓q_null, ↓q_iload, ↓q_iload_n, ↓q_lload, ↓q_lload_n, ↓q_aload, ↓q_aload_n, ↓q_istore, ↓q_istore_n, ↓q_lstore, ↓q_lstore_n, ↓q_astore, ↓q_astore_n, ↓q_iinc, ↓q_iadd, ↓q_isub, ↓q_imul, ↓q_iand, ↓q_idiv, ↓q_irem, ↓q_ineg, ↓q_ladd, ↓q_lsub, ↓q_lmul, ↓q_land, ↓q_ldiv, ↓q_lrem, ↓q_i2l, ↓q_l2i, ↓q_dup, ↓q_pop, ↓q_dup2, ↓q_dup_x1, ↓q_goto, ↓q_if_eq, ↓q_if_ne, ↓q_if_lt, ↓q_if_ge, ↓q_if_gt, ↓q_if_le, ↓q_icmp_eq, ↓q_icmp_ne, ↓q_icmp_lt, ↓q_icmp_ge, ↓q_icmp_gt, ↓q_icmp_le, ↓q_ifnullN, ↓q_ifnull, ↓q_ifnonnullN, ↓q_ifnonnull, ↓q_table, ↓q_lookup, ↓q_getf, ↓q_putI, ↓q_putJ, ↓q_putR, ↓q_iald, ↓q_sld, ↓q_slen, ↓q_alen, ↓q_iast, ↓q_bald, ↓q_bast, ↓q_aald, ↓q_aast, ↓q_newa, ↓q_newq, ↓q_new, ↓q_objInit, ↓q_max, ↓q_min, ↓q_copy, ↓q_callS0, ↓q_callV0, ↓q_callI0, ↓q_callS1, ↓q_callV1, ↓q_callI1, ↓q_callS2, ↓q_callV2, ↓q_callI2, ↓q_callS3, ↓q_callV3, ↓q_callI3, ↓q_callS4, ↓q_callV4, ↓q_callI4, ↓q_callS5, ↓q_callV5, ↓q_callI5, ↓q_callS6, ↓q_callV6, ↓q_callI6, ↓q_callS7, ↓q_callV7, ↓q_callI7, ↓q_callS8, ↓q_callV8, ↓q_callI8, ↓q_iret, ↓q_lret, ↓q_vret, q_e_i_int, q_e_l_long, q_e_a_ref, q_e_a_null, q_cat_int, q_cat_ref, q_cat_null, q_cat_long, q_na_int, q_lgt_z, q_lgt_s, q_lst0, q_lst1, q_lstS, q_lst20, q_lst21, q_lst2S, q_clr_i, q_clr_r, q_clr_n, q_clr_0, q_clr_l, q_cv_i, q_cv_l, q_cv_r, q_rv_s, q_rv_n, q_toL_s, q_toL_n, true_and, and_true, Nat.reduceAdd, s33, s34, s35, s36, s37, s38, s39, s40, s41, s42, s43, s44, s45, s46, r33_3, r33_4, r33_6, r33_7, r33_8, r33_10, r33_11, r33_12, r33_13, r33_15, r33_16, r33_18, r33_19, nI_inc, cl_nI (show 6 + 3 * k + ln < 2147483648 by omega)]
        exact ⟨vp_nI hix (by decide), ih⟩
      have h207 : ¬ (wv ≤ I3 45 k ∧ I3 45 k < xv) → Go (g, M_M_move, 1, n, z, 0, 0, Q) 207 [some (.ref (gB g + 33)), some (.int (nI a)), some (.int wv), some (.int xv), some (.int (nI k)), o5, o6] [.int (I3 34 (6 + 3 * k + ln)), .int (nI (6 + 3 * k + ln)), .ref (gB g + 34)] (n, z, S, I3, J, R) := by
        intro h
        refine go_wp B_M_move_207_ok ?_; simp only [B_M_move_207, ↓q_nil, ↓q_iconst, ↓q_bipush, ↓q_sipush, ↓q_ldc, ↓q_lconst, ↓q_ldc2, ↓q_null, ↓q_iload, ↓q_iload_n, ↓q_lload, ↓q_lload_n, ↓q_aload, ↓q_aload_n, ↓q_istore, ↓q_istore_n, ↓q_lstore, ↓q_lstore_n, ↓q_astore, ↓q_astore_n, ↓q_iinc, ↓q_iadd, ↓q_isub, ↓q_imul, ↓q_iand, ↓q_idiv, ↓q_irem, ↓q_ineg, ↓q_ladd, ↓q_lsub, ↓q_lmul, ↓q_land, ↓q_ldiv, ↓q_lrem, ↓q_i2l, ↓q_l2i, ↓q_dup, ↓q_pop, ↓q_dup2, ↓q_dup_x1, ↓q_goto, ↓q_if_eq, ↓q_if_ne, ↓q_if_lt, ↓q_if_ge, ↓q_if_gt, ↓q_if_le, ↓q_icmp_eq, ↓q_icmp_ne, ↓q_icmp_lt, ↓q_icmp_ge, ↓q_icmp_gt, ↓q_icmp_le, ↓q_ifnullN, ↓q_ifnull, ↓q_ifnonnullN, ↓q_ifnonnull, ↓q_table, ↓q_lookup, ↓q_getf, ↓q_putI, ↓q_putJ, ↓q_putR, ↓q_iald, ↓q_sld, ↓q_slen, ↓q_alen, ↓q_iast, ↓q_bald, ↓q_bast, ↓q_aald, ↓q_aast, ↓q_newa, ↓q_newq, ↓q_new, ↓q_objInit, ↓q_max, ↓q_min, ↓q_copy, ↓q_callS0, ↓q_callV0, ↓q_callI0, ↓q_callS1, ↓q_callV1, ↓q_callI1, ↓q_callS2, ↓q_callV2, ↓q_callI2, ↓q_callS3, ↓q_callV3, ↓q_callI3, ↓q_callS4, ↓q_callV4, ↓q_callI4, ↓q_callS5, ↓q_callV5, ↓q_callI5, ↓q_callS6, ↓q_callV6, ↓q_callI6, ↓q_callS7, ↓q_callV7, ↓q_callI7, ↓q_callS8, ↓q_callV8, ↓q_callI8, ↓q_iret, ↓q_lret, ↓q_vret, q_e_i_int, q_e_l_long, q_e_a_ref, q_e_a_null, q_cat_int, q_cat_ref, q_cat_null, q_cat_long, q_na_int, q_lgt_z, q_lgt_s, q_lst0, q_lst1, q_lstS, q_lst20, q_lst21, q_lst2S, q_clr_i, q_clr_r, q_clr_n, q_clr_0, q_clr_l, q_cv_i, q_cv_l, q_cv_r, q_rv_s, q_rv_n, q_toL_s, q_toL_n, true_and, and_true, Nat.reduceAdd, s33, s34, s35, s36, s37, s38, s39, s40, s41, s42, s43, s44, s45, s46, r33_3, r33_4, r33_6, r33_7, r33_8, r33_10, r33_11, r33_12, r33_13, r33_15, r33_16, r33_18, r33_19]
        exact h208 0 (by rw [bI_f h])
      refine ⟨fun e1 => h207 (fun q => Int32.not_lt.mpr q.1 e1), fun e1 => ⟨vp_nI hk4 (by decide), fun e2 => ?_, fun e2 => h207 (fun q => e2 q.2)⟩⟩
      exact h208 1 (by rw [bI_t ⟨Int32.not_lt.mp e1, e2⟩])
  have h26 : ∀ o5 o6 : Option Value, Go (g, M_M_move, 1, n, z, 0, 0, Q) 26 [some (.ref (gB g + 33)), some (.int (nI a)), some (.int wv), some (.int xv), some (.int (nI 0)), o5, o6] [] (n, z, S, m_m1 I1 a xv 0, J, R) := by
    refine go_loop (P := fun k => ∀ o5 o6 : Option Value, Go (g, M_M_move, 1, n, z, 0, 0, Q) 26 [some (.ref (gB g + 33)), some (.int (nI a)), some (.int wv), some (.int xv), some (.int (nI k)), o5, o6] [] (n, z, S, m_m1 I1 a xv k, J, R)) ns ?_ ?_
    · intro o5 o6
      have hns := (m_m1_ok (a := a) (x := xv) hw1 ns hns4).1.2.2.2.1.1
      refine go_wp B_M_move_26_ok ?_; simp only [B_M_move_26, ↓q_nil, ↓q_iconst, ↓q_bipush, ↓q_sipush, ↓q_ldc, ↓q_lconst, ↓q_ldc2, ↓q_null, ↓q_iload, ↓q_iload_n, ↓q_lload, ↓q_lload_n, ↓q_aload, ↓q_aload_n, ↓q_istore, ↓q_istore_n, ↓q_lstore, ↓q_lstore_n, ↓q_astore, ↓q_astore_n, ↓q_iinc, ↓q_iadd, ↓q_isub, ↓q_imul, ↓q_iand, ↓q_idiv, ↓q_irem, ↓q_ineg, ↓q_ladd, ↓q_lsub, ↓q_lmul, ↓q_land, ↓q_ldiv, ↓q_lrem, ↓q_i2l, ↓q_l2i, ↓q_dup, ↓q_pop, ↓q_dup2, ↓q_dup_x1, ↓q_goto, ↓q_if_eq, ↓q_if_ne, ↓q_if_lt, ↓q_if_ge, ↓q_if_gt, ↓q_if_le, ↓q_icmp_eq, ↓q_icmp_ne, ↓q_icmp_lt, ↓q_icmp_ge, ↓q_icmp_gt, ↓q_icmp_le, ↓q_ifnullN, ↓q_ifnull, ↓q_ifnonnullN, ↓q_ifnonnull, ↓q_table, ↓q_lookup, ↓q_getf, ↓q_putI, ↓q_putJ, ↓q_putR, ↓q_iald, ↓q_sld, ↓q_slen, ↓q_alen, ↓q_iast, ↓q_bald, ↓q_bast, ↓q_aald, ↓q_aast, ↓q_newa, ↓q_newq, ↓q_new, ↓q_objInit, ↓q_max, ↓q_min, ↓q_copy, ↓q_callS0, ↓q_callV0, ↓q_callI0, ↓q_callS1, ↓q_callV1, ↓q_callI1, ↓q_callS2, ↓q_callV2, ↓q_callI2, ↓q_callS3, ↓q_callV3, ↓q_callI3, ↓q_callS4, ↓q_callV4, ↓q_callI4, ↓q_callS5, ↓q_callV5, ↓q_callI5, ↓q_callS6, ↓q_callV6, ↓q_callI6, ↓q_callS7, ↓q_callV7, ↓q_callI7, ↓q_callS8, ↓q_callV8, ↓q_callI8, ↓q_iret, ↓q_lret, ↓q_vret, q_e_i_int, q_e_l_long, q_e_a_ref, q_e_a_null, q_cat_int, q_cat_ref, q_cat_null, q_cat_long, q_na_int, q_lgt_z, q_lgt_s, q_lst0, q_lst1, q_lstS, q_lst20, q_lst21, q_lst2S, q_clr_i, q_clr_r, q_clr_n, q_clr_0, q_clr_l, q_cv_i, q_cv_l, q_cv_r, q_rv_s, q_rv_n, q_toL_s, q_toL_n, true_and, and_true, Nat.reduceAdd, s33, s34, s35, s36, s37, s38, s39, s40, s41, s42, s43, s44, s45, s46, r33_3, r33_4, r33_6, r33_7, r33_8, r33_10, r33_11, r33_12, r33_13, r33_15, r33_16, r33_18, r33_19, hns]
      refine ⟨fun h => absurd h (nI_nlt (Nat.le_refl _) (by omega)), fun _ => ?_⟩
      refine go_wp B_M_move_149_ok ?_; simp only [B_M_move_149, ↓q_nil, ↓q_iconst, ↓q_bipush, ↓q_sipush, ↓q_ldc, ↓q_lconst, ↓q_ldc2, ↓q_null, ↓q_iload, ↓q_iload_n, ↓q_lload, ↓q_lload_n, ↓q_aload, ↓q_aload_n, ↓q_istore, ↓q_istore_n, ↓q_lstore, ↓q_lstore_n, ↓q_astore, ↓q_astore_n, ↓q_iinc, ↓q_iadd, ↓q_isub, ↓q_imul, ↓q_iand, ↓q_idiv, ↓q_irem, ↓q_ineg, ↓q_ladd, ↓q_lsub, ↓q_lmul, ↓q_land, ↓q_ldiv, ↓q_lrem, ↓q_i2l, ↓q_l2i, ↓q_dup, ↓q_pop, ↓q_dup2, ↓q_dup_x1, ↓q_goto, ↓q_if_eq, ↓q_if_ne, ↓q_if_lt, ↓q_if_ge, ↓q_if_gt, ↓q_if_le, ↓q_icmp_eq, ↓q_icmp_ne, ↓q_icmp_lt, ↓q_icmp_ge, ↓q_icmp_gt, ↓q_icmp_le, ↓q_ifnullN, ↓q_ifnull, ↓q_ifnonnullN, ↓q_ifnonnull, ↓q_table, ↓q_lookup, ↓q_getf, ↓q_putI, ↓q_putJ, ↓q_putR, ↓q_iald, ↓q_sld, ↓q_slen, ↓q_alen, ↓q_iast, ↓q_bald, ↓q_bast, ↓q_aald, ↓q_aast, ↓q_newa, ↓q_newq, ↓q_new, ↓q_objInit, ↓q_max, ↓q_min, ↓q_copy, ↓q_callS0, ↓q_callV0, ↓q_callI0, ↓q_callS1, ↓q_callV1, ↓q_callI1, ↓q_callS2, ↓q_callV2, ↓q_callI2, ↓q_callS3, ↓q_callV3, ↓q_callI3, ↓q_callS4, ↓q_callV4, ↓q_callI4, ↓q_callS5, ↓q_callV5, ↓q_callI5, ↓q_callS6, ↓q_callV6, ↓q_callI6, ↓q_callS7, ↓q_callV7, ↓q_callI7, ↓q_callS8, ↓q_callV8, ↓q_callI8, ↓q_iret, ↓q_lret, ↓q_vret, q_e_i_int, q_e_l_long, q_e_a_ref, q_e_a_null, q_cat_int, q_cat_ref, q_cat_null, q_cat_long, q_na_int, q_lgt_z, q_lgt_s, q_lst0, q_lst1, q_lstS, q_lst20, q_lst21, q_lst2S, q_clr_i, q_clr_r, q_clr_n, q_clr_0, q_clr_l, q_cv_i, q_cv_l, q_cv_r, q_rv_s, q_rv_n, q_toL_s, q_toL_n, true_and, and_true, Nat.reduceAdd, s33, s34, s35, s36, s37, s38, s39, s40, s41, s42, s43, s44, s45, s46, r33_3, r33_4, r33_6, r33_7, r33_8, r33_10, r33_11, r33_12, r33_13, r33_15, r33_16, r33_18, r33_19]
      exact h152 _ _
    · intro k hk ih o5 o6
      have hk4 : k < 4 := by omega
      have hM := m_m1_ok (a := a) (x := xv) hw1 k (by omega)
      have hns := hM.1.2.2.2.1.1
      rw [m_m1] at ih
      generalize m_m1 I1 a xv k = I2 at ih hM hns ⊢
      have h110 : ∀ (b5 d : Int32), (d = 0 ∧ bI (m_more I2 a xv k) = 0 ∨ d = 1 ∧ bI (m_more I2 a xv k) = 1) → Go (g, M_M_move, 1, n, z, 0, 0, Q) 110 [some (.ref (gB g + 33)), some (.int (nI a)), some (.int wv), some (.int xv), some (.int (nI k)), some (.int b5), o6] [.int d] (n, z, S, I2, J, R) := by
        intro b5 d hdd
        have h139 : ∀ e : Int32, e = bI (m_more I2 a xv k) → Go (g, M_M_move, 1, n, z, 0, 0, Q) 139 [some (.ref (gB g + 33)), some (.int (nI a)), some (.int wv), some (.int xv), some (.int (nI k)), some (.int b5), some (.int d)] [.int e, .int (pt (I2 34) (11 + k) a), .int (nI (11 + k)), .int (nI a), .ref (gB g + 33)] (n, z, S, I2, J, R) := by
          intro e he
          rw [← he] at ih
          refine go_wp B_M_move_139_ok ?_; simp only [B_M_move_139, ↓q_nil, ↓q_iconst, ↓q_bipush, ↓q_sipush, ↓q_ldc, ↓q_lconst, ↓q_ldc2, ↓q_null, ↓q_iload, ↓q_iload_n, ↓q_lload, ↓q_lload_n, ↓q_aload, ↓q_aload_n, ↓q_istore, ↓q_istore_n, ↓q_lstore, ↓q_lstore_n, ↓q_astore, ↓q_astore_n, ↓q_iinc, ↓q_iadd, ↓q_isub, ↓q_imul, ↓q_iand, ↓q_idiv, ↓q_irem, ↓q_ineg, ↓q_ladd, ↓q_lsub, ↓q_lmul, ↓q_land, ↓q_ldiv, ↓q_lrem, ↓q_i2l, ↓q_l2i, ↓q_dup, ↓q_pop, ↓q_dup2, ↓q_dup_x1, ↓q_goto, ↓q_if_eq, ↓q_if_ne, ↓q_if_lt, ↓q_if_ge, ↓q_if_gt, ↓q_if_le, ↓q_icmp_eq, ↓q_icmp_ne, ↓q_icmp_lt, ↓q_icmp_ge, ↓q_icmp_gt, ↓q_icmp_le, ↓q_ifnullN, ↓q_ifnull, ↓q_ifnonnullN, ↓q_ifnonnull, ↓q_table, ↓q_lookup, ↓q_getf, ↓q_putI, ↓q_putJ, ↓q_putR, ↓q_iald, ↓q_sld, ↓q_slen, ↓q_alen, ↓q_iast, ↓q_bald, ↓q_bast, ↓q_aald, ↓q_aast, ↓q_newa, ↓q_newq, ↓q_new, ↓q_objInit, ↓q_max, ↓q_min, ↓q_copy, ↓q_callS0, ↓q_callV0, ↓q_callI0, ↓q_callS1, ↓q_callV1, ↓q_callI1, ↓q_callS2, ↓q_callV2, ↓q_callI2, ↓q_callS3, ↓q_callV3, ↓q_callI3, ↓q_callS4, ↓q_callV4, ↓q_callI4, ↓q_callS5, ↓q_callV5, ↓q_callI5, ↓q_callS6, ↓q_callV6, ↓q_callI6, ↓q_callS7, ↓q_callV7, ↓q_callI7, ↓q_callS8, ↓q_callV8, ↓q_callI8, ↓q_iret, ↓q_lret, ↓q_vret, q_e_i_int, q_e_l_long, q_e_a_ref, q_e_a_null, q_cat_int, q_cat_ref, q_cat_null, q_cat_long, q_na_int, q_lgt_z, q_lgt_s, q_lst0, q_lst1, q_lstS, q_lst20, q_lst21, q_lst2S, q_clr_i, q_clr_r, q_clr_n, q_clr_0, q_clr_l, q_cv_i, q_cv_l, q_cv_r, q_rv_s, q_rv_n, q_toL_s, q_toL_n, true_and, and_true, Nat.reduceAdd, s33, s34, s35, s36, s37, s38, s39, s40, s41, s42, s43, s44, s45, s46, r33_3, r33_4, r33_6, r33_7, r33_8, r33_10, r33_11, r33_12, r33_13, r33_15, r33_16, r33_18, r33_19]
          refine call_ro (c_putm hs (p := 11 + k) ha (by omega)) (by decide) rfl (Nat.le_refl _) (Nat.le_refl _) ?_
          simp only [↓q_nil, ↓q_iconst, ↓q_bipush, ↓q_sipush, ↓q_ldc, ↓q_lconst, ↓q_ldc2, ↓q_null, ↓q_iload, ↓q_iload_n, ↓q_lload, ↓q_lload_n, ↓q_aload, ↓q_aload_n, ↓q_istore, ↓q_istore_n, ↓q_lstore, ↓q_lstore_n, ↓q_astore, ↓q_astore_n, ↓q_iinc, ↓q_iadd, ↓q_isub, ↓q_imul, ↓q_iand, ↓q_idiv, ↓q_irem, ↓q_ineg, ↓q_ladd, ↓q_lsub, ↓q_lmul, ↓q_land, ↓q_ldiv, ↓q_lrem, ↓q_i2l, ↓q_l2i, ↓q_dup, ↓q_pop, ↓q_dup2, ↓q_dup_x1, ↓q_goto, ↓q_if_eq, ↓q_if_ne, ↓q_if_lt, ↓q_if_ge, ↓q_if_gt, ↓q_if_le, ↓q_icmp_eq, ↓q_icmp_ne, ↓q_icmp_lt, ↓q_icmp_ge, ↓q_icmp_gt, ↓q_icmp_le, ↓q_ifnullN, ↓q_ifnull, ↓q_ifnonnullN, ↓q_ifnonnull, ↓q_table, ↓q_lookup, ↓q_getf, ↓q_putI, ↓q_putJ, ↓q_putR, ↓q_iald, ↓q_sld, ↓q_slen, ↓q_alen, ↓q_iast, ↓q_bald, ↓q_bast, ↓q_aald, ↓q_aast, ↓q_newa, ↓q_newq, ↓q_new, ↓q_objInit, ↓q_max, ↓q_min, ↓q_copy, ↓q_callS0, ↓q_callV0, ↓q_callI0, ↓q_callS1, ↓q_callV1, ↓q_callI1, ↓q_callS2, ↓q_callV2, ↓q_callI2, ↓q_callS3, ↓q_callV3, ↓q_callI3, ↓q_callS4, ↓q_callV4, ↓q_callI4, ↓q_callS5, ↓q_callV5, ↓q_callI5, ↓q_callS6, ↓q_callV6, ↓q_callI6, ↓q_callS7, ↓q_callV7, ↓q_callI7, ↓q_callS8, ↓q_callV8, ↓q_callI8, ↓q_iret, ↓q_lret, ↓q_vret, q_e_i_int, q_e_l_long, q_e_a_ref, q_e_a_null, q_cat_int, q_cat_ref, q_cat_null, q_cat_long, q_na_int, q_lgt_z, q_lgt_s, q_lst0, q_lst1, q_lstS, q_lst20, q_lst21, q_lst2S, q_clr_i, q_clr_r, q_clr_n, q_clr_0, q_clr_l, q_cv_i, q_cv_l, q_cv_r, q_rv_s, q_rv_n, q_toL_s, q_toL_n, true_and, and_true, Nat.reduceAdd, s33, s34, s35, s36, s37, s38, s39, s40, s41, s42, s43, s44, s45, s46, r33_3, r33_4, r33_6, r33_7, r33_8, r33_10, r33_11, r33_12, r33_13, r33_15, r33_16, r33_18, r33_19, nI_inc]
          exact ih _ _
        refine go_wp B_M_move_110_ok ?_; simp only [B_M_move_110, ↓q_nil, ↓q_iconst, ↓q_bipush, ↓q_sipush, ↓q_ldc, ↓q_lconst, ↓q_ldc2, ↓q_null, ↓q_iload, ↓q_iload_n, ↓q_lload, ↓q_lload_n, ↓q_aload, ↓q_aload_n, ↓q_istore, ↓q_istore_n, ↓q_lstore, ↓q_lstore_n, ↓q_astore, ↓q_astore_n, ↓q_iinc, ↓q_iadd, ↓q_isub, ↓q_imul, ↓q_iand, ↓q_idiv, ↓q_irem, ↓q_ineg, ↓q_ladd, ↓q_lsub, ↓q_lmul, ↓q_land, ↓q_ldiv, ↓q_lrem, ↓q_i2l, ↓q_l2i, ↓q_dup, ↓q_pop, ↓q_dup2, ↓q_dup_x1, ↓q_goto, ↓q_if_eq, ↓q_if_ne, ↓q_if_lt, ↓q_if_ge, ↓q_if_gt, ↓q_if_le, ↓q_icmp_eq, ↓q_icmp_ne, ↓q_icmp_lt, ↓q_icmp_ge, ↓q_icmp_gt, ↓q_icmp_le, ↓q_ifnullN, ↓q_ifnull, ↓q_ifnonnullN, ↓q_ifnonnull, ↓q_table, ↓q_lookup, ↓q_getf, ↓q_putI, ↓q_putJ, ↓q_putR, ↓q_iald, ↓q_sld, ↓q_slen, ↓q_alen, ↓q_iast, ↓q_bald, ↓q_bast, ↓q_aald, ↓q_aast, ↓q_newa, ↓q_newq, ↓q_new, ↓q_objInit, ↓q_max, ↓q_min, ↓q_copy, ↓q_callS0, ↓q_callV0, ↓q_callI0, ↓q_callS1, ↓q_callV1, ↓q_callI1, ↓q_callS2, ↓q_callV2, ↓q_callI2, ↓q_callS3, ↓q_callV3, ↓q_callI3, ↓q_callS4, ↓q_callV4, ↓q_callI4, ↓q_callS5, ↓q_callV5, ↓q_callI5, ↓q_callS6, ↓q_callV6, ↓q_callI6, ↓q_callS7, ↓q_callV7, ↓q_callI7, ↓q_callS8, ↓q_callV8, ↓q_callI8, ↓q_iret, ↓q_lret, ↓q_vret, q_e_i_int, q_e_l_long, q_e_a_ref, q_e_a_null, q_cat_int, q_cat_ref, q_cat_null, q_cat_long, q_na_int, q_lgt_z, q_lgt_s, q_lst0, q_lst1, q_lstS, q_lst20, q_lst21, q_lst2S, q_clr_i, q_clr_r, q_clr_n, q_clr_0, q_clr_l, q_cv_i, q_cv_l, q_cv_r, q_rv_s, q_rv_n, q_toL_s, q_toL_n, true_and, and_true, Nat.reduceAdd, s33, s34, s35, s36, s37, s38, s39, s40, s41, s42, s43, s44, s45, s46, r33_3, r33_4, r33_6, r33_7, r33_8, r33_10, r33_11, r33_12, r33_13, r33_15, r33_16, r33_18, r33_19, nI_11]
        refine call_ro (c_of hs (p := 11 + k) ha (by omega)) (by decide) rfl (Nat.le_refl _) (Nat.le_refl _) ?_
        simp only [↓q_nil, ↓q_iconst, ↓q_bipush, ↓q_sipush, ↓q_ldc, ↓q_lconst, ↓q_ldc2, ↓q_null, ↓q_iload, ↓q_iload_n, ↓q_lload, ↓q_lload_n, ↓q_aload, ↓q_aload_n, ↓q_istore, ↓q_istore_n, ↓q_lstore, ↓q_lstore_n, ↓q_astore, ↓q_astore_n, ↓q_iinc, ↓q_iadd, ↓q_isub, ↓q_imul, ↓q_iand, ↓q_idiv, ↓q_irem, ↓q_ineg, ↓q_ladd, ↓q_lsub, ↓q_lmul, ↓q_land, ↓q_ldiv, ↓q_lrem, ↓q_i2l, ↓q_l2i, ↓q_dup, ↓q_pop, ↓q_dup2, ↓q_dup_x1, ↓q_goto, ↓q_if_eq, ↓q_if_ne, ↓q_if_lt, ↓q_if_ge, ↓q_if_gt, ↓q_if_le, ↓q_icmp_eq, ↓q_icmp_ne, ↓q_icmp_lt, ↓q_icmp_ge, ↓q_icmp_gt, ↓q_icmp_le, ↓q_ifnullN, ↓q_ifnull, ↓q_ifnonnullN, ↓q_ifnonnull, ↓q_table, ↓q_lookup, ↓q_getf, ↓q_putI, ↓q_putJ, ↓q_putR, ↓q_iald, ↓q_sld, ↓q_slen, ↓q_alen, ↓q_iast, ↓q_bald, ↓q_bast, ↓q_aald, ↓q_aast, ↓q_newa, ↓q_newq, ↓q_new, ↓q_objInit, ↓q_max, ↓q_min, ↓q_copy, ↓q_callS0, ↓q_callV0, ↓q_callI0, ↓q_callS1, ↓q_callV1, ↓q_callI1, ↓q_callS2, ↓q_callV2, ↓q_callI2, ↓q_callS3, ↓q_callV3, ↓q_callI3, ↓q_callS4, ↓q_callV4, ↓q_callI4, ↓q_callS5, ↓q_callV5, ↓q_callI5, ↓q_callS6, ↓q_callV6, ↓q_callI6, ↓q_callS7, ↓q_callV7, ↓q_callI7, ↓q_callS8, ↓q_callV8, ↓q_callI8, ↓q_iret, ↓q_lret, ↓q_vret, q_e_i_int, q_e_l_long, q_e_a_ref, q_e_a_null, q_cat_int, q_cat_ref, q_cat_null, q_cat_long, q_na_int, q_lgt_z, q_lgt_s, q_lst0, q_lst1, q_lstS, q_lst20, q_lst21, q_lst2S, q_clr_i, q_clr_r, q_clr_n, q_clr_0, q_clr_l, q_cv_i, q_cv_l, q_cv_r, q_rv_s, q_rv_n, q_toL_s, q_toL_n, true_and, and_true, Nat.reduceAdd, s33, s34, s35, s36, s37, s38, s39, s40, s41, s42, s43, s44, s45, s46, r33_3, r33_4, r33_6, r33_7, r33_8, r33_10, r33_11, r33_12, r33_13, r33_15, r33_16, r33_18, r33_19]
        rcases hdd with ⟨rfl, hb⟩ | ⟨rfl, hb⟩
        · refine ⟨fun _ => ?_, fun h => by first | exact absurd rfl h | exact absurd trivial h⟩
          refine go_wp B_M_move_138_ok ?_; simp only [B_M_move_138, ↓q_nil, ↓q_iconst, ↓q_bipush, ↓q_sipush, ↓q_ldc, ↓q_lconst, ↓q_ldc2, ↓q_null, ↓q_iload, ↓q_iload_n, ↓q_lload, ↓q_lload_n, ↓q_aload, ↓q_aload_n, ↓q_istore, ↓q_istore_n, ↓q_lstore, ↓q_lstore_n, ↓q_astore, ↓q_astore_n, ↓q_iinc, ↓q_iadd, ↓q_isub, ↓q_imul, ↓q_iand, ↓q_idiv, ↓q_irem, ↓q_ineg, ↓q_ladd, ↓q_lsub, ↓q_lmul, ↓q_land, ↓q_ldiv, ↓q_lrem, ↓q_i2l, ↓q_l2i, ↓q_dup, ↓q_pop, ↓q_dup2, ↓q_dup_x1, ↓q_goto, ↓q_if_eq, ↓q_if_ne, ↓q_if_lt, ↓q_if_ge, ↓q_if_gt, ↓q_if_le, ↓q_icmp_eq, ↓q_icmp_ne, ↓q_icmp_lt, ↓q_icmp_ge, ↓q_icmp_gt, ↓q_icmp_le, ↓q_ifnullN, ↓q_ifnull, ↓q_ifnonnullN, ↓q_ifnonnull, ↓q_table, ↓q_lookup, ↓q_getf, ↓q_putI, ↓q_putJ, ↓q_putR, ↓q_iald, ↓q_sld, ↓q_slen, ↓q_alen, ↓q_iast, ↓q_bald, ↓q_bast, ↓q_aald, ↓q_aast, ↓q_newa, ↓q_newq, ↓q_new, ↓q_objInit, ↓q_max, ↓q_min, ↓q_copy, ↓q_callS0, ↓q_callV0, ↓q_callI0, ↓q_callS1, ↓q_callV1, ↓q_callI1, ↓q_callS2, ↓q_callV2, ↓q_callI2, ↓q_callS3, ↓q_callV3, ↓q_callI3, ↓q_callS4, ↓q_callV4, ↓q_callI4, ↓q_callS5, ↓q_callV5, ↓q_callI5, ↓q_callS6, ↓q_callV6, ↓q_callI6, ↓q_callS7, ↓q_callV7, ↓q_callI7, ↓q_callS8, ↓q_callV8, ↓q_callI8, ↓q_iret, ↓q_lret, ↓q_vret, q_e_i_int, q_e_l_long, q_e_a_ref, q_e_a_null, q_cat_int, q_cat_ref, q_cat_null, q_cat_long, q_na_int, q_lgt_z, q_lgt_s, q_lst0, q_lst1, q_lstS, q_lst20, q_lst21, q_lst2S, q_clr_i, q_clr_r, q_clr_n, q_clr_0, q_clr_l, q_cv_i, q_cv_l, q_cv_r, q_rv_s, q_rv_n, q_toL_s, q_toL_n, true_and, and_true, Nat.reduceAdd, s33, s34, s35, s36, s37, s38, s39, s40, s41, s42, s43, s44, s45, s46, r33_3, r33_4, r33_6, r33_7, r33_8, r33_10, r33_11, r33_12, r33_13, r33_15, r33_16, r33_18, r33_19]
          exact h139 0 hb.symm
        · exact ⟨fun h => absurd h (by decide), fun _ => h139 1 hb.symm⟩
      have h78 : ∀ b : Int32, (b = 0 ∧ ¬ m_std I2 a xv k ∨ b = 1 ∧ m_std I2 a xv k) → Go (g, M_M_move, 1, n, z, 0, 0, Q) 78 [some (.ref (gB g + 33)), some (.int (nI a)), some (.int wv), some (.int xv), some (.int (nI k)), o5, o6] [.int b] (n, z, S, I2, J, R) := by
        intro b hb
        refine go_wp B_M_move_78_ok ?_; simp only [B_M_move_78, ↓q_nil, ↓q_iconst, ↓q_bipush, ↓q_sipush, ↓q_ldc, ↓q_lconst, ↓q_ldc2, ↓q_null, ↓q_iload, ↓q_iload_n, ↓q_lload, ↓q_lload_n, ↓q_aload, ↓q_aload_n, ↓q_istore, ↓q_istore_n, ↓q_lstore, ↓q_lstore_n, ↓q_astore, ↓q_astore_n, ↓q_iinc, ↓q_iadd, ↓q_isub, ↓q_imul, ↓q_iand, ↓q_idiv, ↓q_irem, ↓q_ineg, ↓q_ladd, ↓q_lsub, ↓q_lmul, ↓q_land, ↓q_ldiv, ↓q_lrem, ↓q_i2l, ↓q_l2i, ↓q_dup, ↓q_pop, ↓q_dup2, ↓q_dup_x1, ↓q_goto, ↓q_if_eq, ↓q_if_ne, ↓q_if_lt, ↓q_if_ge, ↓q_if_gt, ↓q_if_le, ↓q_icmp_eq, ↓q_icmp_ne, ↓q_icmp_lt, ↓q_icmp_ge, ↓q_icmp_gt, ↓q_icmp_le, ↓q_ifnullN, ↓q_ifnull, ↓q_ifnonnullN, ↓q_ifnonnull, ↓q_table, ↓q_lookup, ↓q_getf, ↓q_putI, ↓q_putJ, ↓q_putR, ↓q_iald, ↓q_sld, ↓q_slen, ↓q_alen, ↓q_iast, ↓q_bald, ↓q_bast, ↓q_aald, ↓q_aast, ↓q_newa, ↓q_newq, ↓q_new, ↓q_objInit, ↓q_max, ↓q_min, ↓q_copy, ↓q_callS0, ↓q_callV0, ↓q_callI0, ↓q_callS1, ↓q_callV1, ↓q_callI1, ↓q_callS2, ↓q_callV2, ↓q_callI2, ↓q_callS3, ↓q_callV3, ↓q_callI3, ↓q_callS4, ↓q_callV4, ↓q_callI4, ↓q_callS5, ↓q_callV5, ↓q_callI5, ↓q_callS6, ↓q_callV6, ↓q_callI6, ↓q_callS7, ↓q_callV7, ↓q_callI7, ↓q_callS8, ↓q_callV8, ↓q_callI8, ↓q_iret, ↓q_lret, ↓q_vret, q_e_i_int, q_e_l_long, q_e_a_ref, q_e_a_null, q_cat_int, q_cat_ref, q_cat_null, q_cat_long, q_na_int, q_lgt_z, q_lgt_s, q_lst0, q_lst1, q_lstS, q_lst20, q_lst21, q_lst2S, q_clr_i, q_clr_r, q_clr_n, q_clr_0, q_clr_l, q_cv_i, q_cv_l, q_cv_r, q_rv_s, q_rv_n, q_toL_s, q_toL_n, true_and, and_true, Nat.reduceAdd, s33, s34, s35, s36, s37, s38, s39, s40, s41, s42, s43, s44, s45, s46, r33_3, r33_4, r33_6, r33_7, r33_8, r33_10, r33_11, r33_12, r33_13, r33_15, r33_16, r33_18, r33_19, nI_11]
        rcases hb with ⟨rfl, hb⟩ | ⟨rfl, hb⟩
        · refine ⟨fun _ => ?_, fun h => by first | exact absurd rfl h | exact absurd trivial h⟩
          refine go_wp B_M_move_109_ok ?_; simp only [B_M_move_109, ↓q_nil, ↓q_iconst, ↓q_bipush, ↓q_sipush, ↓q_ldc, ↓q_lconst, ↓q_ldc2, ↓q_null, ↓q_iload, ↓q_iload_n, ↓q_lload, ↓q_lload_n, ↓q_aload, ↓q_aload_n, ↓q_istore, ↓q_istore_n, ↓q_lstore, ↓q_lstore_n, ↓q_astore, ↓q_astore_n, ↓q_iinc, ↓q_iadd, ↓q_isub, ↓q_imul, ↓q_iand, ↓q_idiv, ↓q_irem, ↓q_ineg, ↓q_ladd, ↓q_lsub, ↓q_lmul, ↓q_land, ↓q_ldiv, ↓q_lrem, ↓q_i2l, ↓q_l2i, ↓q_dup, ↓q_pop, ↓q_dup2, ↓q_dup_x1, ↓q_goto, ↓q_if_eq, ↓q_if_ne, ↓q_if_lt, ↓q_if_ge, ↓q_if_gt, ↓q_if_le, ↓q_icmp_eq, ↓q_icmp_ne, ↓q_icmp_lt, ↓q_icmp_ge, ↓q_icmp_gt, ↓q_icmp_le, ↓q_ifnullN, ↓q_ifnull, ↓q_ifnonnullN, ↓q_ifnonnull, ↓q_table, ↓q_lookup, ↓q_getf, ↓q_putI, ↓q_putJ, ↓q_putR, ↓q_iald, ↓q_sld, ↓q_slen, ↓q_alen, ↓q_iast, ↓q_bald, ↓q_bast, ↓q_aald, ↓q_aast, ↓q_newa, ↓q_newq, ↓q_new, ↓q_objInit, ↓q_max, ↓q_min, ↓q_copy, ↓q_callS0, ↓q_callV0, ↓q_callI0, ↓q_callS1, ↓q_callV1, ↓q_callI1, ↓q_callS2, ↓q_callV2, ↓q_callI2, ↓q_callS3, ↓q_callV3, ↓q_callI3, ↓q_callS4, ↓q_callV4, ↓q_callI4, ↓q_callS5, ↓q_callV5, ↓q_callI5, ↓q_callS6, ↓q_callV6, ↓q_callI6, ↓q_callS7, ↓q_callV7, ↓q_callI7, ↓q_callS8, ↓q_callV8, ↓q_callI8, ↓q_iret, ↓q_lret, ↓q_vret, q_e_i_int, q_e_l_long, q_e_a_ref, q_e_a_null, q_cat_int, q_cat_ref, q_cat_null, q_cat_long, q_na_int, q_lgt_z, q_lgt_s, q_lst0, q_lst1, q_lstS, q_lst20, q_lst21, q_lst2S, q_clr_i, q_clr_r, q_clr_n, q_clr_0, q_clr_l, q_cv_i, q_cv_l, q_cv_r, q_rv_s, q_rv_n, q_toL_s, q_toL_n, true_and, and_true, Nat.reduceAdd, s33, s34, s35, s36, s37, s38, s39, s40, s41, s42, s43, s44, s45, s46, r33_3, r33_4, r33_6, r33_7, r33_8, r33_10, r33_11, r33_12, r33_13, r33_15, r33_16, r33_18, r33_19]
          exact h110 0 0 (Or.inl ⟨rfl, bI_f (fun q => hb q.1)⟩)
        · refine ⟨fun h => absurd h (by decide), fun _ => ?_⟩
          refine call_ro (c_of hs (p := 11 + k) ha (by omega)) (by decide) rfl (Nat.le_refl _) (Nat.le_refl _) ?_
          simp only [↓q_nil, ↓q_iconst, ↓q_bipush, ↓q_sipush, ↓q_ldc, ↓q_lconst, ↓q_ldc2, ↓q_null, ↓q_iload, ↓q_iload_n, ↓q_lload, ↓q_lload_n, ↓q_aload, ↓q_aload_n, ↓q_istore, ↓q_istore_n, ↓q_lstore, ↓q_lstore_n, ↓q_astore, ↓q_astore_n, ↓q_iinc, ↓q_iadd, ↓q_isub, ↓q_imul, ↓q_iand, ↓q_idiv, ↓q_irem, ↓q_ineg, ↓q_ladd, ↓q_lsub, ↓q_lmul, ↓q_land, ↓q_ldiv, ↓q_lrem, ↓q_i2l, ↓q_l2i, ↓q_dup, ↓q_pop, ↓q_dup2, ↓q_dup_x1, ↓q_goto, ↓q_if_eq, ↓q_if_ne, ↓q_if_lt, ↓q_if_ge, ↓q_if_gt, ↓q_if_le, ↓q_icmp_eq, ↓q_icmp_ne, ↓q_icmp_lt, ↓q_icmp_ge, ↓q_icmp_gt, ↓q_icmp_le, ↓q_ifnullN, ↓q_ifnull, ↓q_ifnonnullN, ↓q_ifnonnull, ↓q_table, ↓q_lookup, ↓q_getf, ↓q_putI, ↓q_putJ, ↓q_putR, ↓q_iald, ↓q_sld, ↓q_slen, ↓q_alen, ↓q_iast, ↓q_bald, ↓q_bast, ↓q_aald, ↓q_aast, ↓q_newa, ↓q_newq, ↓q_new, ↓q_objInit, ↓q_max, ↓q_min, ↓q_copy, ↓q_callS0, ↓q_callV0, ↓q_callI0, ↓q_callS1, ↓q_callV1, ↓q_callI1, ↓q_callS2, ↓q_callV2, ↓q_callI2, ↓q_callS3, ↓q_callV3, ↓q_callI3, ↓q_callS4, ↓q_callV4, ↓q_callI4, ↓q_callS5, ↓q_callV5, ↓q_callI5, ↓q_callS6, ↓q_callV6, ↓q_callI6, ↓q_callS7, ↓q_callV7, ↓q_callI7, ↓q_callS8, ↓q_callV8, ↓q_callI8, ↓q_iret, ↓q_lret, ↓q_vret, q_e_i_int, q_e_l_long, q_e_a_ref, q_e_a_null, q_cat_int, q_cat_ref, q_cat_null, q_cat_long, q_na_int, q_lgt_z, q_lgt_s, q_lst0, q_lst1, q_lstS, q_lst20, q_lst21, q_lst2S, q_clr_i, q_clr_r, q_clr_n, q_clr_0, q_clr_l, q_cv_i, q_cv_l, q_cv_r, q_rv_s, q_rv_n, q_toL_s, q_toL_n, true_and, and_true, Nat.reduceAdd, s33, s34, s35, s36, s37, s38, s39, s40, s41, s42, s43, s44, s45, s46, r33_3, r33_4, r33_6, r33_7, r33_8, r33_10, r33_11, r33_12, r33_13, r33_15, r33_16, r33_18, r33_19, cl_nI (show k < 2147483648 by omega)]
          refine ⟨vp_nI hk4 (by decide), fun e => h110 1 1 (Or.inr ⟨rfl, bI_t ⟨hb, e⟩⟩), fun e => ?_⟩
          refine go_wp B_M_move_109_ok ?_; simp only [B_M_move_109, ↓q_nil, ↓q_iconst, ↓q_bipush, ↓q_sipush, ↓q_ldc, ↓q_lconst, ↓q_ldc2, ↓q_null, ↓q_iload, ↓q_iload_n, ↓q_lload, ↓q_lload_n, ↓q_aload, ↓q_aload_n, ↓q_istore, ↓q_istore_n, ↓q_lstore, ↓q_lstore_n, ↓q_astore, ↓q_astore_n, ↓q_iinc, ↓q_iadd, ↓q_isub, ↓q_imul, ↓q_iand, ↓q_idiv, ↓q_irem, ↓q_ineg, ↓q_ladd, ↓q_lsub, ↓q_lmul, ↓q_land, ↓q_ldiv, ↓q_lrem, ↓q_i2l, ↓q_l2i, ↓q_dup, ↓q_pop, ↓q_dup2, ↓q_dup_x1, ↓q_goto, ↓q_if_eq, ↓q_if_ne, ↓q_if_lt, ↓q_if_ge, ↓q_if_gt, ↓q_if_le, ↓q_icmp_eq, ↓q_icmp_ne, ↓q_icmp_lt, ↓q_icmp_ge, ↓q_icmp_gt, ↓q_icmp_le, ↓q_ifnullN, ↓q_ifnull, ↓q_ifnonnullN, ↓q_ifnonnull, ↓q_table, ↓q_lookup, ↓q_getf, ↓q_putI, ↓q_putJ, ↓q_putR, ↓q_iald, ↓q_sld, ↓q_slen, ↓q_alen, ↓q_iast, ↓q_bald, ↓q_bast, ↓q_aald, ↓q_aast, ↓q_newa, ↓q_newq, ↓q_new, ↓q_objInit, ↓q_max, ↓q_min, ↓q_copy, ↓q_callS0, ↓q_callV0, ↓q_callI0, ↓q_callS1, ↓q_callV1, ↓q_callI1, ↓q_callS2, ↓q_callV2, ↓q_callI2, ↓q_callS3, ↓q_callV3, ↓q_callI3, ↓q_callS4, ↓q_callV4, ↓q_callI4, ↓q_callS5, ↓q_callV5, ↓q_callI5, ↓q_callS6, ↓q_callV6, ↓q_callI6, ↓q_callS7, ↓q_callV7, ↓q_callI7, ↓q_callS8, ↓q_callV8, ↓q_callI8, ↓q_iret, ↓q_lret, ↓q_vret, q_e_i_int, q_e_l_long, q_e_a_ref, q_e_a_null, q_cat_int, q_cat_ref, q_cat_null, q_cat_long, q_na_int, q_lgt_z, q_lgt_s, q_lst0, q_lst1, q_lstS, q_lst20, q_lst21, q_lst2S, q_clr_i, q_clr_r, q_clr_n, q_clr_0, q_clr_l, q_cv_i, q_cv_l, q_cv_r, q_rv_s, q_rv_n, q_toL_s, q_toL_n, true_and, and_true, Nat.reduceAdd, s33, s34, s35, s36, s37, s38, s39, s40, s41, s42, s43, s44, s45, s46, r33_3, r33_4, r33_6, r33_7, r33_8, r33_10, r33_11, r33_12, r33_13, r33_15, r33_16, r33_18, r33_19]
          exact h110 1 0 (Or.inl ⟨rfl, bI_f (fun q => e q.2)⟩)
      have h77 : ¬ m_std I2 a xv k → Go (g, M_M_move, 1, n, z, 0, 0, Q) 77 [some (.ref (gB g + 33)), some (.int (nI a)), some (.int wv), some (.int xv), some (.int (nI k)), o5, o6] [] (n, z, S, I2, J, R) := by
        intro h
        refine go_wp B_M_move_77_ok ?_; simp only [B_M_move_77, ↓q_nil, ↓q_iconst, ↓q_bipush, ↓q_sipush, ↓q_ldc, ↓q_lconst, ↓q_ldc2, ↓q_null, ↓q_iload, ↓q_iload_n, ↓q_lload, ↓q_lload_n, ↓q_aload, ↓q_aload_n, ↓q_istore, ↓q_istore_n, ↓q_lstore, ↓q_lstore_n, ↓q_astore, ↓q_astore_n, ↓q_iinc, ↓q_iadd, ↓q_isub, ↓q_imul, ↓q_iand, ↓q_idiv, ↓q_irem, ↓q_ineg, ↓q_ladd, ↓q_lsub, ↓q_lmul, ↓q_land, ↓q_ldiv, ↓q_lrem, ↓q_i2l, ↓q_l2i, ↓q_dup, ↓q_pop, ↓q_dup2, ↓q_dup_x1, ↓q_goto, ↓q_if_eq, ↓q_if_ne, ↓q_if_lt, ↓q_if_ge, ↓q_if_gt, ↓q_if_le, ↓q_icmp_eq, ↓q_icmp_ne, ↓q_icmp_lt, ↓q_icmp_ge, ↓q_icmp_gt, ↓q_icmp_le, ↓q_ifnullN, ↓q_ifnull, ↓q_ifnonnullN, ↓q_ifnonnull, ↓q_table, ↓q_lookup, ↓q_getf, ↓q_putI, ↓q_putJ, ↓q_putR, ↓q_iald, ↓q_sld, ↓q_slen, ↓q_alen, ↓q_iast, ↓q_bald, ↓q_bast, ↓q_aald, ↓q_aast, ↓q_newa, ↓q_newq, ↓q_new, ↓q_objInit, ↓q_max, ↓q_min, ↓q_copy, ↓q_callS0, ↓q_callV0, ↓q_callI0, ↓q_callS1, ↓q_callV1, ↓q_callI1, ↓q_callS2, ↓q_callV2, ↓q_callI2, ↓q_callS3, ↓q_callV3, ↓q_callI3, ↓q_callS4, ↓q_callV4, ↓q_callI4, ↓q_callS5, ↓q_callV5, ↓q_callI5, ↓q_callS6, ↓q_callV6, ↓q_callI6, ↓q_callS7, ↓q_callV7, ↓q_callI7, ↓q_callS8, ↓q_callV8, ↓q_callI8, ↓q_iret, ↓q_lret, ↓q_vret, q_e_i_int, q_e_l_long, q_e_a_ref, q_e_a_null, q_cat_int, q_cat_ref, q_cat_null, q_cat_long, q_na_int, q_lgt_z, q_lgt_s, q_lst0, q_lst1, q_lstS, q_lst20, q_lst21, q_lst2S, q_clr_i, q_clr_r, q_clr_n, q_clr_0, q_clr_l, q_cv_i, q_cv_l, q_cv_r, q_rv_s, q_rv_n, q_toL_s, q_toL_n, true_and, and_true, Nat.reduceAdd, s33, s34, s35, s36, s37, s38, s39, s40, s41, s42, s43, s44, s45, s46, r33_3, r33_4, r33_6, r33_7, r33_8, r33_10, r33_11, r33_12, r33_13, r33_15, r33_16, r33_18, r33_19]
        exact h78 0 (Or.inl ⟨rfl, h⟩)
      refine go_wp B_M_move_26_ok ?_; simp only [B_M_move_26, ↓q_nil, ↓q_iconst, ↓q_bipush, ↓q_sipush, ↓q_ldc, ↓q_lconst, ↓q_ldc2, ↓q_null, ↓q_iload, ↓q_iload_n, ↓q_lload, ↓q_lload_n, ↓q_aload, ↓q_aload_n, ↓q_istore, ↓q_istore_n, ↓q_lstore, ↓q_lstore_n, ↓q_astore, ↓q_astore_n, ↓q_iinc, ↓q_iadd, ↓q_isub, ↓q_imul, ↓q_iand, ↓q_idiv, ↓q_irem, ↓q_ineg, ↓q_ladd, ↓q_lsub, ↓q_lmul, ↓q_land, ↓q_ldiv, ↓q_lrem, ↓q_i2l, ↓q_l2i, ↓q_dup, ↓q_pop, ↓q_dup2, ↓q_dup_x1, ↓q_goto, ↓q_if_eq, ↓q_if_ne, ↓q_if_lt, ↓q_if_ge, ↓q_if_gt, ↓q_if_le, ↓q_icmp_eq, ↓q_icmp_ne, ↓q_icmp_lt, ↓q_icmp_ge, ↓q_icmp_gt, ↓q_icmp_le, ↓q_ifnullN, ↓q_ifnull, ↓q_ifnonnullN, ↓q_ifnonnull, ↓q_table, ↓q_lookup, ↓q_getf, ↓q_putI, ↓q_putJ, ↓q_putR, ↓q_iald, ↓q_sld, ↓q_slen, ↓q_alen, ↓q_iast, ↓q_bald, ↓q_bast, ↓q_aald, ↓q_aast, ↓q_newa, ↓q_newq, ↓q_new, ↓q_objInit, ↓q_max, ↓q_min, ↓q_copy, ↓q_callS0, ↓q_callV0, ↓q_callI0, ↓q_callS1, ↓q_callV1, ↓q_callI1, ↓q_callS2, ↓q_callV2, ↓q_callI2, ↓q_callS3, ↓q_callV3, ↓q_callI3, ↓q_callS4, ↓q_callV4, ↓q_callI4, ↓q_callS5, ↓q_callV5, ↓q_callI5, ↓q_callS6, ↓q_callV6, ↓q_callI6, ↓q_callS7, ↓q_callV7, ↓q_callI7, ↓q_callS8, ↓q_callV8, ↓q_callI8, ↓q_iret, ↓q_lret, ↓q_vret, q_e_i_int, q_e_l_long, q_e_a_ref, q_e_a_null, q_cat_int, q_cat_ref, q_cat_null, q_cat_long, q_na_int, q_lgt_z, q_lgt_s, q_lst0, q_lst1, q_lstS, q_lst20, q_lst21, q_lst2S, q_clr_i, q_clr_r, q_clr_n, q_clr_0, q_clr_l, q_cv_i, q_cv_l, q_cv_r, q_rv_s, q_rv_n, q_toL_s, q_toL_n, true_and, and_true, Nat.reduceAdd, s33, s34, s35, s36, s37, s38, s39, s40, s41, s42, s43, s44, s45, s46, r33_3, r33_4, r33_6, r33_7, r33_8, r33_10, r33_11, r33_12, r33_13, r33_15, r33_16, r33_18, r33_19, hns]
      refine ⟨fun _ => ?_, fun h => absurd (nI_lt hk (by omega)) h⟩
      refine call_ro (c_of hs (p := 0) ha (by decide)) (by decide) rfl (Nat.le_refl _) (Nat.le_refl _) ?_
      simp only [↓q_nil, ↓q_iconst, ↓q_bipush, ↓q_sipush, ↓q_ldc, ↓q_lconst, ↓q_ldc2, ↓q_null, ↓q_iload, ↓q_iload_n, ↓q_lload, ↓q_lload_n, ↓q_aload, ↓q_aload_n, ↓q_istore, ↓q_istore_n, ↓q_lstore, ↓q_lstore_n, ↓q_astore, ↓q_astore_n, ↓q_iinc, ↓q_iadd, ↓q_isub, ↓q_imul, ↓q_iand, ↓q_idiv, ↓q_irem, ↓q_ineg, ↓q_ladd, ↓q_lsub, ↓q_lmul, ↓q_land, ↓q_ldiv, ↓q_lrem, ↓q_i2l, ↓q_l2i, ↓q_dup, ↓q_pop, ↓q_dup2, ↓q_dup_x1, ↓q_goto, ↓q_if_eq, ↓q_if_ne, ↓q_if_lt, ↓q_if_ge, ↓q_if_gt, ↓q_if_le, ↓q_icmp_eq, ↓q_icmp_ne, ↓q_icmp_lt, ↓q_icmp_ge, ↓q_icmp_gt, ↓q_icmp_le, ↓q_ifnullN, ↓q_ifnull, ↓q_ifnonnullN, ↓q_ifnonnull, ↓q_table, ↓q_lookup, ↓q_getf, ↓q_putI, ↓q_putJ, ↓q_putR, ↓q_iald, ↓q_sld, ↓q_slen, ↓q_alen, ↓q_iast, ↓q_bald, ↓q_bast, ↓q_aald, ↓q_aast, ↓q_newa, ↓q_newq, ↓q_new, ↓q_objInit, ↓q_max, ↓q_min, ↓q_copy, ↓q_callS0, ↓q_callV0, ↓q_callI0, ↓q_callS1, ↓q_callV1, ↓q_callI1, ↓q_callS2, ↓q_callV2, ↓q_callI2, ↓q_callS3, ↓q_callV3, ↓q_callI3, ↓q_callS4, ↓q_callV4, ↓q_callI4, ↓q_callS5, ↓q_callV5, ↓q_callI5, ↓q_callS6, ↓q_callV6, ↓q_callI6, ↓q_callS7, ↓q_callV7, ↓q_callI7, ↓q_callS8, ↓q_callV8, ↓q_callI8, ↓q_iret, ↓q_lret, ↓q_vret, q_e_i_int, q_e_l_long, q_e_a_ref, q_e_a_null, q_cat_int, q_cat_ref, q_cat_null, q_cat_long, q_na_int, q_lgt_z, q_lgt_s, q_lst0, q_lst1, q_lstS, q_lst20, q_lst21, q_lst2S, q_clr_i, q_clr_r, q_clr_n, q_clr_0, q_clr_l, q_cv_i, q_cv_l, q_cv_r, q_rv_s, q_rv_n, q_toL_s, q_toL_n, true_and, and_true, Nat.reduceAdd, s33, s34, s35, s36, s37, s38, s39, s40, s41, s42, s43, s44, s45, s46, r33_3, r33_4, r33_6, r33_7, r33_8, r33_10, r33_11, r33_12, r33_13, r33_15, r33_16, r33_18, r33_19]
      refine ⟨fun e1 => ?_, fun e1 => h77 (fun q => e1 q.1)⟩
      refine call_ro (c_of hs (p := 4) ha (by decide)) (by decide) rfl (Nat.le_refl _) (Nat.le_refl _) ?_
      simp only [↓q_nil, ↓q_iconst, ↓q_bipush, ↓q_sipush, ↓q_ldc, ↓q_lconst, ↓q_ldc2, ↓q_null, ↓q_iload, ↓q_iload_n, ↓q_lload, ↓q_lload_n, ↓q_aload, ↓q_aload_n, ↓q_istore, ↓q_istore_n, ↓q_lstore, ↓q_lstore_n, ↓q_astore, ↓q_astore_n, ↓q_iinc, ↓q_iadd, ↓q_isub, ↓q_imul, ↓q_iand, ↓q_idiv, ↓q_irem, ↓q_ineg, ↓q_ladd, ↓q_lsub, ↓q_lmul, ↓q_land, ↓q_ldiv, ↓q_lrem, ↓q_i2l, ↓q_l2i, ↓q_dup, ↓q_pop, ↓q_dup2, ↓q_dup_x1, ↓q_goto, ↓q_if_eq, ↓q_if_ne, ↓q_if_lt, ↓q_if_ge, ↓q_if_gt, ↓q_if_le, ↓q_icmp_eq, ↓q_icmp_ne, ↓q_icmp_lt, ↓q_icmp_ge, ↓q_icmp_gt, ↓q_icmp_le, ↓q_ifnullN, ↓q_ifnull, ↓q_ifnonnullN, ↓q_ifnonnull, ↓q_table, ↓q_lookup, ↓q_getf, ↓q_putI, ↓q_putJ, ↓q_putR, ↓q_iald, ↓q_sld, ↓q_slen, ↓q_alen, ↓q_iast, ↓q_bald, ↓q_bast, ↓q_aald, ↓q_aast, ↓q_newa, ↓q_newq, ↓q_new, ↓q_objInit, ↓q_max, ↓q_min, ↓q_copy, ↓q_callS0, ↓q_callV0, ↓q_callI0, ↓q_callS1, ↓q_callV1, ↓q_callI1, ↓q_callS2, ↓q_callV2, ↓q_callI2, ↓q_callS3, ↓q_callV3, ↓q_callI3, ↓q_callS4, ↓q_callV4, ↓q_callI4, ↓q_callS5, ↓q_callV5, ↓q_callI5, ↓q_callS6, ↓q_callV6, ↓q_callI6, ↓q_callS7, ↓q_callV7, ↓q_callI7, ↓q_callS8, ↓q_callV8, ↓q_callI8, ↓q_iret, ↓q_lret, ↓q_vret, q_e_i_int, q_e_l_long, q_e_a_ref, q_e_a_null, q_cat_int, q_cat_ref, q_cat_null, q_cat_long, q_na_int, q_lgt_z, q_lgt_s, q_lst0, q_lst1, q_lstS, q_lst20, q_lst21, q_lst2S, q_clr_i, q_clr_r, q_clr_n, q_clr_0, q_clr_l, q_cv_i, q_cv_l, q_cv_r, q_rv_s, q_rv_n, q_toL_s, q_toL_n, true_and, and_true, Nat.reduceAdd, s33, s34, s35, s36, s37, s38, s39, s40, s41, s42, s43, s44, s45, s46, r33_3, r33_4, r33_6, r33_7, r33_8, r33_10, r33_11, r33_12, r33_13, r33_15, r33_16, r33_18, r33_19, cl_nI (show k < 2147483648 by omega)]
      refine ⟨fun e2 => ⟨vp_nI hk4 (by decide), ?_⟩, fun e2 => h77 (fun q => e2 q.2.1)⟩
      refine call_ro (c_within) (by decide) rfl (Nat.le_refl _) (Nat.le_refl _) ?_
      simp only [↓q_nil, ↓q_iconst, ↓q_bipush, ↓q_sipush, ↓q_ldc, ↓q_lconst, ↓q_ldc2, ↓q_null, ↓q_iload, ↓q_iload_n, ↓q_lload, ↓q_lload_n, ↓q_aload, ↓q_aload_n, ↓q_istore, ↓q_istore_n, ↓q_lstore, ↓q_lstore_n, ↓q_astore, ↓q_astore_n, ↓q_iinc, ↓q_iadd, ↓q_isub, ↓q_imul, ↓q_iand, ↓q_idiv, ↓q_irem, ↓q_ineg, ↓q_ladd, ↓q_lsub, ↓q_lmul, ↓q_land, ↓q_ldiv, ↓q_lrem, ↓q_i2l, ↓q_l2i, ↓q_dup, ↓q_pop, ↓q_dup2, ↓q_dup_x1, ↓q_goto, ↓q_if_eq, ↓q_if_ne, ↓q_if_lt, ↓q_if_ge, ↓q_if_gt, ↓q_if_le, ↓q_icmp_eq, ↓q_icmp_ne, ↓q_icmp_lt, ↓q_icmp_ge, ↓q_icmp_gt, ↓q_icmp_le, ↓q_ifnullN, ↓q_ifnull, ↓q_ifnonnullN, ↓q_ifnonnull, ↓q_table, ↓q_lookup, ↓q_getf, ↓q_putI, ↓q_putJ, ↓q_putR, ↓q_iald, ↓q_sld, ↓q_slen, ↓q_alen, ↓q_iast, ↓q_bald, ↓q_bast, ↓q_aald, ↓q_aast, ↓q_newa, ↓q_newq, ↓q_new, ↓q_objInit, ↓q_max, ↓q_min, ↓q_copy, ↓q_callS0, ↓q_callV0, ↓q_callI0, ↓q_callS1, ↓q_callV1, ↓q_callI1, ↓q_callS2, ↓q_callV2, ↓q_callI2, ↓q_callS3, ↓q_callV3, ↓q_callI3, ↓q_callS4, ↓q_callV4, ↓q_callI4, ↓q_callS5, ↓q_callV5, ↓q_callI5, ↓q_callS6, ↓q_callV6, ↓q_callI6, ↓q_callS7, ↓q_callV7, ↓q_callI7, ↓q_callS8, ↓q_callV8, ↓q_callI8, ↓q_iret, ↓q_lret, ↓q_vret, q_e_i_int, q_e_l_long, q_e_a_ref, q_e_a_null, q_cat_int, q_cat_ref, q_cat_null, q_cat_long, q_na_int, q_lgt_z, q_lgt_s, q_lst0, q_lst1, q_lstS, q_lst20, q_lst21, q_lst2S, q_clr_i, q_clr_r, q_clr_n, q_clr_0, q_clr_l, q_cv_i, q_cv_l, q_cv_r, q_rv_s, q_rv_n, q_toL_s, q_toL_n, true_and, and_true, Nat.reduceAdd, s33, s34, s35, s36, s37, s38, s39, s40, s41, s42, s43, s44, s45, s46, r33_3, r33_4, r33_6, r33_7, r33_8, r33_10, r33_11, r33_12, r33_13, r33_15, r33_16, r33_18, r33_19]
      refine ⟨fun e3 => h77 (fun q => bI_eq e3 q.2.2), fun e3 => h78 1 (Or.inr ⟨rfl, e1, e2, bI_ne e3⟩)⟩
  refine go_wp B_M_move_0_ok ?_; simp only [B_M_move_0, ↓q_nil, ↓q_iconst, ↓q_bipush, ↓q_sipush, ↓q_ldc, ↓q_lconst, ↓q_ldc2, ↓q_null, ↓q_iload, ↓q_iload_n, ↓q_lload, ↓q_lload_n, ↓q_aload, ↓q_aload_n, ↓q_istore, ↓q_istore_n, ↓q_lstore, ↓q_lstore_n, ↓q_astore, ↓q_astore_n, ↓q_iinc, ↓q_iadd, ↓q_isub, ↓q_imul, ↓q_iand, ↓q_idiv, ↓q_irem, ↓q_ineg, ↓q_ladd, ↓q_lsub, ↓q_lmul, ↓q_land, ↓q_ldiv, ↓q_lrem, ↓q_i2l, ↓q_l2i, ↓q_dup, ↓q_pop, ↓q_dup2, ↓q_dup_x1, ↓q_goto, ↓q_if_eq, ↓q_if_ne, ↓q_if_lt, ↓q_if_ge, ↓q_if_gt, ↓q_if_le, ↓q_icmp_eq, ↓q_icmp_ne, ↓q_icmp_lt, ↓q_icmp_ge, ↓q_icmp_gt, ↓q_icmp_le, ↓q_ifnullN, ↓q_ifnull, ↓q_ifnonnullN, ↓q_ifnonnull, ↓q_table, ↓q_lookup, ↓q_getf, ↓q_putI, ↓q_putJ, ↓q_putR, ↓q_iald, ↓q_sld, ↓q_slen, ↓q_alen, ↓q_iast, ↓q_bald, ↓q_bast, ↓q_aald, ↓q_aast, ↓q_newa, ↓q_newq, ↓q_new, ↓q_objInit, ↓q_max, ↓q_min, ↓q_copy, ↓q_callS0, ↓q_callV0, ↓q_callI0, ↓q_callS1, ↓q_callV1, ↓q_callI1, ↓q_callS2, ↓q_callV2, ↓q_callI2, ↓q_callS3, ↓q_callV3, ↓q_callI3, ↓q_callS4, ↓q_callV4, ↓q_callI4, ↓q_callS5, ↓q_callV5, ↓q_callI5, ↓q_callS6, ↓q_callV6, ↓q_callI6, ↓q_callS7, ↓q_callV7, ↓q_callI7, ↓q_callS8, ↓q_callV8, ↓q_callI8, ↓q_iret, ↓q_lret, ↓q_vret, q_e_i_int, q_e_l_long, q_e_a_ref, q_e_a_null, q_cat_int, q_cat_ref, q_cat_null, q_cat_long, q_na_int, q_lgt_z, q_lgt_s, q_lst0, q_lst1, q_lstS, q_lst20, q_lst21, q_lst2S, q_clr_i, q_clr_r, q_clr_n, q_clr_0, q_clr_l, q_cv_i, q_cv_l, q_cv_r, q_rv_s, q_rv_n, q_toL_s, q_toL_n, true_and, and_true, Nat.reduceAdd, s33, s34, s35, s36, s37, s38, s39, s40, s41, s42, s43, s44, s45, s46, r33_3, r33_4, r33_6, r33_7, r33_8, r33_10, r33_11, r33_12, r33_13, r33_15, r33_16, r33_18, r33_19]
  refine call_ro (c_of hs (p := 3) ha (by decide)) (by decide) rfl (Nat.le_refl _) (Nat.le_refl _) ?_
  simp only [↓q_nil, ↓q_iconst, ↓q_bipush, ↓q_sipush, ↓q_ldc, ↓q_lconst, ↓q_ldc2, ↓q_null, ↓q_iload, ↓q_iload_n, ↓q_lload, ↓q_lload_n, ↓q_aload, ↓q_aload_n, ↓q_istore, ↓q_istore_n, ↓q_lstore, ↓q_lstore_n, ↓q_astore, ↓q_astore_n, ↓q_iinc, ↓q_iadd, ↓q_isub, ↓q_imul, ↓q_iand, ↓q_idiv, ↓q_irem, ↓q_ineg, ↓q_ladd, ↓q_lsub, ↓q_lmul, ↓q_land, ↓q_ldiv, ↓q_lrem, ↓q_i2l, ↓q_l2i, ↓q_dup, ↓q_pop, ↓q_dup2, ↓q_dup_x1, ↓q_goto, ↓q_if_eq, ↓q_if_ne, ↓q_if_lt, ↓q_if_ge, ↓q_if_gt, ↓q_if_le, ↓q_icmp_eq, ↓q_icmp_ne, ↓q_icmp_lt, ↓q_icmp_ge, ↓q_icmp_gt, ↓q_icmp_le, ↓q_ifnullN, ↓q_ifnull, ↓q_ifnonnullN, ↓q_ifnonnull, ↓q_table, ↓q_lookup, ↓q_getf, ↓q_putI, ↓q_putJ, ↓q_putR, ↓q_iald, ↓q_sld, ↓q_slen, ↓q_alen, ↓q_iast, ↓q_bald, ↓q_bast, ↓q_aald, ↓q_aast, ↓q_newa, ↓q_newq, ↓q_new, ↓q_objInit, ↓q_max, ↓q_min, ↓q_copy, ↓q_callS0, ↓q_callV0, ↓q_callI0, ↓q_callS1, ↓q_callV1, ↓q_callI1, ↓q_callS2, ↓q_callV2, ↓q_callI2, ↓q_callS3, ↓q_callV3, ↓q_callI3, ↓q_callS4, ↓q_callV4, ↓q_callI4, ↓q_callS5, ↓q_callV5, ↓q_callI5, ↓q_callS6, ↓q_callV6, ↓q_callI6, ↓q_callS7, ↓q_callV7, ↓q_callI7, ↓q_callS8, ↓q_callV8, ↓q_callI8, ↓q_iret, ↓q_lret, ↓q_vret, q_e_i_int, q_e_l_long, q_e_a_ref, q_e_a_null, q_cat_int, q_cat_ref, q_cat_null, q_cat_long, q_na_int, q_lgt_z, q_lgt_s, q_lst0, q_lst1, q_lstS, q_lst20, q_lst21, q_lst2S, q_clr_i, q_clr_r, q_clr_n, q_clr_0, q_clr_l, q_cv_i, q_cv_l, q_cv_r, q_rv_s, q_rv_n, q_toL_s, q_toL_n, true_and, and_true, Nat.reduceAdd, s33, s34, s35, s36, s37, s38, s39, s40, s41, s42, s43, s44, s45, s46, r33_3, r33_4, r33_6, r33_7, r33_8, r33_10, r33_11, r33_12, r33_13, r33_15, r33_16, r33_18, r33_19]
  refine call_ro (c_of hs (p := 4) ha (by decide)) (by decide) rfl (Nat.le_refl _) (Nat.le_refl _) ?_
  simp only [↓q_nil, ↓q_iconst, ↓q_bipush, ↓q_sipush, ↓q_ldc, ↓q_lconst, ↓q_ldc2, ↓q_null, ↓q_iload, ↓q_iload_n, ↓q_lload, ↓q_lload_n, ↓q_aload, ↓q_aload_n, ↓q_istore, ↓q_istore_n, ↓q_lstore, ↓q_lstore_n, ↓q_astore, ↓q_astore_n, ↓q_iinc, ↓q_iadd, ↓q_isub, ↓q_imul, ↓q_iand, ↓q_idiv, ↓q_irem, ↓q_ineg, ↓q_ladd, ↓q_lsub, ↓q_lmul, ↓q_land, ↓q_ldiv, ↓q_lrem, ↓q_i2l, ↓q_l2i, ↓q_dup, ↓q_pop, ↓q_dup2, ↓q_dup_x1, ↓q_goto, ↓q_if_eq, ↓q_if_ne, ↓q_if_lt, ↓q_if_ge, ↓q_if_gt, ↓q_if_le, ↓q_icmp_eq, ↓q_icmp_ne, ↓q_icmp_lt, ↓q_icmp_ge, ↓q_icmp_gt, ↓q_icmp_le, ↓q_ifnullN, ↓q_ifnull, ↓q_ifnonnullN, ↓q_ifnonnull, ↓q_table, ↓q_lookup, ↓q_getf, ↓q_putI, ↓q_putJ, ↓q_putR, ↓q_iald, ↓q_sld, ↓q_slen, ↓q_alen, ↓q_iast, ↓q_bald, ↓q_bast, ↓q_aald, ↓q_aast, ↓q_newa, ↓q_newq, ↓q_new, ↓q_objInit, ↓q_max, ↓q_min, ↓q_copy, ↓q_callS0, ↓q_callV0, ↓q_callI0, ↓q_callS1, ↓q_callV1, ↓q_callI1, ↓q_callS2, ↓q_callV2, ↓q_callI2, ↓q_callS3, ↓q_callV3, ↓q_callI3, ↓q_callS4, ↓q_callV4, ↓q_callI4, ↓q_callS5, ↓q_callV5, ↓q_callI5, ↓q_callS6, ↓q_callV6, ↓q_callI6, ↓q_callS7, ↓q_callV7, ↓q_callI7, ↓q_callS8, ↓q_callV8, ↓q_callI8, ↓q_iret, ↓q_lret, ↓q_vret, q_e_i_int, q_e_l_long, q_e_a_ref, q_e_a_null, q_cat_int, q_cat_ref, q_cat_null, q_cat_long, q_na_int, q_lgt_z, q_lgt_s, q_lst0, q_lst1, q_lstS, q_lst20, q_lst21, q_lst2S, q_clr_i, q_clr_r, q_clr_n, q_clr_0, q_clr_l, q_cv_i, q_cv_l, q_cv_r, q_rv_s, q_rv_n, q_toL_s, q_toL_n, true_and, and_true, Nat.reduceAdd, s33, s34, s35, s36, s37, s38, s39, s40, s41, s42, s43, s44, s45, s46, r33_3, r33_4, r33_6, r33_7, r33_8, r33_10, r33_11, r33_12, r33_13, r33_15, r33_16, r33_18, r33_19]
  refine call_ro (c_putm hs (p := 3) ha (by decide)) (by decide) rfl (Nat.le_refl _) (Nat.le_refl _) ?_
  simp only [↓q_nil, ↓q_iconst, ↓q_bipush, ↓q_sipush, ↓q_ldc, ↓q_lconst, ↓q_ldc2, ↓q_null, ↓q_iload, ↓q_iload_n, ↓q_lload, ↓q_lload_n, ↓q_aload, ↓q_aload_n, ↓q_istore, ↓q_istore_n, ↓q_lstore, ↓q_lstore_n, ↓q_astore, ↓q_astore_n, ↓q_iinc, ↓q_iadd, ↓q_isub, ↓q_imul, ↓q_iand, ↓q_idiv, ↓q_irem, ↓q_ineg, ↓q_ladd, ↓q_lsub, ↓q_lmul, ↓q_land, ↓q_ldiv, ↓q_lrem, ↓q_i2l, ↓q_l2i, ↓q_dup, ↓q_pop, ↓q_dup2, ↓q_dup_x1, ↓q_goto, ↓q_if_eq, ↓q_if_ne, ↓q_if_lt, ↓q_if_ge, ↓q_if_gt, ↓q_if_le, ↓q_icmp_eq, ↓q_icmp_ne, ↓q_icmp_lt, ↓q_icmp_ge, ↓q_icmp_gt, ↓q_icmp_le, ↓q_ifnullN, ↓q_ifnull, ↓q_ifnonnullN, ↓q_ifnonnull, ↓q_table, ↓q_lookup, ↓q_getf, ↓q_putI, ↓q_putJ, ↓q_putR, ↓q_iald, ↓q_sld, ↓q_slen, ↓q_alen, ↓q_iast, ↓q_bald, ↓q_bast, ↓q_aald, ↓q_aast, ↓q_newa, ↓q_newq, ↓q_new, ↓q_objInit, ↓q_max, ↓q_min, ↓q_copy, ↓q_callS0, ↓q_callV0, ↓q_callI0, ↓q_callS1, ↓q_callV1, ↓q_callI1, ↓q_callS2, ↓q_callV2, ↓q_callI2, ↓q_callS3, ↓q_callV3, ↓q_callI3, ↓q_callS4, ↓q_callV4, ↓q_callI4, ↓q_callS5, ↓q_callV5, ↓q_callI5, ↓q_callS6, ↓q_callV6, ↓q_callI6, ↓q_callS7, ↓q_callV7, ↓q_callI7, ↓q_callS8, ↓q_callV8, ↓q_callI8, ↓q_iret, ↓q_lret, ↓q_vret, q_e_i_int, q_e_l_long, q_e_a_ref, q_e_a_null, q_cat_int, q_cat_ref, q_cat_null, q_cat_long, q_na_int, q_lgt_z, q_lgt_s, q_lst0, q_lst1, q_lstS, q_lst20, q_lst21, q_lst2S, q_clr_i, q_clr_r, q_clr_n, q_clr_0, q_clr_l, q_cv_i, q_cv_l, q_cv_r, q_rv_s, q_rv_n, q_toL_s, q_toL_n, true_and, and_true, Nat.reduceAdd, s33, s34, s35, s36, s37, s38, s39, s40, s41, s42, s43, s44, s45, s46, r33_3, r33_4, r33_6, r33_7, r33_8, r33_10, r33_11, r33_12, r33_13, r33_15, r33_16, r33_18, r33_19]
  have hwv' : I 34 (20 + 20 * a + 3) = wv := hwv
  have hxv' : wv + I 34 (20 + 20 * a + 4) = xv := hxv
  rw [hwv', hxv', hI1]
  exact h26 _ _
end
end
