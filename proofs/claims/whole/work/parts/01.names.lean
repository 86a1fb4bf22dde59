/-! names: classes, fields, kinds of arrays, methods (written by program out of the Statement) -/
abbrev MI : Type := MethodName × ByteArray × Nat × Option FieldType
def ktb : List Cond := lw_tbl.filter goodWord
theorem kgood : ∀ w ∈ ktb, (w.onTables && w.keeps) = true ∨ ∃ ty, w = .arrayClass ty := fun w h => good_of_word (List.mem_filter.mp h).2
theorem ktb_at {w : Cond} (i : Nat) (h : lw_tbl[i]? = some w) (hg : goodWord w = true) : w ∈ ktb := List.mem_filter.mpr ⟨List.mem_of_getElem? h, hg⟩
def kF0 : u_T := fun k => match k with
  | 0 => ("CarSeeds", "seed", "J", true)
  | 1 => ("CarSeeds", "lanes", "I", true)
  | 2 => ("CarSeeds", "length", "I", true)
  | 3 => ("CarSeeds", "road", "LCarSeeds$Road;", true)
  | 4 => ("CarSeeds", "things", "LCarSeeds$Things;", true)
  | 5 => ("CarSeeds", "now", "LCarSeeds$State;", true)
  | _ => ("CarSeeds", "kept", "[LCarSeeds$State;", true)
def kT0 : Nat → FieldType := fun k => match k with
  | 0 => .long
  | 1 => .int
  | 2 => .int
  | 3 => .object "CarSeeds$Road"
  | 4 => .object "CarSeeds$Things"
  | 5 => .object "CarSeeds$State"
  | _ => .array (.object "CarSeeds$State")
def kF1 : u_T := fun k => match k with
  | 0 => ("CarSeeds$Road", "things", "LCarSeeds$Things;", true)
  | 1 => ("CarSeeds$Road", "now", "LCarSeeds$State;", true)
  | 2 => ("CarSeeds$Road", "cars", "LCarSeeds$Cars;", true)
  | 3 => ("CarSeeds$Road", "rows", "LCarSeeds$Rows;", true)
  | 4 => ("CarSeeds$Road", "lanes", "I", true)
  | _ => ("CarSeeds$Road", "end", "I", true)
def kT1 : Nat → FieldType := fun k => match k with
  | 0 => .object "CarSeeds$Things"
  | 1 => .object "CarSeeds$State"
  | 2 => .object "CarSeeds$Cars"
  | 3 => .object "CarSeeds$Rows"
  | 4 => .int
  | _ => .int
def kF2 : u_T := fun k => match k with
  | 0 => ("CarSeeds$Things", "lightPlace", "[I", true)
  | 1 => ("CarSeeds$Things", "lightRed", "[I", true)
  | 2 => ("CarSeeds$Things", "lightCycle", "[I", true)
  | 3 => ("CarSeeds$Things", "closedLane", "[I", true)
  | 4 => ("CarSeeds$Things", "closedPlace", "[I", true)
  | 5 => ("CarSeeds$Things", "closedFrom", "[I", true)
  | 6 => ("CarSeeds$Things", "closedTo", "[I", true)
  | 7 => ("CarSeeds$Things", "stopPlace", "[I", true)
  | 8 => ("CarSeeds$Things", "stopDwell", "[I", true)
  | 9 => ("CarSeeds$Things", "linePlace", "[I", true)
  | 10 => ("CarSeeds$Things", "lights", "I", false)
  | 11 => ("CarSeeds$Things", "closed", "I", false)
  | 12 => ("CarSeeds$Things", "stops", "I", false)
  | _ => ("CarSeeds$Things", "lines", "I", false)
def kT2 : Nat → FieldType := fun k => match k with
  | 0 => .array .int
  | 1 => .array .int
  | 2 => .array .int
  | 3 => .array .int
  | 4 => .array .int
  | 5 => .array .int
  | 6 => .array .int
  | 7 => .array .int
  | 8 => .array .int
  | 9 => .array .int
  | 10 => .int
  | 11 => .int
  | 12 => .int
  | _ => .int
def kF3 : u_T := fun k => match k with
  | 0 => ("CarSeeds$State", "cars", "LCarSeeds$Cars;", true)
  | 1 => ("CarSeeds$State", "rows", "LCarSeeds$Rows;", true)
  | 2 => ("CarSeeds$State", "nextWaiter", "[I", true)
  | 3 => ("CarSeeds$State", "passed", "[I", true)
  | 4 => ("CarSeeds$State", "step", "I", false)
  | 5 => ("CarSeeds$State", "nearMisses", "I", false)
  | 6 => ("CarSeeds$State", "hardBrakings", "I", false)
  | _ => ("CarSeeds$State", "changes", "I", false)
def kT3 : Nat → FieldType := fun k => match k with
  | 0 => .object "CarSeeds$Cars"
  | 1 => .object "CarSeeds$Rows"
  | 2 => .array .int
  | 3 => .array .int
  | 4 => .int
  | 5 => .int
  | 6 => .int
  | _ => .int
def kF4 : u_T := fun k => match k with
  | 0 => ("CarSeeds$Cars", "kind", "[I", true)
  | 1 => ("CarSeeds$Cars", "length", "[I", true)
  | 2 => ("CarSeeds$Cars", "wish", "[I", true)
  | 3 => ("CarSeeds$Cars", "delay", "[I", true)
  | 4 => ("CarSeeds$Cars", "lane", "[I", true)
  | 5 => ("CarSeeds$Cars", "state", "[I", true)
  | 6 => ("CarSeeds$Cars", "front", "[I", true)
  | 7 => ("CarSeeds$Cars", "speed", "[I", true)
  | 8 => ("CarSeeds$Cars", "cameIn", "[I", true)
  | 9 => ("CarSeeds$Cars", "goneIn", "[I", true)
  | 10 => ("CarSeeds$Cars", "settledIn", "[I", true)
  | 11 => ("CarSeeds$Cars", "stood", "[I", true)
  | _ => ("CarSeeds$Cars", "size", "I", false)
def kT4 : Nat → FieldType := fun k => match k with
  | 0 => .array .int
  | 1 => .array .int
  | 2 => .array .int
  | 3 => .array .int
  | 4 => .array .int
  | 5 => .array .int
  | 6 => .array .int
  | 7 => .array .int
  | 8 => .array .int
  | 9 => .array .int
  | 10 => .array .int
  | 11 => .array .int
  | _ => .int
def kF5 : u_T := fun k => match k with
  | 0 => ("CarSeeds$Rows", "cars", "[I", true)
  | _ => ("CarSeeds$Rows", "sizes", "[I", true)
def kT5 : Nat → FieldType := fun k => match k with
  | 0 => .array .int
  | _ => .array .int
def kF6 : u_T := fun k => match k with
  | 0 => ("CarSeedsModel", "seed", "J", true)
  | 1 => ("CarSeedsModel", "lanes", "I", true)
  | 2 => ("CarSeedsModel", "length", "I", true)
  | 3 => ("CarSeedsModel", "cells", "[I", true)
  | 4 => ("CarSeedsModel", "kept", "[Z", true)
  | 5 => ("CarSeedsModel", "lights", "I", false)
  | 6 => ("CarSeedsModel", "lightPlace", "[I", true)
  | 7 => ("CarSeedsModel", "lightRed", "[I", true)
  | 8 => ("CarSeedsModel", "lightCycle", "[I", true)
  | 9 => ("CarSeedsModel", "closed", "I", false)
  | 10 => ("CarSeedsModel", "closedLane", "[I", true)
  | 11 => ("CarSeedsModel", "closedPlace", "[I", true)
  | 12 => ("CarSeedsModel", "closedFrom", "[I", true)
  | 13 => ("CarSeedsModel", "closedTo", "[I", true)
  | 14 => ("CarSeedsModel", "stops", "I", false)
  | 15 => ("CarSeedsModel", "stopPlace", "[I", true)
  | 16 => ("CarSeedsModel", "stopDwell", "[I", true)
  | 17 => ("CarSeedsModel", "lines", "I", false)
  | 18 => ("CarSeedsModel", "linePlace", "[I", true)
  | _ => ("CarSeedsModel", "fresh", "[I", true)
def kT6 : Nat → FieldType := fun k => match k with
  | 0 => .long
  | 1 => .int
  | 2 => .int
  | 3 => .array .int
  | 4 => .array .boolean
  | 5 => .int
  | 6 => .array .int
  | 7 => .array .int
  | 8 => .array .int
  | 9 => .int
  | 10 => .array .int
  | 11 => .array .int
  | 12 => .array .int
  | 13 => .array .int
  | 14 => .int
  | 15 => .array .int
  | 16 => .array .int
  | 17 => .int
  | 18 => .array .int
  | _ => .array .int
def kcl : List vw_C := [("CarSeeds", kF0, 7), ("CarSeeds$Road", kF1, 6), ("CarSeeds$Things", kF2, 14), ("CarSeeds$State", kF3, 8), ("CarSeeds$Cars", kF4, 13), ("CarSeeds$Rows", kF5, 2), ("CarSeedsModel", kF6, 20)]
def ktyp (c : Nat) : Nat → FieldType := match c with
  | 0 => kT0
  | 1 => kT1
  | 2 => kT2
  | 3 => kT3
  | 4 => kT4
  | 5 => kT5
  | _ => kT6
def kna : Nat := 3
def kak (t : Nat) : FieldType := match t with
  | 0 => .int
  | 1 => .object "CarSeeds$State"
  | _ => .boolean
theorem kak_0 : kak 0 = .int := rfl
theorem kak_2 : kak 2 = .boolean := rfl
def knst : List Cond := [(Jvm.Cond.methodLinkNest "CarSeeds$Road" (11 : Nat) ({ cls := "CarSeeds$Things", name := "<init>", desc := "()V" } : Jvm.MethodName) "CarSeeds"), (Jvm.Cond.methodLinkNest "CarSeeds$Road" (20 : Nat) ({ cls := "CarSeeds$State", name := "<init>", desc := "()V" } : Jvm.MethodName) "CarSeeds"), (Jvm.Cond.methodLinkNest "CarSeeds$State" (11 : Nat) ({ cls := "CarSeeds$Cars", name := "<init>", desc := "()V" } : Jvm.MethodName) "CarSeeds"), (Jvm.Cond.methodLinkNest "CarSeeds$State" (20 : Nat) ({ cls := "CarSeeds$Rows", name := "<init>", desc := "()V" } : Jvm.MethodName) "CarSeeds"), (Jvm.Cond.methodLinkNest "CarSeeds" (162 : Nat) ({ cls := "CarSeeds$State", name := "<init>", desc := "()V" } : Jvm.MethodName) "CarSeeds")]
def kao : List String := ["CarSeeds$State"]
theorem kf_in0 : ∀ w ∈ u_ws "CarSeeds" kF0 7, w ∈ ktb := by
  intro w hw
  obtain ⟨k, hk, rfl⟩ := List.mem_map.mp hw
  have hk := List.mem_range.mp hk
  match k, hk with
  | 0, _ => exact ktb_at 291 (by decide +kernel) (by decide +kernel)
  | 1, _ => exact ktb_at 293 (by decide +kernel) (by decide +kernel)
  | 2, _ => exact ktb_at 295 (by decide +kernel) (by decide +kernel)
  | 3, _ => exact ktb_at 297 (by decide +kernel) (by decide +kernel)
  | 4, _ => exact ktb_at 299 (by decide +kernel) (by decide +kernel)
  | 5, _ => exact ktb_at 301 (by decide +kernel) (by decide +kernel)
  | 6, _ => exact ktb_at 303 (by decide +kernel) (by decide +kernel)
  | k + 7, h => exact absurd h (by omega)
theorem kf_ty0 : ∀ j, j < 7 → parseFieldDescriptor (kF0 j).2.2.1 = some (kT0 j) := by decide +kernel
theorem kf_df0 : ∀ j, j < 7 → kT0 j ≠ .double ∧ kT0 j ≠ .float := by decide +kernel
theorem kf_nm0 : ∀ a, a < 7 → ∀ b, b < 7 → a ≠ b → (kF0 a).2.1 ≠ (kF0 b).2.1 := by decide +kernel
theorem kf_in1 : ∀ w ∈ u_ws "CarSeeds$Road" kF1 6, w ∈ ktb := by
  intro w hw
  obtain ⟨k, hk, rfl⟩ := List.mem_map.mp hw
  have hk := List.mem_range.mp hk
  match k, hk with
  | 0, _ => exact ktb_at 269 (by decide +kernel) (by decide +kernel)
  | 1, _ => exact ktb_at 271 (by decide +kernel) (by decide +kernel)
  | 2, _ => exact ktb_at 273 (by decide +kernel) (by decide +kernel)
  | 3, _ => exact ktb_at 275 (by decide +kernel) (by decide +kernel)
  | 4, _ => exact ktb_at 277 (by decide +kernel) (by decide +kernel)
  | 5, _ => exact ktb_at 279 (by decide +kernel) (by decide +kernel)
  | k + 6, h => exact absurd h (by omega)
theorem kf_ty1 : ∀ j, j < 6 → parseFieldDescriptor (kF1 j).2.2.1 = some (kT1 j) := by decide +kernel
theorem kf_df1 : ∀ j, j < 6 → kT1 j ≠ .double ∧ kT1 j ≠ .float := by decide +kernel
theorem kf_nm1 : ∀ a, a < 6 → ∀ b, b < 6 → a ≠ b → (kF1 a).2.1 ≠ (kF1 b).2.1 := by decide +kernel
theorem kf_in2 : ∀ w ∈ u_ws "CarSeeds$Things" kF2 14, w ∈ ktb := by
  intro w hw
  obtain ⟨k, hk, rfl⟩ := List.mem_map.mp hw
  have hk := List.mem_range.mp hk
  match k, hk with
  | 0, _ => exact ktb_at 99 (by decide +kernel) (by decide +kernel)
  | 1, _ => exact ktb_at 101 (by decide +kernel) (by decide +kernel)
  | 2, _ => exact ktb_at 103 (by decide +kernel) (by decide +kernel)
  | 3, _ => exact ktb_at 105 (by decide +kernel) (by decide +kernel)
  | 4, _ => exact ktb_at 107 (by decide +kernel) (by decide +kernel)
  | 5, _ => exact ktb_at 109 (by decide +kernel) (by decide +kernel)
  | 6, _ => exact ktb_at 111 (by decide +kernel) (by decide +kernel)
  | 7, _ => exact ktb_at 113 (by decide +kernel) (by decide +kernel)
  | 8, _ => exact ktb_at 115 (by decide +kernel) (by decide +kernel)
  | 9, _ => exact ktb_at 117 (by decide +kernel) (by decide +kernel)
  | 10, _ => exact ktb_at 119 (by decide +kernel) (by decide +kernel)
  | 11, _ => exact ktb_at 121 (by decide +kernel) (by decide +kernel)
  | 12, _ => exact ktb_at 123 (by decide +kernel) (by decide +kernel)
  | 13, _ => exact ktb_at 125 (by decide +kernel) (by decide +kernel)
  | k + 14, h => exact absurd h (by omega)
theorem kf_ty2 : ∀ j, j < 14 → parseFieldDescriptor (kF2 j).2.2.1 = some (kT2 j) := by decide +kernel
theorem kf_df2 : ∀ j, j < 14 → kT2 j ≠ .double ∧ kT2 j ≠ .float := by decide +kernel
theorem kf_nm2 : ∀ a, a < 14 → ∀ b, b < 14 → a ≠ b → (kF2 a).2.1 ≠ (kF2 b).2.1 := by decide +kernel
theorem kf_in3 : ∀ w ∈ u_ws "CarSeeds$State" kF3 8, w ∈ ktb := by
  intro w hw
  obtain ⟨k, hk, rfl⟩ := List.mem_map.mp hw
  have hk := List.mem_range.mp hk
  match k, hk with
  | 0, _ => exact ktb_at 244 (by decide +kernel) (by decide +kernel)
  | 1, _ => exact ktb_at 246 (by decide +kernel) (by decide +kernel)
  | 2, _ => exact ktb_at 248 (by decide +kernel) (by decide +kernel)
  | 3, _ => exact ktb_at 250 (by decide +kernel) (by decide +kernel)
  | 4, _ => exact ktb_at 252 (by decide +kernel) (by decide +kernel)
  | 5, _ => exact ktb_at 254 (by decide +kernel) (by decide +kernel)
  | 6, _ => exact ktb_at 256 (by decide +kernel) (by decide +kernel)
  | 7, _ => exact ktb_at 258 (by decide +kernel) (by decide +kernel)
  | k + 8, h => exact absurd h (by omega)
theorem kf_ty3 : ∀ j, j < 8 → parseFieldDescriptor (kF3 j).2.2.1 = some (kT3 j) := by decide +kernel
theorem kf_df3 : ∀ j, j < 8 → kT3 j ≠ .double ∧ kT3 j ≠ .float := by decide +kernel
theorem kf_nm3 : ∀ a, a < 8 → ∀ b, b < 8 → a ≠ b → (kF3 a).2.1 ≠ (kF3 b).2.1 := by decide +kernel
theorem kf_in4 : ∀ w ∈ u_ws "CarSeeds$Cars" kF4 13, w ∈ ktb := by
  intro w hw
  obtain ⟨k, hk, rfl⟩ := List.mem_map.mp hw
  have hk := List.mem_range.mp hk
  match k, hk with
  | 0, _ => exact ktb_at 179 (by decide +kernel) (by decide +kernel)
  | 1, _ => exact ktb_at 181 (by decide +kernel) (by decide +kernel)
  | 2, _ => exact ktb_at 183 (by decide +kernel) (by decide +kernel)
  | 3, _ => exact ktb_at 185 (by decide +kernel) (by decide +kernel)
  | 4, _ => exact ktb_at 187 (by decide +kernel) (by decide +kernel)
  | 5, _ => exact ktb_at 189 (by decide +kernel) (by decide +kernel)
  | 6, _ => exact ktb_at 191 (by decide +kernel) (by decide +kernel)
  | 7, _ => exact ktb_at 193 (by decide +kernel) (by decide +kernel)
  | 8, _ => exact ktb_at 195 (by decide +kernel) (by decide +kernel)
  | 9, _ => exact ktb_at 197 (by decide +kernel) (by decide +kernel)
  | 10, _ => exact ktb_at 199 (by decide +kernel) (by decide +kernel)
  | 11, _ => exact ktb_at 201 (by decide +kernel) (by decide +kernel)
  | 12, _ => exact ktb_at 203 (by decide +kernel) (by decide +kernel)
  | k + 13, h => exact absurd h (by omega)
theorem kf_ty4 : ∀ j, j < 13 → parseFieldDescriptor (kF4 j).2.2.1 = some (kT4 j) := by decide +kernel
theorem kf_df4 : ∀ j, j < 13 → kT4 j ≠ .double ∧ kT4 j ≠ .float := by decide +kernel
theorem kf_nm4 : ∀ a, a < 13 → ∀ b, b < 13 → a ≠ b → (kF4 a).2.1 ≠ (kF4 b).2.1 := by decide +kernel
theorem kf_in5 : ∀ w ∈ u_ws "CarSeeds$Rows" kF5 2, w ∈ ktb := by
  intro w hw
  obtain ⟨k, hk, rfl⟩ := List.mem_map.mp hw
  have hk := List.mem_range.mp hk
  match k, hk with
  | 0, _ => exact ktb_at 218 (by decide +kernel) (by decide +kernel)
  | 1, _ => exact ktb_at 220 (by decide +kernel) (by decide +kernel)
  | k + 2, h => exact absurd h (by omega)
theorem kf_ty5 : ∀ j, j < 2 → parseFieldDescriptor (kF5 j).2.2.1 = some (kT5 j) := by decide +kernel
theorem kf_df5 : ∀ j, j < 2 → kT5 j ≠ .double ∧ kT5 j ≠ .float := by decide +kernel
theorem kf_nm5 : ∀ a, a < 2 → ∀ b, b < 2 → a ≠ b → (kF5 a).2.1 ≠ (kF5 b).2.1 := by decide +kernel
theorem kf_in6 : ∀ w ∈ u_ws "CarSeedsModel" kF6 20, w ∈ ktb := by
  intro w hw
  obtain ⟨k, hk, rfl⟩ := List.mem_map.mp hw
  have hk := List.mem_range.mp hk
  match k, hk with
  | 0, _ => exact ktb_at 615 (by decide +kernel) (by decide +kernel)
  | 1, _ => exact ktb_at 617 (by decide +kernel) (by decide +kernel)
  | 2, _ => exact ktb_at 619 (by decide +kernel) (by decide +kernel)
  | 3, _ => exact ktb_at 621 (by decide +kernel) (by decide +kernel)
  | 4, _ => exact ktb_at 623 (by decide +kernel) (by decide +kernel)
  | 5, _ => exact ktb_at 625 (by decide +kernel) (by decide +kernel)
  | 6, _ => exact ktb_at 627 (by decide +kernel) (by decide +kernel)
  | 7, _ => exact ktb_at 629 (by decide +kernel) (by decide +kernel)
  | 8, _ => exact ktb_at 631 (by decide +kernel) (by decide +kernel)
  | 9, _ => exact ktb_at 633 (by decide +kernel) (by decide +kernel)
  | 10, _ => exact ktb_at 635 (by decide +kernel) (by decide +kernel)
  | 11, _ => exact ktb_at 637 (by decide +kernel) (by decide +kernel)
  | 12, _ => exact ktb_at 639 (by decide +kernel) (by decide +kernel)
  | 13, _ => exact ktb_at 641 (by decide +kernel) (by decide +kernel)
  | 14, _ => exact ktb_at 643 (by decide +kernel) (by decide +kernel)
  | 15, _ => exact ktb_at 645 (by decide +kernel) (by decide +kernel)
  | 16, _ => exact ktb_at 647 (by decide +kernel) (by decide +kernel)
  | 17, _ => exact ktb_at 649 (by decide +kernel) (by decide +kernel)
  | 18, _ => exact ktb_at 651 (by decide +kernel) (by decide +kernel)
  | 19, _ => exact ktb_at 653 (by decide +kernel) (by decide +kernel)
  | k + 20, h => exact absurd h (by omega)
theorem kf_ty6 : ∀ j, j < 20 → parseFieldDescriptor (kF6 j).2.2.1 = some (kT6 j) := by decide +kernel
theorem kf_df6 : ∀ j, j < 20 → kT6 j ≠ .double ∧ kT6 j ≠ .float := by decide +kernel
theorem kf_nm6 : ∀ a, a < 20 → ∀ b, b < 20 → a ≠ b → (kF6 a).2.1 ≠ (kF6 b).2.1 := by decide +kernel
theorem kf_in {c : Nat} {q : vw_C} (h : kcl[c]? = some q) : ∀ w ∈ u_ws q.1 q.2.1 q.2.2, w ∈ ktb := by
  match c, h with
  | 0, h => cases h; exact kf_in0
  | 1, h => cases h; exact kf_in1
  | 2, h => cases h; exact kf_in2
  | 3, h => cases h; exact kf_in3
  | 4, h => cases h; exact kf_in4
  | 5, h => cases h; exact kf_in5
  | 6, h => cases h; exact kf_in6
  | c + 7, h => cases h
theorem kf_ty {c : Nat} {q : vw_C} (h : kcl[c]? = some q) : ∀ j, j < q.2.2 → parseFieldDescriptor (q.2.1 j).2.2.1 = some (ktyp c j) := by
  match c, h with
  | 0, h => cases h; exact kf_ty0
  | 1, h => cases h; exact kf_ty1
  | 2, h => cases h; exact kf_ty2
  | 3, h => cases h; exact kf_ty3
  | 4, h => cases h; exact kf_ty4
  | 5, h => cases h; exact kf_ty5
  | 6, h => cases h; exact kf_ty6
  | c + 7, h => cases h
theorem kf_df {c : Nat} {q : vw_C} (h : kcl[c]? = some q) : ∀ j, j < q.2.2 → ktyp c j ≠ .double ∧ ktyp c j ≠ .float := by
  match c, h with
  | 0, h => cases h; exact kf_df0
  | 1, h => cases h; exact kf_df1
  | 2, h => cases h; exact kf_df2
  | 3, h => cases h; exact kf_df3
  | 4, h => cases h; exact kf_df4
  | 5, h => cases h; exact kf_df5
  | 6, h => cases h; exact kf_df6
  | c + 7, h => cases h
theorem kf_nm {c : Nat} {q : vw_C} (h : kcl[c]? = some q) : ∀ a, a < q.2.2 → ∀ b, b < q.2.2 → a ≠ b → (q.2.1 a).2.1 ≠ (q.2.1 b).2.1 := by
  match c, h with
  | 0, h => cases h; exact kf_nm0
  | 1, h => cases h; exact kf_nm1
  | 2, h => cases h; exact kf_nm2
  | 3, h => cases h; exact kf_nm3
  | 4, h => cases h; exact kf_nm4
  | 5, h => cases h; exact kf_nm5
  | 6, h => cases h; exact kf_nm6
  | c + 7, h => cases h
theorem knst_tab : ∀ w ∈ knst, w.onTables = true := by decide +kernel
theorem knst_moved {s U : State} (hW : s.WarmedH U.vm) : ∀ w ∈ knst, va_Nw w s → va_Nw w U := by
  intro w hw hs
  simp only [knst, List.mem_cons, List.not_mem_nil, or_false] at hw
  rcases hw with rfl | rfl | rfl | rfl | rfl <;> exact va_Nw.warmM hW hs
abbrev M_C_init : MI := (⟨"CarSeeds", "<init>", "(JII)V"⟩, prog_1_method_1_code, 5, none)
set_option maxRecDepth 100000 in
theorem kc_C_init : Cond.code M_C_init.1 M_C_init.2.1 M_C_init.2.2.1 M_C_init.2.2.2 ∈ ktb := ktb_at 53 rfl rfl
abbrev M_C_back : MI := (⟨"CarSeeds", "back", "(I)I"⟩, prog_1_method_17_code, 2, (some FieldType.int))
set_option maxRecDepth 100000 in
theorem kc_C_back : Cond.code M_C_back.1 M_C_back.2.1 M_C_back.2.2.1 M_C_back.2.2.2 ∈ ktb := ktb_at 576 rfl rfl
abbrev M_C_close : MI := (⟨"CarSeeds", "close", "(IIII)Z"⟩, prog_1_method_4_code, 5, (some FieldType.boolean))
set_option maxRecDepth 100000 in
theorem kc_C_close : Cond.code M_C_close.1 M_C_close.2.1 M_C_close.2.2.1 M_C_close.2.2.2 ∈ ktb := ktb_at 348 rfl rfl
abbrev M_C_come : MI := (⟨"CarSeeds", "come", "(II)I"⟩, prog_1_method_2_code, 3, (some FieldType.int))
set_option maxRecDepth 100000 in
theorem kc_C_come : Cond.code M_C_come.1 M_C_come.2.1 M_C_come.2.2.1 M_C_come.2.2.2 ∈ ktb := ktb_at 309 rfl rfl
abbrev M_C_count : MI := (⟨"CarSeeds", "count", "(I)I"⟩, prog_1_method_18_code, 2, (some FieldType.int))
set_option maxRecDepth 100000 in
theorem kc_C_count : Cond.code M_C_count.1 M_C_count.2.1 M_C_count.2.2.1 M_C_count.2.2.2 ∈ ktb := ktb_at 580 rfl rfl
abbrev M_C_counted : MI := (⟨"CarSeeds", "counted", "(II)I"⟩, prog_1_method_11_code, 3, (some FieldType.int))
set_option maxRecDepth 100000 in
theorem kc_C_counted : Cond.code M_C_counted.1 M_C_counted.2.1 M_C_counted.2.2.1 M_C_counted.2.2.2 ∈ ktb := ktb_at 516 rfl rfl
abbrev M_C_drawn : MI := (⟨"CarSeeds", "drawn", "(II)I"⟩, prog_1_method_9_code, 3, (some FieldType.int))
set_option maxRecDepth 100000 in
theorem kc_C_drawn : Cond.code M_C_drawn.1 M_C_drawn.2.1 M_C_drawn.2.2.1 M_C_drawn.2.2.2 ∈ ktb := ktb_at 506 rfl rfl
abbrev M_C_gap : MI := (⟨"CarSeeds", "gap", "(I)I"⟩, prog_1_method_10_code, 3, (some FieldType.int))
set_option maxRecDepth 100000 in
theorem kc_C_gap : Cond.code M_C_gap.1 M_C_gap.2.1 M_C_gap.2.2.1 M_C_gap.2.2.2 ∈ ktb := ktb_at 510 rfl rfl
abbrev M_C_isCar : MI := (⟨"CarSeeds", "isCar", "(I)Z"⟩, prog_1_method_21_code, 2, (some FieldType.boolean))
set_option maxRecDepth 100000 in
theorem kc_C_isCar : Cond.code M_C_isCar.1 M_C_isCar.2.1 M_C_isCar.2.2.1 M_C_isCar.2.2.2 ∈ ktb := ktb_at 502 rfl rfl
abbrev M_C_isLane : MI := (⟨"CarSeeds", "isLane", "(I)Z"⟩, prog_1_method_19_code, 2, (some FieldType.boolean))
set_option maxRecDepth 100000 in
theorem kc_C_isLane : Cond.code M_C_isLane.1 M_C_isLane.2.1 M_C_isLane.2.2.1 M_C_isLane.2.2.2 ∈ ktb := ktb_at 313 rfl rfl
abbrev M_C_isPlace : MI := (⟨"CarSeeds", "isPlace", "(I)Z"⟩, prog_1_method_20_code, 2, (some FieldType.boolean))
set_option maxRecDepth 100000 in
theorem kc_C_isPlace : Cond.code M_C_isPlace.1 M_C_isPlace.2.1 M_C_isPlace.2.2.1 M_C_isPlace.2.2.2 ∈ ktb := ktb_at 340 rfl rfl
abbrev M_C_light : MI := (⟨"CarSeeds", "light", "(III)Z"⟩, prog_1_method_3_code, 4, (some FieldType.boolean))
set_option maxRecDepth 100000 in
theorem kc_C_light : Cond.code M_C_light.1 M_C_light.2.1 M_C_light.2.2.1 M_C_light.2.2.2 ∈ ktb := ktb_at 336 rfl rfl
abbrev M_C_line : MI := (⟨"CarSeeds", "line", "(I)I"⟩, prog_1_method_6_code, 2, (some FieldType.int))
set_option maxRecDepth 100000 in
theorem kc_C_line : Cond.code M_C_line.1 M_C_line.2.1 M_C_line.2.2.1 M_C_line.2.2.2 ∈ ktb := ktb_at 364 rfl rfl
abbrev M_C_many : MI := (⟨"CarSeeds", "many", "(I)I"⟩, prog_1_method_13_code, 2, (some FieldType.int))
set_option maxRecDepth 100000 in
theorem kc_C_many : Cond.code M_C_many.1 M_C_many.2.1 M_C_many.2.2.1 M_C_many.2.2.2 ∈ ktb := ktb_at 528 rfl rfl
abbrev M_C_ordered : MI := (⟨"CarSeeds", "ordered", "()Z"⟩, prog_1_method_15_code, 1, (some FieldType.boolean))
set_option maxRecDepth 100000 in
theorem kc_C_ordered : Cond.code M_C_ordered.1 M_C_ordered.2.1 M_C_ordered.2.2.1 M_C_ordered.2.2.2 ∈ ktb := ktb_at 541 rfl rfl
abbrev M_C_run : MI := (⟨"CarSeeds", "run", "(I)I"⟩, prog_1_method_7_code, 3, (some FieldType.int))
set_option maxRecDepth 100000 in
theorem kc_C_run : Cond.code M_C_run.1 M_C_run.2.1 M_C_run.2.2.1 M_C_run.2.2.2 ∈ ktb := ktb_at 372 rfl rfl
abbrev M_C_save : MI := (⟨"CarSeeds", "save", "(I)I"⟩, prog_1_method_16_code, 2, (some FieldType.int))
set_option maxRecDepth 100000 in
theorem kc_C_save : Cond.code M_C_save.1 M_C_save.2.1 M_C_save.2.2.1 M_C_save.2.2.2 ∈ ktb := ktb_at 554 rfl rfl
abbrev M_C_stop : MI := (⟨"CarSeeds", "stop", "(II)Z"⟩, prog_1_method_5_code, 3, (some FieldType.boolean))
set_option maxRecDepth 100000 in
theorem kc_C_stop : Cond.code M_C_stop.1 M_C_stop.2.1 M_C_stop.2.2.1 M_C_stop.2.2.2 ∈ ktb := ktb_at 356 rfl rfl
abbrev M_C_times : MI := (⟨"CarSeeds", "times", "()I"⟩, prog_1_method_12_code, 1, (some FieldType.int))
set_option maxRecDepth 100000 in
theorem kc_C_times : Cond.code M_C_times.1 M_C_times.2.1 M_C_times.2.2.1 M_C_times.2.2.2 ∈ ktb := ktb_at 520 rfl rfl
abbrev M_C_told : MI := (⟨"CarSeeds", "told", "(II)I"⟩, prog_1_method_8_code, 3, (some FieldType.int))
set_option maxRecDepth 100000 in
theorem kc_C_told : Cond.code M_C_told.1 M_C_told.2.1 M_C_told.2.2.1 M_C_told.2.2.2 ∈ ktb := ktb_at 498 rfl rfl
abbrev M_C_waiting : MI := (⟨"CarSeeds", "waiting", "(I)I"⟩, prog_1_method_14_code, 2, (some FieldType.int))
set_option maxRecDepth 100000 in
theorem kc_C_waiting : Cond.code M_C_waiting.1 M_C_waiting.2.1 M_C_waiting.2.2.1 M_C_waiting.2.2.2 ∈ ktb := ktb_at 532 rfl rfl
abbrev M_Cars_init : MI := (⟨"CarSeeds$Cars", "<init>", "()V"⟩, prog_2_method_1_code, 1, none)
set_option maxRecDepth 100000 in
theorem kc_Cars_init : Cond.code M_Cars_init.1 M_Cars_init.2.1 M_Cars_init.2.2.1 M_Cars_init.2.2.2 ∈ ktb := ktb_at 139 rfl rfl
abbrev M_Cars_add : MI := (⟨"CarSeeds$Cars", "add", "(JII)I"⟩, prog_2_method_2_code, 6, (some FieldType.int))
set_option maxRecDepth 100000 in
theorem kc_Cars_add : Cond.code M_Cars_add.1 M_Cars_add.2.1 M_Cars_add.2.2.1 M_Cars_add.2.2.2 ∈ ktb := ktb_at 317 rfl rfl
abbrev M_Cars_copyFrom : MI := (⟨"CarSeeds$Cars", "copyFrom", "(LCarSeeds$Cars;)V"⟩, prog_2_method_13_code, 2, none)
set_option maxRecDepth 100000 in
theorem kc_Cars_copyFrom : Cond.code M_Cars_copyFrom.1 M_Cars_copyFrom.2.1 M_Cars_copyFrom.2.2.1 M_Cars_copyFrom.2.2.2 ∈ ktb := ktb_at 563 rfl rfl
abbrev M_Cars_draw : MI := (⟨"CarSeeds$Cars", "draw", "(JI)V"⟩, prog_2_method_3_code, 7, none)
set_option maxRecDepth 100000 in
theorem kc_Cars_draw : Cond.code M_Cars_draw.1 M_Cars_draw.2.1 M_Cars_draw.2.2.1 M_Cars_draw.2.2.2 ∈ ktb := ktb_at 321 rfl rfl
abbrev M_Cars_haveNoPlaceInCommon : MI := (⟨"CarSeeds$Cars", "haveNoPlaceInCommon", "()Z"⟩, prog_2_method_11_code, 3, (some FieldType.boolean))
set_option maxRecDepth 100000 in
theorem kc_Cars_haveNoPlaceInCommon : Cond.code M_Cars_haveNoPlaceInCommon.1 M_Cars_haveNoPlaceInCommon.2.1 M_Cars_haveNoPlaceInCommon.2.2.1 M_Cars_haveNoPlaceInCommon.2.2.2 ∈ ktb := ktb_at 545 rfl rfl
abbrev M_Cars_highPart : MI := (⟨"CarSeeds$Cars", "highPart", "(J)I"⟩, prog_2_method_5_code, 2, (some FieldType.int))
set_option maxRecDepth 100000 in
theorem kc_Cars_highPart : Cond.code M_Cars_highPart.1 M_Cars_highPart.2.1 M_Cars_highPart.2.2.1 M_Cars_highPart.2.2.2 ∈ ktb := ktb_at 331 rfl rfl
abbrev M_Cars_meet : MI := (⟨"CarSeeds$Cars", "meet", "(II)Z"⟩, prog_2_method_12_code, 3, (some FieldType.boolean))
set_option maxRecDepth 100000 in
theorem kc_Cars_meet : Cond.code M_Cars_meet.1 M_Cars_meet.2.1 M_Cars_meet.2.2.1 M_Cars_meet.2.2.2 ∈ ktb := ktb_at 549 rfl rfl
abbrev M_Cars_nextDraw : MI := (⟨"CarSeeds$Cars", "nextDraw", "(J)J"⟩, prog_2_method_4_code, 2, (some FieldType.long))
set_option maxRecDepth 100000 in
theorem kc_Cars_nextDraw : Cond.code M_Cars_nextDraw.1 M_Cars_nextDraw.2.1 M_Cars_nextDraw.2.2.1 M_Cars_nextDraw.2.2.2 ∈ ktb := ktb_at 325 rfl rfl
abbrev M_Cars_rear : MI := (⟨"CarSeeds$Cars", "rear", "(I)I"⟩, prog_2_method_6_code, 2, (some FieldType.int))
set_option maxRecDepth 100000 in
theorem kc_Cars_rear : Cond.code M_Cars_rear.1 M_Cars_rear.2.1 M_Cars_rear.2.2.1 M_Cars_rear.2.2.2 ∈ ktb := ktb_at 404 rfl rfl
abbrev M_Cars_sizeOf : MI := (⟨"CarSeeds$Cars", "sizeOf", "(I)I"⟩, prog_2_method_7_code, 4, (some FieldType.int))
set_option maxRecDepth 100000 in
theorem kc_Cars_sizeOf : Cond.code M_Cars_sizeOf.1 M_Cars_sizeOf.2.1 M_Cars_sizeOf.2.2.1 M_Cars_sizeOf.2.2.2 ∈ ktb := ktb_at 584 rfl rfl
abbrev M_Cars_stepsOfGone : MI := (⟨"CarSeeds$Cars", "stepsOfGone", "()I"⟩, prog_2_method_10_code, 3, (some FieldType.int))
set_option maxRecDepth 100000 in
theorem kc_Cars_stepsOfGone : Cond.code M_Cars_stepsOfGone.1 M_Cars_stepsOfGone.2.1 M_Cars_stepsOfGone.2.2.1 M_Cars_stepsOfGone.2.2.2 ∈ ktb := ktb_at 524 rfl rfl
abbrev M_Cars_waitersFor : MI := (⟨"CarSeeds$Cars", "waitersFor", "(I)I"⟩, prog_2_method_8_code, 4, (some FieldType.int))
set_option maxRecDepth 100000 in
theorem kc_Cars_waitersFor : Cond.code M_Cars_waitersFor.1 M_Cars_waitersFor.2.1 M_Cars_waitersFor.2.2.1 M_Cars_waitersFor.2.2.2 ∈ ktb := ktb_at 536 rfl rfl
abbrev M_Cars_waitsFor : MI := (⟨"CarSeeds$Cars", "waitsFor", "(II)Z"⟩, prog_2_method_9_code, 3, (some FieldType.boolean))
set_option maxRecDepth 100000 in
theorem kc_Cars_waitsFor : Cond.code M_Cars_waitsFor.1 M_Cars_waitsFor.2.1 M_Cars_waitsFor.2.2.1 M_Cars_waitsFor.2.2.2 ∈ ktb := ktb_at 384 rfl rfl
abbrev M_Road_init : MI := (⟨"CarSeeds$Road", "<init>", "(II)V"⟩, prog_3_method_1_code, 3, none)
set_option maxRecDepth 100000 in
theorem kc_Road_init : Cond.code M_Road_init.1 M_Road_init.2.1 M_Road_init.2.2.1 M_Road_init.2.2.2 ∈ ktb := ktb_at 68 rfl rfl
abbrev M_Road_allowedBy : MI := (⟨"CarSeeds$Road", "allowedBy", "(I)I"⟩, prog_3_method_7_code, 1, (some FieldType.int))
set_option maxRecDepth 100000 in
theorem kc_Road_allowedBy : Cond.code M_Road_allowedBy.1 M_Road_allowedBy.2.1 M_Road_allowedBy.2.2.1 M_Road_allowedBy.2.2.2 ∈ ktb := ktb_at 437 rfl rfl
abbrev M_Road_changeTo : MI := (⟨"CarSeeds$Road", "changeTo", "(III)V"⟩, prog_3_method_14_code, 4, none)
set_option maxRecDepth 100000 in
theorem kc_Road_changeTo : Cond.code M_Road_changeTo.1 M_Road_changeTo.2.1 M_Road_changeTo.2.2.1 M_Road_changeTo.2.2.2 ∈ ktb := ktb_at 462 rfl rfl
abbrev M_Road_doStep : MI := (⟨"CarSeeds$Road", "doStep", "()V"⟩, prog_3_method_3_code, 2, none)
set_option maxRecDepth 100000 in
theorem kc_Road_doStep : Cond.code M_Road_doStep.1 M_Road_doStep.2.1 M_Road_doStep.2.2.1 M_Road_doStep.2.2.2 ∈ ktb := ktb_at 388 rfl rfl
abbrev M_Road_findNearMisses : MI := (⟨"CarSeeds$Road", "findNearMisses", "(I)V"⟩, prog_3_method_21_code, 7, none)
set_option maxRecDepth 100000 in
theorem kc_Road_findNearMisses : Cond.code M_Road_findNearMisses.1 M_Road_findNearMisses.2.1 M_Road_findNearMisses.2.2.1 M_Road_findNearMisses.2.2.2 ∈ ktb := ktb_at 494 rfl rfl
abbrev M_Road_gapIn : MI := (⟨"CarSeeds$Road", "gapIn", "(III)I"⟩, prog_3_method_4_code, 6, (some FieldType.int))
set_option maxRecDepth 100000 in
theorem kc_Road_gapIn : Cond.code M_Road_gapIn.1 M_Road_gapIn.2.1 M_Road_gapIn.2.2.1 M_Road_gapIn.2.2.2 ∈ ktb := ktb_at 412 rfl rfl
abbrev M_Road_hasRoom : MI := (⟨"CarSeeds$Road", "hasRoom", "(II)Z"⟩, prog_3_method_9_code, 4, (some FieldType.boolean))
set_option maxRecDepth 100000 in
theorem kc_Road_hasRoom : Cond.code M_Road_hasRoom.1 M_Road_hasRoom.2.1 M_Road_hasRoom.2.2.1 M_Road_hasRoom.2.2.2 ∈ ktb := ktb_at 396 rfl rfl
abbrev M_Road_isBetter : MI := (⟨"CarSeeds$Road", "isBetter", "(III)Z"⟩, prog_3_method_11_code, 5, (some FieldType.boolean))
set_option maxRecDepth 100000 in
theorem kc_Road_isBetter : Cond.code M_Road_isBetter.1 M_Road_isBetter.2.1 M_Road_isBetter.2.2.1 M_Road_isBetter.2.2.2 ∈ ktb := ktb_at 450 rfl rfl
abbrev M_Road_isFreeBefore : MI := (⟨"CarSeeds$Road", "isFreeBefore", "(III)Z"⟩, prog_3_method_12_code, 5, (some FieldType.boolean))
set_option maxRecDepth 100000 in
theorem kc_Road_isFreeBefore : Cond.code M_Road_isFreeBefore.1 M_Road_isFreeBefore.2.1 M_Road_isFreeBefore.2.2.1 M_Road_isFreeBefore.2.2.2 ∈ ktb := ktb_at 454 rfl rfl
abbrev M_Road_isFreeBehind : MI := (⟨"CarSeeds$Road", "isFreeBehind", "(III)Z"⟩, prog_3_method_13_code, 8, (some FieldType.boolean))
set_option maxRecDepth 100000 in
theorem kc_Road_isFreeBehind : Cond.code M_Road_isFreeBehind.1 M_Road_isFreeBehind.2.1 M_Road_isFreeBehind.2.2.1 M_Road_isFreeBehind.2.2.2 ∈ ktb := ktb_at 458 rfl rfl
abbrev M_Road_isIdle : MI := (⟨"CarSeeds$Road", "isIdle", "()Z"⟩, prog_3_method_2_code, 2, (some FieldType.boolean))
set_option maxRecDepth 100000 in
theorem kc_Road_isIdle : Cond.code M_Road_isIdle.1 M_Road_isIdle.2.1 M_Road_isIdle.2.2.1 M_Road_isIdle.2.2.2 ∈ ktb := ktb_at 376 rfl rfl
abbrev M_Road_isServed : MI := (⟨"CarSeeds$Road", "isServed", "(II)Z"⟩, prog_3_method_6_code, 3, (some FieldType.boolean))
set_option maxRecDepth 100000 in
theorem kc_Road_isServed : Cond.code M_Road_isServed.1 M_Road_isServed.2.1 M_Road_isServed.2.2.1 M_Road_isServed.2.2.2 ∈ ktb := ktb_at 434 rfl rfl
abbrev M_Road_letIn : MI := (⟨"CarSeeds$Road", "letIn", "(I)V"⟩, prog_3_method_8_code, 4, none)
set_option maxRecDepth 100000 in
theorem kc_Road_letIn : Cond.code M_Road_letIn.1 M_Road_letIn.2.1 M_Road_letIn.2.2.1 M_Road_letIn.2.2.2 ∈ ktb := ktb_at 392 rfl rfl
abbrev M_Road_letOut : MI := (⟨"CarSeeds$Road", "letOut", "(I)V"⟩, prog_3_method_20_code, 4, none)
set_option maxRecDepth 100000 in
theorem kc_Road_letOut : Cond.code M_Road_letOut.1 M_Road_letOut.2.1 M_Road_letOut.2.2.1 M_Road_letOut.2.2.2 ∈ ktb := ktb_at 490 rfl rfl
abbrev M_Road_lookAround : MI := (⟨"CarSeeds$Road", "lookAround", "(I)V"⟩, prog_3_method_10_code, 5, none)
set_option maxRecDepth 100000 in
theorem kc_Road_lookAround : Cond.code M_Road_lookAround.1 M_Road_lookAround.2.1 M_Road_lookAround.2.2.1 M_Road_lookAround.2.2.2 ∈ ktb := ktb_at 442 rfl rfl
abbrev M_Road_makeSpeeds : MI := (⟨"CarSeeds$Road", "makeSpeeds", "(I)V"⟩, prog_3_method_15_code, 7, none)
set_option maxRecDepth 100000 in
theorem kc_Road_makeSpeeds : Cond.code M_Road_makeSpeeds.1 M_Road_makeSpeeds.2.1 M_Road_makeSpeeds.2.2.1 M_Road_makeSpeeds.2.2.2 ∈ ktb := ktb_at 470 rfl rfl
abbrev M_Road_moveAll : MI := (⟨"CarSeeds$Road", "moveAll", "(I)V"⟩, prog_3_method_17_code, 6, none)
set_option maxRecDepth 100000 in
theorem kc_Road_moveAll : Cond.code M_Road_moveAll.1 M_Road_moveAll.2.1 M_Road_moveAll.2.2.1 M_Road_moveAll.2.2.2 ∈ ktb := ktb_at 478 rfl rfl
abbrev M_Road_nearestStop : MI := (⟨"CarSeeds$Road", "nearestStop", "(II)I"⟩, prog_3_method_5_code, 6, (some FieldType.int))
set_option maxRecDepth 100000 in
theorem kc_Road_nearestStop : Cond.code M_Road_nearestStop.1 M_Road_nearestStop.2.1 M_Road_nearestStop.2.2.1 M_Road_nearestStop.2.2.2 ∈ ktb := ktb_at 430 rfl rfl
abbrev M_Road_passLines : MI := (⟨"CarSeeds$Road", "passLines", "(III)V"⟩, prog_3_method_18_code, 6, none)
set_option maxRecDepth 100000 in
theorem kc_Road_passLines : Cond.code M_Road_passLines.1 M_Road_passLines.2.1 M_Road_passLines.2.2.1 M_Road_passLines.2.2.2 ∈ ktb := ktb_at 482 rfl rfl
abbrev M_Road_standAtStops : MI := (⟨"CarSeeds$Road", "standAtStops", "(I)V"⟩, prog_3_method_19_code, 4, none)
set_option maxRecDepth 100000 in
theorem kc_Road_standAtStops : Cond.code M_Road_standAtStops.1 M_Road_standAtStops.2.1 M_Road_standAtStops.2.2.1 M_Road_standAtStops.2.2.2 ∈ ktb := ktb_at 486 rfl rfl
abbrev M_Road_wishedSpeed : MI := (⟨"CarSeeds$Road", "wishedSpeed", "(I)I"⟩, prog_3_method_16_code, 4, (some FieldType.int))
set_option maxRecDepth 100000 in
theorem kc_Road_wishedSpeed : Cond.code M_Road_wishedSpeed.1 M_Road_wishedSpeed.2.1 M_Road_wishedSpeed.2.2.1 M_Road_wishedSpeed.2.2.2 ∈ ktb := ktb_at 474 rfl rfl
abbrev M_Rows_init : MI := (⟨"CarSeeds$Rows", "<init>", "()V"⟩, prog_4_method_1_code, 1, none)
set_option maxRecDepth 100000 in
theorem kc_Rows_init : Cond.code M_Rows_init.1 M_Rows_init.2.1 M_Rows_init.2.2.1 M_Rows_init.2.2.2 ∈ ktb := ktb_at 210 rfl rfl
abbrev M_Rows_carAt : MI := (⟨"CarSeeds$Rows", "carAt", "(II)I"⟩, prog_4_method_2_code, 3, (some FieldType.int))
set_option maxRecDepth 100000 in
theorem kc_Rows_carAt : Cond.code M_Rows_carAt.1 M_Rows_carAt.2.1 M_Rows_carAt.2.2.1 M_Rows_carAt.2.2.2 ∈ ktb := ktb_at 400 rfl rfl
abbrev M_Rows_copyFrom : MI := (⟨"CarSeeds$Rows", "copyFrom", "(LCarSeeds$Rows;)V"⟩, prog_4_method_5_code, 2, none)
set_option maxRecDepth 100000 in
theorem kc_Rows_copyFrom : Cond.code M_Rows_copyFrom.1 M_Rows_copyFrom.2.1 M_Rows_copyFrom.2.2.1 M_Rows_copyFrom.2.2.2 ∈ ktb := ktb_at 570 rfl rfl
abbrev M_Rows_insert : MI := (⟨"CarSeeds$Rows", "insert", "(III)V"⟩, prog_4_method_3_code, 6, none)
set_option maxRecDepth 100000 in
theorem kc_Rows_insert : Cond.code M_Rows_insert.1 M_Rows_insert.2.1 M_Rows_insert.2.2.1 M_Rows_insert.2.2.2 ∈ ktb := ktb_at 408 rfl rfl
abbrev M_Rows_remove : MI := (⟨"CarSeeds$Rows", "remove", "(II)V"⟩, prog_4_method_4_code, 5, none)
set_option maxRecDepth 100000 in
theorem kc_Rows_remove : Cond.code M_Rows_remove.1 M_Rows_remove.2.1 M_Rows_remove.2.2.1 M_Rows_remove.2.2.2 ∈ ktb := ktb_at 466 rfl rfl
abbrev M_State_init : MI := (⟨"CarSeeds$State", "<init>", "()V"⟩, prog_5_method_1_code, 1, none)
set_option maxRecDepth 100000 in
theorem kc_State_init : Cond.code M_State_init.1 M_State_init.2.1 M_State_init.2.2.1 M_State_init.2.2.2 ∈ ktb := ktb_at 133 rfl rfl
abbrev M_State_copyFrom : MI := (⟨"CarSeeds$State", "copyFrom", "(LCarSeeds$State;)V"⟩, prog_5_method_4_code, 2, none)
set_option maxRecDepth 100000 in
theorem kc_State_copyFrom : Cond.code M_State_copyFrom.1 M_State_copyFrom.2.1 M_State_copyFrom.2.2.1 M_State_copyFrom.2.2.2 ∈ ktb := ktb_at 559 rfl rfl
abbrev M_State_longestWaiter : MI := (⟨"CarSeeds$State", "longestWaiter", "(I)I"⟩, prog_5_method_3_code, 3, (some FieldType.int))
set_option maxRecDepth 100000 in
theorem kc_State_longestWaiter : Cond.code M_State_longestWaiter.1 M_State_longestWaiter.2.1 M_State_longestWaiter.2.2.1 M_State_longestWaiter.2.2.2 ∈ ktb := ktb_at 380 rfl rfl
abbrev M_State_rankFor : MI := (⟨"CarSeeds$State", "rankFor", "(II)I"⟩, prog_5_method_2_code, 5, (some FieldType.int))
set_option maxRecDepth 100000 in
theorem kc_State_rankFor : Cond.code M_State_rankFor.1 M_State_rankFor.2.1 M_State_rankFor.2.2.1 M_State_rankFor.2.2.2 ∈ ktb := ktb_at 446 rfl rfl
abbrev M_Things_init : MI := (⟨"CarSeeds$Things", "<init>", "()V"⟩, prog_6_method_1_code, 1, none)
set_option maxRecDepth 100000 in
theorem kc_Things_init : Cond.code M_Things_init.1 M_Things_init.2.1 M_Things_init.2.2.1 M_Things_init.2.2.2 ∈ ktb := ktb_at 74 rfl rfl
abbrev M_Things_addClosed : MI := (⟨"CarSeeds$Things", "addClosed", "(IIII)Z"⟩, prog_6_method_3_code, 5, (some FieldType.boolean))
set_option maxRecDepth 100000 in
theorem kc_Things_addClosed : Cond.code M_Things_addClosed.1 M_Things_addClosed.2.1 M_Things_addClosed.2.2.1 M_Things_addClosed.2.2.2 ∈ ktb := ktb_at 352 rfl rfl
abbrev M_Things_addLight : MI := (⟨"CarSeeds$Things", "addLight", "(III)Z"⟩, prog_6_method_2_code, 4, (some FieldType.boolean))
set_option maxRecDepth 100000 in
theorem kc_Things_addLight : Cond.code M_Things_addLight.1 M_Things_addLight.2.1 M_Things_addLight.2.2.1 M_Things_addLight.2.2.2 ∈ ktb := ktb_at 344 rfl rfl
abbrev M_Things_addLine : MI := (⟨"CarSeeds$Things", "addLine", "(I)I"⟩, prog_6_method_5_code, 2, (some FieldType.int))
set_option maxRecDepth 100000 in
theorem kc_Things_addLine : Cond.code M_Things_addLine.1 M_Things_addLine.2.1 M_Things_addLine.2.2.1 M_Things_addLine.2.2.2 ∈ ktb := ktb_at 368 rfl rfl
abbrev M_Things_addStop : MI := (⟨"CarSeeds$Things", "addStop", "(II)Z"⟩, prog_6_method_4_code, 3, (some FieldType.boolean))
set_option maxRecDepth 100000 in
theorem kc_Things_addStop : Cond.code M_Things_addStop.1 M_Things_addStop.2.1 M_Things_addStop.2.2.1 M_Things_addStop.2.2.2 ∈ ktb := ktb_at 360 rfl rfl
abbrev M_Things_isClosed : MI := (⟨"CarSeeds$Things", "isClosed", "(III)Z"⟩, prog_6_method_8_code, 4, (some FieldType.boolean))
set_option maxRecDepth 100000 in
theorem kc_Things_isClosed : Cond.code M_Things_isClosed.1 M_Things_isClosed.2.1 M_Things_isClosed.2.2.1 M_Things_isClosed.2.2.2 ∈ ktb := ktb_at 426 rfl rfl
abbrev M_Things_isRed : MI := (⟨"CarSeeds$Things", "isRed", "(II)Z"⟩, prog_6_method_7_code, 4, (some FieldType.boolean))
set_option maxRecDepth 100000 in
theorem kc_Things_isRed : Cond.code M_Things_isRed.1 M_Things_isRed.2.1 M_Things_isRed.2.2.1 M_Things_isRed.2.2.2 ∈ ktb := ktb_at 422 rfl rfl
abbrev M_Things_nearestForAll : MI := (⟨"CarSeeds$Things", "nearestForAll", "(IIII)I"⟩, prog_6_method_6_code, 8, (some FieldType.int))
set_option maxRecDepth 100000 in
theorem kc_Things_nearestForAll : Cond.code M_Things_nearestForAll.1 M_Things_nearestForAll.2.1 M_Things_nearestForAll.2.2.1 M_Things_nearestForAll.2.2.2 ∈ ktb := ktb_at 418 rfl rfl
abbrev M_L_cell : MI := (⟨"CarSeedsLaw", "cell", "([II)I"⟩, method_2_code, 2, (some FieldType.int))
set_option maxRecDepth 100000 in
theorem kc_L_cell : Cond.code M_L_cell.1 M_L_cell.2.1 M_L_cell.2.2.1 M_L_cell.2.2.2 ∈ ktb := ktb_at 587 rfl rfl
abbrev M_L_law : MI := (⟨"CarSeedsLaw", "law", "([I)Z"⟩, code, 4, (some FieldType.boolean))
abbrev M_M_init : MI := (⟨"CarSeedsModel", "<init>", "(JII)V"⟩, prog_8_method_1_code, 5, none)
set_option maxRecDepth 100000 in
theorem kc_M_init : Cond.code M_M_init.1 M_M_init.2.1 M_M_init.2.2.1 M_M_init.2.2.2 ∈ ktb := ktb_at 592 rfl rfl
abbrev M_M_allowed : MI := (⟨"CarSeedsModel", "allowed", "(I)I"⟩, prog_8_method_19_code, 1, (some FieldType.int))
set_option maxRecDepth 100000 in
theorem kc_M_allowed : Cond.code M_M_allowed.1 M_M_allowed.2.1 M_M_allowed.2.2.1 M_M_allowed.2.2.2 ∈ ktb := ktb_at 742 rfl rfl
abbrev M_M_back : MI := (⟨"CarSeedsModel", "back", "(I)I"⟩, prog_8_method_37_code, 3, (some FieldType.int))
set_option maxRecDepth 100000 in
theorem kc_M_back : Cond.code M_M_back.1 M_M_back.2.1 M_M_back.2.2.1 M_M_back.2.2.2 ∈ ktb := ktb_at 802 rfl rfl
abbrev M_M_before : MI := (⟨"CarSeedsModel", "before", "(II)I"⟩, prog_8_method_16_code, 6, (some FieldType.int))
set_option maxRecDepth 100000 in
theorem kc_M_before : Cond.code M_M_before.1 M_M_before.2.1 M_M_before.2.2.1 M_M_before.2.2.2 ∈ ktb := ktb_at 732 rfl rfl
abbrev M_M_cars : MI := (⟨"CarSeedsModel", "cars", "()I"⟩, prog_8_method_5_code, 1, (some FieldType.int))
set_option maxRecDepth 100000 in
theorem kc_M_cars : Cond.code M_M_cars.1 M_M_cars.2.1 M_M_cars.2.2.1 M_M_cars.2.2.2 ∈ ktb := ktb_at 667 rfl rfl
abbrev M_M_change : MI := (⟨"CarSeedsModel", "change", "(I)V"⟩, prog_8_method_22_code, 5, none)
set_option maxRecDepth 100000 in
theorem kc_M_change : Cond.code M_M_change.1 M_M_change.2.1 M_M_change.2.2.1 M_M_change.2.2.2 ∈ ktb := ktb_at 746 rfl rfl
abbrev M_M_close : MI := (⟨"CarSeedsModel", "close", "(IIII)Z"⟩, prog_8_method_12_code, 5, (some FieldType.boolean))
set_option maxRecDepth 100000 in
theorem kc_M_close : Cond.code M_M_close.1 M_M_close.2.1 M_M_close.2.2.1 M_M_close.2.2.2 ∈ ktb := ktb_at 688 rfl rfl
abbrev M_M_come : MI := (⟨"CarSeedsModel", "come", "(II)I"⟩, prog_8_method_9_code, 8, (some FieldType.int))
set_option maxRecDepth 100000 in
theorem kc_M_come : Cond.code M_M_come.1 M_M_come.2.1 M_M_come.2.2.1 M_M_come.2.2.2 ∈ ktb := ktb_at 660 rfl rfl
abbrev M_M_count : MI := (⟨"CarSeedsModel", "count", "(I)I"⟩, prog_8_method_38_code, 4, (some FieldType.int))
set_option maxRecDepth 100000 in
theorem kc_M_count : Cond.code M_M_count.1 M_M_count.2.1 M_M_count.2.2.1 M_M_count.2.2.2 ∈ ktb := ktb_at 806 rfl rfl
abbrev M_M_counted : MI := (⟨"CarSeedsModel", "counted", "(II)I"⟩, prog_8_method_31_code, 3, (some FieldType.int))
set_option maxRecDepth 100000 in
theorem kc_M_counted : Cond.code M_M_counted.1 M_M_counted.2.1 M_M_counted.2.2.1 M_M_counted.2.2.2 ∈ ktb := ktb_at 778 rfl rfl
abbrev M_M_drawn : MI := (⟨"CarSeedsModel", "drawn", "(II)I"⟩, prog_8_method_29_code, 3, (some FieldType.int))
set_option maxRecDepth 100000 in
theorem kc_M_drawn : Cond.code M_M_drawn.1 M_M_drawn.2.1 M_M_drawn.2.2.1 M_M_drawn.2.2.2 ∈ ktb := ktb_at 770 rfl rfl
abbrev M_M_enter : MI := (⟨"CarSeedsModel", "enter", "(I)V"⟩, prog_8_method_20_code, 4, none)
set_option maxRecDepth 100000 in
theorem kc_M_enter : Cond.code M_M_enter.1 M_M_enter.2.1 M_M_enter.2.2.1 M_M_enter.2.2.2 ∈ ktb := ktb_at 708 rfl rfl
abbrev M_M_gap : MI := (⟨"CarSeedsModel", "gap", "(I)I"⟩, prog_8_method_30_code, 2, (some FieldType.int))
set_option maxRecDepth 100000 in
theorem kc_M_gap : Cond.code M_M_gap.1 M_M_gap.2.1 M_M_gap.2.2.1 M_M_gap.2.2.2 ∈ ktb := ktb_at 774 rfl rfl
abbrev M_M_gapIn : MI := (⟨"CarSeedsModel", "gapIn", "(II)I"⟩, prog_8_method_18_code, 7, (some FieldType.int))
set_option maxRecDepth 100000 in
theorem kc_M_gapIn : Cond.code M_M_gapIn.1 M_M_gapIn.2.1 M_M_gapIn.2.2.1 M_M_gapIn.2.2.2 ∈ ktb := ktb_at 728 rfl rfl
abbrev M_M_isCar : MI := (⟨"CarSeedsModel", "isCar", "(I)Z"⟩, prog_8_method_27_code, 2, (some FieldType.boolean))
set_option maxRecDepth 100000 in
theorem kc_M_isCar : Cond.code M_M_isCar.1 M_M_isCar.2.1 M_M_isCar.2.2.1 M_M_isCar.2.2.2 ∈ ktb := ktb_at 766 rfl rfl
abbrev M_M_isOn : MI := (⟨"CarSeedsModel", "isOn", "(II)Z"⟩, prog_8_method_8_code, 3, (some FieldType.boolean))
set_option maxRecDepth 100000 in
theorem kc_M_isOn : Cond.code M_M_isOn.1 M_M_isOn.2.1 M_M_isOn.2.2.1 M_M_isOn.2.2.2 ∈ ktb := ktb_at 716 rfl rfl
abbrev M_M_isPlace : MI := (⟨"CarSeedsModel", "isPlace", "(I)Z"⟩, prog_8_method_10_code, 2, (some FieldType.boolean))
set_option maxRecDepth 100000 in
theorem kc_M_isPlace : Cond.code M_M_isPlace.1 M_M_isPlace.2.1 M_M_isPlace.2.2.1 M_M_isPlace.2.2.2 ∈ ktb := ktb_at 684 rfl rfl
abbrev M_M_lesser : MI := (⟨"CarSeedsModel", "lesser", "(II)I"⟩, prog_8_method_15_code, 2, (some FieldType.int))
set_option maxRecDepth 100000 in
theorem kc_M_lesser : Cond.code M_M_lesser.1 M_M_lesser.2.1 M_M_lesser.2.2.1 M_M_lesser.2.2.2 ∈ ktb := ktb_at 739 rfl rfl
abbrev M_M_light : MI := (⟨"CarSeedsModel", "light", "(III)Z"⟩, prog_8_method_11_code, 4, (some FieldType.boolean))
set_option maxRecDepth 100000 in
theorem kc_M_light : Cond.code M_M_light.1 M_M_light.2.1 M_M_light.2.2.1 M_M_light.2.2.2 ∈ ktb := ktb_at 680 rfl rfl
abbrev M_M_line : MI := (⟨"CarSeedsModel", "line", "(I)I"⟩, prog_8_method_14_code, 3, (some FieldType.int))
set_option maxRecDepth 100000 in
theorem kc_M_line : Cond.code M_M_line.1 M_M_line.2.1 M_M_line.2.2.1 M_M_line.2.2.2 ∈ ktb := ktb_at 696 rfl rfl
abbrev M_M_many : MI := (⟨"CarSeedsModel", "many", "(I)I"⟩, prog_8_method_33_code, 2, (some FieldType.int))
set_option maxRecDepth 100000 in
theorem kc_M_many : Cond.code M_M_many.1 M_M_many.2.1 M_M_many.2.2.1 M_M_many.2.2.2 ∈ ktb := ktb_at 786 rfl rfl
abbrev M_M_mayGo : MI := (⟨"CarSeedsModel", "mayGo", "(III)Z"⟩, prog_8_method_21_code, 8, (some FieldType.boolean))
set_option maxRecDepth 100000 in
theorem kc_M_mayGo : Cond.code M_M_mayGo.1 M_M_mayGo.2.1 M_M_mayGo.2.2.1 M_M_mayGo.2.2.2 ∈ ktb := ktb_at 750 rfl rfl
abbrev M_M_move : MI := (⟨"CarSeedsModel", "move", "(I)V"⟩, prog_8_method_24_code, 7, none)
set_option maxRecDepth 100000 in
theorem kc_M_move : Cond.code M_M_move.1 M_M_move.2.1 M_M_move.2.2.1 M_M_move.2.2.2 ∈ ktb := ktb_at 758 rfl rfl
abbrev M_M_nearer : MI := (⟨"CarSeedsModel", "nearer", "(IIIZ)I"⟩, prog_8_method_17_code, 4, (some FieldType.int))
set_option maxRecDepth 100000 in
theorem kc_M_nearer : Cond.code M_M_nearer.1 M_M_nearer.2.1 M_M_nearer.2.2.1 M_M_nearer.2.2.2 ∈ ktb := ktb_at 736 rfl rfl
abbrev M_M_now : MI := (⟨"CarSeedsModel", "now", "()I"⟩, prog_8_method_6_code, 1, (some FieldType.int))
set_option maxRecDepth 100000 in
theorem kc_M_now : Cond.code M_M_now.1 M_M_now.2.1 M_M_now.2.2.1 M_M_now.2.2.2 ∈ ktb := ktb_at 724 rfl rfl
abbrev M_M_of : MI := (⟨"CarSeedsModel", "of", "(II)I"⟩, prog_8_method_3_code, 3, (some FieldType.int))
set_option maxRecDepth 100000 in
theorem kc_M_of : Cond.code M_M_of.1 M_M_of.2.1 M_M_of.2.2.1 M_M_of.2.2.2 ∈ ktb := ktb_at 712 rfl rfl
abbrev M_M_ordered : MI := (⟨"CarSeedsModel", "ordered", "()Z"⟩, prog_8_method_35_code, 4, (some FieldType.boolean))
set_option maxRecDepth 100000 in
theorem kc_M_ordered : Cond.code M_M_ordered.1 M_M_ordered.2.1 M_M_ordered.2.2.1 M_M_ordered.2.2.2 ∈ ktb := ktb_at 794 rfl rfl
abbrev M_M_put : MI := (⟨"CarSeedsModel", "put", "(III)V"⟩, prog_8_method_4_code, 4, none)
set_option maxRecDepth 100000 in
theorem kc_M_put : Cond.code M_M_put.1 M_M_put.2.1 M_M_put.2.2.1 M_M_put.2.2.2 ∈ ktb := ktb_at 671 rfl rfl
abbrev M_M_rear : MI := (⟨"CarSeedsModel", "rear", "(I)I"⟩, prog_8_method_7_code, 2, (some FieldType.int))
set_option maxRecDepth 100000 in
theorem kc_M_rear : Cond.code M_M_rear.1 M_M_rear.2.1 M_M_rear.2.2.1 M_M_rear.2.2.2 ∈ ktb := ktb_at 720 rfl rfl
abbrev M_M_run : MI := (⟨"CarSeedsModel", "run", "(I)I"⟩, prog_8_method_26_code, 3, (some FieldType.int))
set_option maxRecDepth 100000 in
theorem kc_M_run : Cond.code M_M_run.1 M_M_run.2.1 M_M_run.2.2.1 M_M_run.2.2.2 ∈ ktb := ktb_at 700 rfl rfl
abbrev M_M_save : MI := (⟨"CarSeedsModel", "save", "(I)I"⟩, prog_8_method_36_code, 3, (some FieldType.int))
set_option maxRecDepth 100000 in
theorem kc_M_save : Cond.code M_M_save.1 M_M_save.2.1 M_M_save.2.2.1 M_M_save.2.2.2 ∈ ktb := ktb_at 798 rfl rfl
abbrev M_M_speeds : MI := (⟨"CarSeedsModel", "speeds", "()V"⟩, prog_8_method_23_code, 4, none)
set_option maxRecDepth 100000 in
theorem kc_M_speeds : Cond.code M_M_speeds.1 M_M_speeds.2.1 M_M_speeds.2.2.1 M_M_speeds.2.2.2 ∈ ktb := ktb_at 754 rfl rfl
abbrev M_M_step : MI := (⟨"CarSeedsModel", "step", "()V"⟩, prog_8_method_25_code, 4, none)
set_option maxRecDepth 100000 in
theorem kc_M_step : Cond.code M_M_step.1 M_M_step.2.1 M_M_step.2.2.1 M_M_step.2.2.2 ∈ ktb := ktb_at 704 rfl rfl
abbrev M_M_stop : MI := (⟨"CarSeedsModel", "stop", "(II)Z"⟩, prog_8_method_13_code, 3, (some FieldType.boolean))
set_option maxRecDepth 100000 in
theorem kc_M_stop : Cond.code M_M_stop.1 M_M_stop.2.1 M_M_stop.2.2.1 M_M_stop.2.2.2 ∈ ktb := ktb_at 692 rfl rfl
abbrev M_M_times : MI := (⟨"CarSeedsModel", "times", "()I"⟩, prog_8_method_32_code, 1, (some FieldType.int))
set_option maxRecDepth 100000 in
theorem kc_M_times : Cond.code M_M_times.1 M_M_times.2.1 M_M_times.2.2.1 M_M_times.2.2.2 ∈ ktb := ktb_at 782 rfl rfl
abbrev M_M_told : MI := (⟨"CarSeedsModel", "told", "(II)I"⟩, prog_8_method_28_code, 3, (some FieldType.int))
set_option maxRecDepth 100000 in
theorem kc_M_told : Cond.code M_M_told.1 M_M_told.2.1 M_M_told.2.2.1 M_M_told.2.2.2 ∈ ktb := ktb_at 762 rfl rfl
abbrev M_M_waiting : MI := (⟨"CarSeedsModel", "waiting", "(I)I"⟩, prog_8_method_34_code, 4, (some FieldType.int))
set_option maxRecDepth 100000 in
theorem kc_M_waiting : Cond.code M_M_waiting.1 M_M_waiting.2.1 M_M_waiting.2.2.1 M_M_waiting.2.2.2 ∈ ktb := ktb_at 790 rfl rfl
abbrev M_M_within : MI := (⟨"CarSeedsModel", "within", "(III)Z"⟩, prog_8_method_2_code, 3, (some FieldType.boolean))
set_option maxRecDepth 100000 in
theorem kc_M_within : Cond.code M_M_within.1 M_M_within.2.1 M_M_within.2.2.1 M_M_within.2.2.2 ∈ ktb := ktb_at 663 rfl rfl
set_option maxRecDepth 100000 in
theorem kco_obj : Cond.code objectInit ⟨#[0xb1]⟩ 1 none ∈ ktb := ktb_at 56 rfl rfl
set_option maxRecDepth 100000 in
theorem kco_max : Cond.code Lib.Math.max.name Lib.Math.max.code 2 (some .int) ∈ ktb := ktb_at 62 rfl rfl
set_option maxRecDepth 100000 in
theorem kco_min : Cond.code Lib.Math.min.name Lib.Math.min.code 2 (some .int) ∈ ktb := ktb_at 59 rfl rfl
