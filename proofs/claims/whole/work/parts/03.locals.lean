/-! LOCALS of the pure machine: a list, none where nothing is known -/
def lgt : List (Option Value) → Nat → Option Value
  | [], _ => none
  | o :: _, 0 => o
  | _ :: t, i + 1 => lgt t i
def lclr : Option Value → Option Value
  | some (.long _) => none
  | some (.double _) => none
  | o => o
def lst (v : Value) : Nat → List (Option Value) → List (Option Value)
  | _, [] => []
  | 0, _ :: t => some v :: t
  | 1, a :: t => lclr a :: (match t with | [] => [] | _ :: t' => some v :: t')
  | i + 2, a :: t => a :: lst v (i + 1) t
def lst2 (v : Value) : Nat → List (Option Value) → List (Option Value)
  | _, [] => []
  | 0, _ :: t => some v :: (match t with | [] => [] | _ :: t' => none :: t')
  | 1, a :: t => lclr a :: (match t with | [] => [] | _ :: t' => some v :: (match t' with | [] => [] | _ :: t'' => none :: t''))
  | i + 2, a :: t => a :: lst2 v (i + 1) t
def asc : Nat → List (Option Value) → List (Nat × Value)
  | _, [] => []
  | k, none :: t => asc (k + 1) t
  | k, some v :: t => (k, v) :: asc (k + 1) t
def ent : List Value → List (Option Value)
  | [] => []
  | v :: t => match v with
    | .long _ => some v :: none :: ent t
    | .double _ => some v :: none :: ent t
    | _ => some v :: ent t
def entN (as : List Value) (n : Nat) : List (Option Value) := ent as ++ List.replicate (n - (ent as).length) none
theorem lgt_nil (i : Nat) : lgt [] i = none := by cases i <;> rfl
theorem lgt_zero (o : Option Value) (t : List (Option Value)) : lgt (o :: t) 0 = o := rfl
theorem lgt_succ (o : Option Value) (t : List (Option Value)) (i : Nat) : lgt (o :: t) (i + 1) = lgt t i := rfl
theorem asc_mem : ∀ (l : List (Option Value)) (k : Nat) (q : Nat × Value), q ∈ asc k l ↔ ∃ i, q.1 = k + i ∧ lgt l i = some q.2
  | [], k, q => by
    constructor
    · intro h; cases h
    · rintro ⟨i, -, h⟩
      rw [lgt_nil] at h
      cases h
  | none :: t, k, q => by
    have ih := asc_mem t (k + 1) q
    show q ∈ asc (k + 1) t ↔ _
    rw [ih]
    constructor
    · rintro ⟨i, h1, h2⟩
      exact ⟨i + 1, by omega, h2⟩
    · rintro ⟨i, h1, h2⟩
      cases i with
      | zero => cases h2
      | succ i => exact ⟨i, by omega, h2⟩
  | some v :: t, k, q => by
    have ih := asc_mem t (k + 1) q
    show q ∈ (k, v) :: asc (k + 1) t ↔ _
    rw [List.mem_cons, ih]
    constructor
    · rintro (h | ⟨i, h1, h2⟩)
      · exact ⟨0, by rw [h]; rfl, by rw [h]; rfl⟩
      · exact ⟨i + 1, by omega, h2⟩
    · rintro ⟨i, h1, h2⟩
      cases i with
      | zero =>
        left
        have h3 : v = q.2 := Option.some.inj h2
        obtain ⟨q1, q2⟩ := q
        simp only at h1 h3
        rw [h3, h1]
        rfl
      | succ i => exact Or.inr ⟨i, by omega, h2⟩
theorem lclr_spec {o : Option Value} {w : Value} (h : lclr o = some w) : o = some w ∧ ¬ w.category = 2 := by
  cases o with
  | none => cases h
  | some v => cases v <;> first | (cases h; exact ⟨rfl, by decide⟩) | (cases h; exact ⟨rfl, by simp [Value.category]⟩) | cases h
theorem lst_len (v : Value) : ∀ (i : Nat) (l : List (Option Value)), (lst v i l).length = l.length
  | 0, [] => rfl
  | _ + 1, [] => by simp [lst]
  | 0, _ :: _ => rfl
  | 1, a :: t => by cases t <;> rfl
  | i + 2, a :: t => by
    show (lst v (i + 1) t).length + 1 = _
    rw [lst_len v (i + 1) t]
    rfl
theorem lst2_len (v : Value) : ∀ (i : Nat) (l : List (Option Value)), (lst2 v i l).length = l.length
  | 0, [] => rfl
  | _ + 1, [] => by simp [lst2]
  | 0, _ :: t => by cases t <;> rfl
  | 1, a :: t => by
    cases t with
    | nil => rfl
    | cons b t => cases t <;> rfl
  | i + 2, a :: t => by
    show (lst2 v (i + 1) t).length + 1 = _
    rw [lst2_len v (i + 1) t]
    rfl
theorem lst_spec (v : Value) : ∀ (i : Nat) (l : List (Option Value)) (j : Nat) (w : Value), lgt (lst v i l) j = some w → (j = i ∧ w = v) ∨ (lgt l j = some w ∧ j ≠ i ∧ ¬ (j + 1 = i ∧ w.category = 2))
  | 0, [], j, w, h => by rw [show lst v 0 [] = [] from rfl, lgt_nil] at h; cases h
  | i + 1, [], j, w, h => by rw [show lst v (i + 1) [] = [] by simp [lst], lgt_nil] at h; cases h
  | 0, a :: t, 0, w, h => Or.inl ⟨rfl, (Option.some.inj h).symm⟩
  | 0, a :: t, j + 1, w, h => Or.inr ⟨h, by omega, by omega⟩
  | 1, a :: [], 0, w, h => by
    obtain ⟨h1, h2⟩ := lclr_spec (o := a) h
    exact Or.inr ⟨h1, by omega, fun q => h2 q.2⟩
  | 1, a :: [], j + 1, w, h => by
    have h' : lgt [] j = some w := h
    rw [lgt_nil] at h'
    cases h'
  | 1, a :: b :: t, 0, w, h => by
    obtain ⟨h1, h2⟩ := lclr_spec (o := a) h
    exact Or.inr ⟨h1, by omega, fun q => h2 q.2⟩
  | 1, a :: b :: t, 1, w, h => Or.inl ⟨rfl, (Option.some.inj h).symm⟩
  | 1, a :: b :: t, j + 2, w, h => Or.inr ⟨h, by omega, by omega⟩
  | i + 2, a :: t, 0, w, h => Or.inr ⟨h, by omega, by omega⟩
  | i + 2, a :: t, j + 1, w, h => by
    rcases lst_spec v (i + 1) t j w h with ⟨h1, h2⟩ | ⟨h1, h2, h3⟩
    · exact Or.inl ⟨by omega, h2⟩
    · exact Or.inr ⟨h1, by omega, fun q => h3 ⟨by omega, q.2⟩⟩
theorem lst2_spec (v : Value) : ∀ (i : Nat) (l : List (Option Value)) (j : Nat) (w : Value), lgt (lst2 v i l) j = some w → (j = i ∧ w = v) ∨ (lgt l j = some w ∧ j ≠ i ∧ j ≠ i + 1 ∧ ¬ (j + 1 = i ∧ w.category = 2))
  | 0, [], j, w, h => by rw [show lst2 v 0 [] = [] from rfl, lgt_nil] at h; cases h
  | i + 1, [], j, w, h => by rw [show lst2 v (i + 1) [] = [] by simp [lst2], lgt_nil] at h; cases h
  | 0, a :: t, 0, w, h => Or.inl ⟨rfl, (Option.some.inj h).symm⟩
  | 0, a :: [], j + 1, w, h => by
    have h' : lgt [] j = some w := h
    rw [lgt_nil] at h'
    cases h'
  | 0, a :: b :: t, 1, w, h => by cases h
  | 0, a :: b :: t, j + 2, w, h => Or.inr ⟨h, by omega, by omega, by omega⟩
  | 1, a :: [], 0, w, h => by
    obtain ⟨h1, h2⟩ := lclr_spec (o := a) h
    exact Or.inr ⟨h1, by omega, by omega, fun q => h2 q.2⟩
  | 1, a :: [], j + 1, w, h => by
    have h' : lgt [] j = some w := h
    rw [lgt_nil] at h'
    cases h'
  | 1, a :: b :: t, 0, w, h => by
    obtain ⟨h1, h2⟩ := lclr_spec (o := a) h
    exact Or.inr ⟨h1, by omega, by omega, fun q => h2 q.2⟩
  | 1, a :: b :: t, 1, w, h => Or.inl ⟨rfl, (Option.some.inj h).symm⟩
  | 1, a :: b :: [], j + 2, w, h => by
    have h' : lgt [] j = some w := h
    rw [lgt_nil] at h'
    cases h'
  | 1, a :: b :: c :: t, 2, w, h => by cases h
  | 1, a :: b :: c :: t, j + 3, w, h => Or.inr ⟨h, by omega, by omega, by omega⟩
  | i + 2, a :: t, 0, w, h => Or.inr ⟨h, by omega, by omega, by omega⟩
  | i + 2, a :: t, j + 1, w, h => by
    rcases lst2_spec v (i + 1) t j w h with ⟨h1, h2⟩ | ⟨h1, h2, h3, h4⟩
    · exact Or.inl ⟨by omega, h2⟩
    · exact Or.inr ⟨h1, by omega, by omega, fun q => h4 ⟨by omega, q.2⟩⟩
def LV (ls' : Array Slot) (nL : Nat) (ls : List (Option Value)) : Prop := lv_has ls' nL (asc 0 ls) ∧ ls.length = nL
theorem LV.get {ls' : Array Slot} {nL : Nat} {ls : List (Option Value)} (h : LV ls' nL ls) {i : Nat} {v : Value} (hi : lgt ls i = some v) : ls'[i]? = some (.val v) :=
  h.1.2.2 (i, v) ((asc_mem ls 0 (i, v)).mpr ⟨i, by simp, hi⟩)
theorem LV.put {ls' : Array Slot} {nL i : Nat} {ls : List (Option Value)} {v : Value} (hl : ls.length = nL) (h : lv_has ls' nL ((i, v) :: (asc 0 ls).filter (fun q => !(q.1 == i) && !(q.1 + 1 == i && q.2.category == 2)))) : LV ls' nL (lst v i ls) := by
  refine ⟨⟨h.1, h.2.1, fun q hq => ?_⟩, by rw [lst_len]; exact hl⟩
  obtain ⟨j, h1, h2⟩ := (asc_mem _ 0 q).mp hq
  have e : q.1 = j := by omega
  refine h.2.2 q ?_
  rcases lst_spec v i ls j q.2 h2 with ⟨h3, h4⟩ | ⟨h3, h4, h5⟩
  · rw [List.mem_cons]
    left
    obtain ⟨q1, q2⟩ := q
    simp only at h4 e
    rw [h4, e, h3]
  · refine List.mem_cons_of_mem _ (List.mem_filter.mpr ⟨(asc_mem ls 0 q).mpr ⟨j, h1, h3⟩, ?_⟩)
    rw [e]
    simp only [Bool.and_eq_true, Bool.not_eq_true', beq_eq_false_iff_ne, ne_eq, Bool.and_eq_false_iff]
    refine ⟨h4, ?_⟩
    by_cases h6 : j + 1 = i
    · right
      exact fun q => h5 ⟨h6, q⟩
    · left
      exact h6
theorem LV.put2 {ls' : Array Slot} {nL i : Nat} {ls : List (Option Value)} {v : Value} (hl : ls.length = nL) (h : lv_has ls' nL ((i, v) :: (asc 0 ls).filter (fun q => !(q.1 == i) && (!(q.1 == i + 1) && !(q.1 + 1 == i && q.2.category == 2))))) : LV ls' nL (lst2 v i ls) := by
  refine ⟨⟨h.1, h.2.1, fun q hq => ?_⟩, by rw [lst2_len]; exact hl⟩
  obtain ⟨j, h1, h2⟩ := (asc_mem _ 0 q).mp hq
  have e : q.1 = j := by omega
  refine h.2.2 q ?_
  rcases lst2_spec v i ls j q.2 h2 with ⟨h3, h4⟩ | ⟨h3, h4, h7, h5⟩
  · rw [List.mem_cons]
    left
    obtain ⟨q1, q2⟩ := q
    simp only at h4 e
    rw [h4, e, h3]
  · refine List.mem_cons_of_mem _ (List.mem_filter.mpr ⟨(asc_mem ls 0 q).mpr ⟨j, h1, h3⟩, ?_⟩)
    rw [e]
    simp only [Bool.and_eq_true, Bool.not_eq_true', beq_eq_false_iff_ne, ne_eq, Bool.and_eq_false_iff]
    refine ⟨h4, h7, ?_⟩
    by_cases h6 : j + 1 = i
    · right
      exact fun q => h5 ⟨h6, q⟩
    · left
      exact h6
theorem ent_args : ∀ (as : List Value) (k : Nat) (q : Nat × Value), q ∈ asc k (ent as) → q ∈ lv_args k as
  | [], k, q, h => by cases h
  | v :: t, k, q, h => by
    have h1 := ent_args t (k + 1) q
    have h2 := ent_args t (k + 2) q
    cases v with
    | long x =>
      have h' : q ∈ (k, Value.long x) :: asc (k + 1 + 1) (ent t) := h
      show q ∈ (k, Value.long x) :: lv_args (k + 2) t
      rcases List.mem_cons.mp h' with h | h
      · exact h ▸ List.mem_cons_self
      · exact List.mem_cons_of_mem _ (h2 h)
    | double x =>
      have h' : q ∈ (k, Value.double x) :: asc (k + 1 + 1) (ent t) := h
      show q ∈ (k, Value.double x) :: lv_args (k + 2) t
      rcases List.mem_cons.mp h' with h | h
      · exact h ▸ List.mem_cons_self
      · exact List.mem_cons_of_mem _ (h2 h)
    | int x =>
      have h' : q ∈ (k, Value.int x) :: asc (k + 1) (ent t) := h
      show q ∈ (k, Value.int x) :: lv_args (k + 1) t
      rcases List.mem_cons.mp h' with h | h
      · exact h ▸ List.mem_cons_self
      · exact List.mem_cons_of_mem _ (h1 h)
    | float x =>
      have h' : q ∈ (k, Value.float x) :: asc (k + 1) (ent t) := h
      show q ∈ (k, Value.float x) :: lv_args (k + 1) t
      rcases List.mem_cons.mp h' with h | h
      · exact h ▸ List.mem_cons_self
      · exact List.mem_cons_of_mem _ (h1 h)
    | null =>
      have h' : q ∈ (k, Value.null) :: asc (k + 1) (ent t) := h
      show q ∈ (k, Value.null) :: lv_args (k + 1) t
      rcases List.mem_cons.mp h' with h | h
      · exact h ▸ List.mem_cons_self
      · exact List.mem_cons_of_mem _ (h1 h)
    | ref x =>
      have h' : q ∈ (k, Value.ref x) :: asc (k + 1) (ent t) := h
      show q ∈ (k, Value.ref x) :: lv_args (k + 1) t
      rcases List.mem_cons.mp h' with h | h
      · exact h ▸ List.mem_cons_self
      · exact List.mem_cons_of_mem _ (h1 h)
    | retAddr x =>
      have h' : q ∈ (k, Value.retAddr x) :: asc (k + 1) (ent t) := h
      show q ∈ (k, Value.retAddr x) :: lv_args (k + 1) t
      rcases List.mem_cons.mp h' with h | h
      · exact h ▸ List.mem_cons_self
      · exact List.mem_cons_of_mem _ (h1 h)
theorem asc_pad : ∀ (l : List (Option Value)) (n k : Nat), asc k (l ++ List.replicate n none) = asc k l
  | [], 0, k => rfl
  | [], n + 1, k => by
    have := asc_pad [] n (k + 1)
    exact this
  | none :: t, n, k => asc_pad t n (k + 1)
  | some v :: t, n, k => by
    show (k, v) :: asc (k + 1) (t ++ List.replicate n none) = (k, v) :: asc (k + 1) t
    rw [asc_pad t n (k + 1)]
theorem ent_len : ∀ as : List Value, (ent as).length = (lg_sl as).length
  | [] => rfl
  | v :: t => by
    have ih := ent_len t
    cases v <;> simp_all [ent, lg_sl, Value.category]
theorem LV.entry {as : List Value} {n : Nat} (h : (ent as).length ≤ n) : LV ((lg_sl as ++ List.replicate (n - (lg_sl as).length) Slot.unset).toArray) n (entN as n) := by
  have h0 := lv_entry as (n := n) (by rw [← ent_len]; exact h)
  refine ⟨⟨h0.1, h0.2.1, fun q hq => h0.2.2 q ?_⟩, ?_⟩
  · rw [entN, asc_pad] at hq
    exact ent_args as 0 q hq
  · simp [entN]
    omega
