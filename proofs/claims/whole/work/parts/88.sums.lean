/-! pure: sums over rows and over cars -/
theorem i_ac (a b c : Int32) : a + b + c = a + c + b := by rw [Int32.add_assoc, Int32.add_comm b c, ← Int32.add_assoc]
theorem sm_zero {f : Nat → Int32} : ∀ {N : Nat}, (∀ i, i < N → f i = 0) → sm f N = 0
  | 0, _ => rfl
  | N + 1, h => by
    rw [sm, sm_zero (fun i hi => h i (by omega)), h N (by omega)]
    rfl
theorem sm_add (f g : Nat → Int32) : ∀ N : Nat, sm f N + sm g N = sm (fun i => f i + g i) N
  | 0 => rfl
  | N + 1 => by
    rw [sm, sm, sm, ← sm_add f g N, ← Int32.add_assoc, ← Int32.add_assoc, i_ac (sm f N) (f N) (sm g N)]
theorem sm_one {f : Nat → Int32} {d : Nat} : ∀ {N : Nat}, d < N → sm (fun i => if i = d then f i else 0) N = f d
  | 0, h => absurd h (by omega)
  | N + 1, h => by
    rw [sm]
    by_cases e : d = N
    · subst e
      rw [if_pos rfl, sm_zero (fun i hi => if_neg (by omega))]
      exact Int32.zero_add _
    · rw [if_neg (fun q => e q.symm), sm_one (by omega)]
      exact Int32.add_zero _
/-- a sum over a row is one over the cars that stand in it -/
theorem sm_perm (f : Nat → Int32) (N : Nat) : ∀ (s : Nat) (row : Nat → Nat) (P : Nat → Prop) [DecidablePred P], (∀ j, j < s → row j < N ∧ P (row j)) → (∀ i j, i < s → j < s → row i = row j → i = j) → (∀ c, c < N → P c → ∃ j, j < s ∧ row j = c) → sm (fun j => f (row j)) s = sm (fun c => if P c then f c else 0) N
  | 0, row, P, _, _, _, h3 => by
    rw [sm_zero (N := N) (fun c hc => if_neg (fun q => by obtain ⟨j, hj, -⟩ := h3 c hc q; omega))]
    rfl
  | s + 1, row, P, _, h1, h2, h3 => by
    have ih := sm_perm f N s row (fun c => P c ∧ c ≠ row s) (fun j hj => ⟨(h1 j (by omega)).1, (h1 j (by omega)).2, fun e => by have := h2 j s (by omega) (by omega) e; omega⟩) (fun i j hi hj e => h2 i j (by omega) (by omega) e) (fun c hc q => by
      obtain ⟨j, hj, e⟩ := h3 c hc q.1
      refine ⟨j, ?_, e⟩
      rcases Nat.lt_or_ge j s with w | w
      · exact w
      · exact absurd (by rw [← e, show j = s by omega]) q.2)
    rw [sm, ih, ← sm_one (f := f) (h1 s (by omega)).1, sm_add]
    refine sm_cg (fun c hc => ?_)
    by_cases e : c = row s
    · rw [if_neg (fun q => q.2 e), if_pos e, if_pos (by rw [e]; exact (h1 s (by omega)).2)]
      exact Int32.zero_add _
    · rw [if_neg e]
      by_cases hP : P c
      · rw [if_pos ⟨hP, e⟩, if_pos hP]
        exact Int32.add_zero _
      · rw [if_neg (fun q => hP q.1), if_neg hP]
        rfl
/-- one lane -/
theorem LaneOK.sum {A : Nat → Nat → Int32} {N l s : Nat} (h : LaneOK A N l s) (hb : ∀ c, c < N → CB A c) (f : Nat → Int32) : sm (fun j => f (rw_ A l j)) s = sm (fun c => if A 20 c = 1 ∧ A 19 c = nI l then f c else 0) N :=
  sm_perm f N s (rw_ A l) (fun c => A 20 c = 1 ∧ A 19 c = nI l) (fun j hj => h.1 j hj) (fun i j hi hj e => h.inj hb hi hj e) (fun c hc q => h.2.1 c hc q.1 q.2)
/-- the lanes before l, and lane l -/
theorem sm_lane {A : Nat → Nat → Int32} {N L l : Nat} (hL : ∀ c, c < N → A 19 c = nI (lnI A c) ∧ lnI A c < L) (hL3 : L ≤ 3) (hl : l < 3) (f : Nat → Int32) : sm (fun c => if A 20 c = 1 ∧ lnI A c < l then f c else 0) N + sm (fun c => if A 20 c = 1 ∧ A 19 c = nI l then f c else 0) N = sm (fun c => if A 20 c = 1 ∧ lnI A c < l + 1 then f c else 0) N := by
  rw [sm_add]
  refine sm_cg (fun c hc => ?_)
  obtain ⟨e1, e2⟩ := hL c hc
  by_cases h20 : A 20 c = 1
  · by_cases h1 : lnI A c < l
    · rw [if_pos ⟨h20, h1⟩, if_neg (fun q => ?_), if_pos ⟨h20, by omega⟩]
      · exact Int32.add_zero _
      · have := nI_inj (by omega) (by omega) (e1.symm.trans q.2)
        omega
    · rw [if_neg (fun q => h1 q.2)]
      by_cases h2 : lnI A c = l
      · rw [if_pos ⟨h20, by rw [← h2]; exact e1⟩, if_pos ⟨h20, by omega⟩]
        exact Int32.zero_add _
      · rw [if_neg (fun q => h2 (nI_inj (by omega) (by omega) (e1.symm.trans q.2))), if_neg (fun q => ?_)]
        · rfl
        · have := q.2
          omega
  · rw [if_neg (fun q => h20 q.1), if_neg (fun q => h20 q.1), if_neg (fun q => h20 q.1)]
    rfl
