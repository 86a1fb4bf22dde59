/-! the heap behind both constructors -/
theorem cL_mL (v : Int32) : cL v = mL v ∧ ∃ L, cL v = nI L ∧ 1 ≤ L ∧ L ≤ 3 := by
  have e1 : (1 : Int32).toInt = 1 := by decide
  have e3 : (3 : Int32).toInt = 3 := by decide
  unfold cL mL
  by_cases h1 : v < 1
  · have h3 : v < 3 := by rw [ti_lt] at h1 ⊢; omega
    rw [if_pos h3, if_pos h1, if_neg (by rw [ti_lt] at h1 ⊢; omega)]
    exact ⟨rfl, 1, rfl, by decide, by decide⟩
  · rw [if_neg h1]
    by_cases h3 : v < 3
    · rw [if_pos h3, if_neg (show ¬ 3 < v by rw [ti_lt] at h3 ⊢; omega)]
      rw [ti_lt] at h1 h3
      obtain ⟨L, -, e, e2⟩ := ti_of (a := v) (by omega)
      by_cases h2 : 1 < v
      · rw [if_pos h2]
        exact ⟨rfl, L, e, by omega, by omega⟩
      · rw [if_neg h2]
        rw [ti_lt] at h2
        have : v = 1 := by rw [ti_eq]; omega
        exact ⟨this.symm, 1, rfl, by decide, by decide⟩
    · rw [if_neg h3, if_pos (by decide)]
      rw [ti_lt] at h3
      refine ⟨?_, 3, rfl, by decide, by decide⟩
      by_cases h4 : 3 < v
      · rw [if_pos h4]
      · rw [if_neg h4, ti_eq]
        rw [ti_lt] at h4
        omega
theorem cE_mE (v : Int32) : cE v = mE v ∧ 1000 ≤ (cE v).toInt ∧ (cE v).toInt ≤ 100000 := by
  have e1 : (1000 : Int32).toInt = 1000 := by decide
  have e3 : (100000 : Int32).toInt = 100000 := by decide
  unfold cE mE
  by_cases h1 : v < 1000
  · have h3 : v < 100000 := by rw [ti_lt] at h1 ⊢; omega
    rw [if_pos h3, if_pos h1, if_neg (by rw [ti_lt] at h1 ⊢; omega)]
    exact ⟨rfl, by omega, by omega⟩
  · rw [if_neg h1]
    by_cases h3 : v < 100000
    · rw [if_pos h3, if_neg (show ¬ 100000 < v by rw [ti_lt] at h3 ⊢; omega)]
      rw [ti_lt] at h1 h3
      by_cases h2 : 1000 < v
      · rw [if_pos h2]
        exact ⟨rfl, by omega, by omega⟩
      · rw [if_neg h2]
        rw [ti_lt] at h2
        exact ⟨by rw [ti_eq]; omega, by omega, by omega⟩
    · rw [if_neg h3, if_pos (by decide)]
      rw [ti_lt] at h3
      refine ⟨?_, by omega, by omega⟩
      by_cases h4 : 100000 < v
      · rw [if_pos h4]
      · rw [if_neg h4, ti_eq]
        rw [ti_lt] at h4
        omega
theorem rel_init {I : Nat → Nat → Int32} {la en : Int32} (h2 : I 2 = fun _ => 0) (h04 : I 0 1 = cL la) (h05 : I 0 2 = cE en) (h14 : I 1 4 = cL la) (h15 : I 1 5 = cE en) (h33 : I 33 1 = mL la) (h332 : I 33 2 = mE en) (h33o : ∀ j, 3 ≤ j → I 33 j = 0) (h34 : I 34 = fun _ => 0) (hz : ∀ k, 13 ≤ k → k ≤ 31 → I k = fun _ => 0) : ∃ L, Rel I I 0 0 0 0 0 L 0 := by
  obtain ⟨c1, L, c2, c3, c4⟩ := cL_mL la
  obtain ⟨d1, d2, d3⟩ := cE_mE en
  have z0 : (0 : Int32) = nI 0 := rfl
  have sz : ∀ l, szI I l = 0 := fun l => by unfold szI; rw [hz 29 (by decide) (by decide)]; rfl
  have k0 : ∀ l, k0I I l = 0 := fun l => by unfold k0I; rw [hz 30 (by decide) (by decide)]; rfl
  refine ⟨L, ⟨⟨?_, ?_, by decide⟩, ⟨?_, ?_, by decide⟩, ⟨?_, ?_, by decide⟩, ⟨?_, ?_, by decide⟩, ⟨by rw [h14, c2], by rw [h04, c2], by rw [h33, ← c1, c2], c3, c4⟩, ⟨by rw [h05, h15], by rw [h332, h15, d1], by rw [h15]; exact d2, by rw [h15]; exact d3⟩, fun k hk => absurd hk (by omega), fun k hk => absurd hk (by omega), fun k hk => absurd hk (by omega), fun k hk => absurd hk (by omega)⟩, ⟨?_, ?_, by decide⟩, ⟨?_, ?_, ?_, ?_, ?_, ?_⟩, ?_, ?_, fun c hc => absurd hc (by omega), fun c hc => absurd hc (by omega), fun c hc => absurd hc (by omega), fun c hc => absurd hc (by omega), fun c hc => absurd hc (by omega), ?_, ?_, ?_⟩
  · rw [h2]; rfl
  · rw [h33o 5 (by decide)]; rfl
  · rw [h2]; rfl
  · rw [h33o 9 (by decide)]; rfl
  · rw [h2]; rfl
  · rw [h33o 14 (by decide)]; rfl
  · rw [h2]; rfl
  · rw [h33o 17 (by decide)]; rfl
  · rw [hz 14 (by decide) (by decide)]; rfl
  · rw [h34]; rfl
  · rw [h34, hz 13 (by decide) (by decide)]
  · rw [h34, hz 13 (by decide) (by decide)]
  · rw [h34, hz 13 (by decide) (by decide)]
  · rw [h34, hz 13 (by decide) (by decide)]
  · rw [hz 13 (by decide) (by decide)]; decide
  · rw [hz 13 (by decide) (by decide)]; decide
  · intro i _
    rw [h34, hz 31 (by decide) (by decide)]
    exact ⟨rfl, fun _ => rfl⟩
  · rw [h34]; rfl
  · intro i _ _
    rw [hz 26 (by decide) (by decide)]
  · intro l hl
    unfold RW
    rw [sz, hz 29 (by decide) (by decide)]
    refine ⟨rfl, by decide, fun j hj => absurd hj (by omega), fun j hj => absurd hj (by omega), fun c hc => absurd hc (by omega), fun j hj => absurd hj (by omega)⟩
  · intro l hl
    unfold RN
    rw [k0, hz 30 (by decide) (by decide)]
    exact ⟨rfl, by decide, fun c hc => absurd hc (by omega)⟩
set_option maxRecDepth 20000 in
theorem i_init (g : GT) : Inv0 0 (47, 5228, lS (fun _ => (0, 0)), lI g (fun _ _ => 0), lJ g (fun _ _ => 0), lR (fun _ _ => none)) := by
  have hR : ∀ t, lR (fun _ _ => none) 32 t = none := fun _ => rfl
  have hk : kept (lR (fun _ _ => none)) = 0 := by unfold kept; rw [hR, hR]; rfl
  obtain ⟨L, hr⟩ := rel_init (I := lI g (fun _ _ => 0)) (la := celV g 1) (en := celV g 2) rfl rfl rfl rfl rfl rfl rfl (fun j hj => by
    show (if j = 2 then mE (celV g 2) else if j = 1 then mL (celV g 1) else 0) = 0
    rw [if_neg (by omega), if_neg (by omega)]) rfl (fun k h1 h2 => by
    rcases (show k = 13 ∨ k = 14 ∨ k = 15 ∨ k = 16 ∨ k = 17 ∨ k = 18 ∨ k = 19 ∨ k = 20 ∨ k = 21 ∨ k = 22 ∨ k = 23 ∨ k = 24 ∨ k = 25 ∨ k = 26 ∨ k = 27 ∨ k = 28 ∨ k = 29 ∨ k = 30 ∨ k = 31 by omega) with rfl | rfl | rfl | rfl | rfl | rfl | rfl | rfl | rfl | rfl | rfl | rfl | rfl | rfl | rfl | rfl | rfl | rfl | rfl <;> rfl)
  refine ⟨?_, ?_, rfl, ⟨?_, ?_⟩, ?_, 0, 0, 0, 0, 0, L, hr, fun t ht => .inl ⟨rfl, rfl⟩⟩
  · show ShC (lS (fun _ => (0, 0))) (lR (fun _ _ => none))
    unfold ShC
    repeat' apply And.intro
    all_goals rfl
  · show ShM (lS (fun _ => (0, 0))) (lR (fun _ _ => none))
    unfold ShM
    repeat' apply And.intro
    all_goals rfl
  · show 47 = _
    rw [hk]
  · show 5228 = _
    rw [hk]
  · intro q0 q1 h1
    have : lR (fun _ _ => none) 32 0 = some q0 := h1
    rw [hR] at this
    exact absurd this (by simp)
theorem i_all (g : GT) : ∃ Inv : Nat → AH → Prop, OpA g Inv ∧ (∀ j h, Inv j h → h.2.2.1 0 = (0, 1) ∧ h.1 ≤ 85 ∧ h.2.1 ≤ 7470) ∧ Inv 0 (47, 5228, lS (fun _ => (0, 0)), lI g (fun _ _ => 0), lJ g (fun _ _ => 0), lR (fun _ _ => none)) := by
  refine ⟨Inv0, o_all, fun j h hI => ?_, i_init g⟩
  obtain ⟨hC, -, -, ⟨hn, hz⟩, -⟩ := hI
  have := kept_le h.2.2.2.2.2
  exact ⟨hC.1.1, by omega, by omega⟩
