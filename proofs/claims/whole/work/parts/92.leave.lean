/-! pure: the cars beyond the end leave their row -/
theorem k_lo_at {N l : Nat} (hl : l < 3) : ∀ (m : Nat) (Z : Nat → Nat → Int32) (t : Nat), LaneOK Z N l t → (∀ c, c < N → CB Z c) → Z 29 l = nI t → t ≤ 60 → (∀ j, j < t → Z 28 (l * 60 + j) = nI (rw_ Z l j)) → m ≤ t → (∀ j, m ≤ j → j < t → ¬ Z 1 5 < k_re Z (rw_ Z l j)) →
    (∀ k, k ≠ 20 → k ≠ 24 → k ≠ 28 → k ≠ 29 → (k_lo l m Z t).1 k = Z k) ∧ RW (k_lo l m Z t).1 N l ∧ (∀ l2, l2 < 3 → l2 ≠ l → (k_lo l m Z t).1 29 l2 = Z 29 l2 ∧ ∀ j, j < 60 → (k_lo l m Z t).1 28 (l2 * 60 + j) = Z 28 (l2 * 60 + j)) ∧
    (∀ c, c < N → ((k_lo l m Z t).1 20 c = Z 20 c ∧ (k_lo l m Z t).1 24 c = Z 24 c) ∨ (Z 20 c = 1 ∧ Z 19 c = nI l ∧ Z 1 5 < k_re Z c ∧ (k_lo l m Z t).1 20 c = 2 ∧ (k_lo l m Z t).1 24 c = Z 13 4)) ∧ (∀ j, j < szI (k_lo l m Z t).1 l → ¬ Z 1 5 < k_re Z (rw_ (k_lo l m Z t).1 l j))
  | 0, Z, t, h1, h2, h3, h4, h5, _, h7 => by
    rw [k_lo]
    have e : szI Z l = t := by unfold szI; rw [h3, cl_nI (by omega)]
    refine ⟨fun _ _ _ _ _ => rfl, ?_, fun _ _ _ => ⟨rfl, fun _ _ => rfl⟩, fun c _ => .inl ⟨rfl, rfl⟩, ?_⟩
    · unfold RW
      rw [e]
      exact ⟨h3, h4, h5, h1⟩
    · rw [e]
      exact fun j hj => h7 j (by omega) hj
  | m + 1, Z, t, h1, h2, h3, h4, h5, h6, h7 => by
    rw [k_lo]
    by_cases q : Z 1 5 < k_re Z (rw_ Z l m)
    · rw [if_pos q]
      obtain ⟨c1, c2, c3⟩ := h1.1 m (by omega)
      have hinj : ∀ j, j < t → j ≠ m → rw_ Z l j ≠ rw_ Z l m := fun j hj hne e => hne (h1.inj h2 hj (by omega) e)
      generalize hc : rw_ Z l m = c at *
      have hrw : ∀ j, j < t - 1 → rw_ (kRem (wr (wr Z 20 c 2) 24 c (wr Z 20 c 2 13 4)) l (t - 1) m) l j = if j < m then rw_ Z l j else rw_ Z l (j + 1) := fun j hj => by
        rw [rw_rem hj]; rfl
      have ho : ∀ k, k ≠ 20 → k ≠ 24 → k ≠ 28 → k ≠ 29 → kRem (wr (wr Z 20 c 2) 24 c (wr Z 20 c 2 13 4)) l (t - 1) m k = Z k := fun k k1 k2 k3 k4 => by
        rw [kRem_ne _ _ _ _ k3 k4, wr_ne _ _ _ k2, wr_ne _ _ _ k1]
      have h20 : ∀ x, kRem (wr (wr Z 20 c 2) 24 c (wr Z 20 c 2 13 4)) l (t - 1) m 20 x = if x = c then 2 else Z 20 x := fun x => by
        rw [kRem_ne _ _ _ _ (by decide) (by decide), wr_ne _ _ _ (by decide), wr_at]
        by_cases e : x = c
        · rw [if_pos ⟨rfl, e⟩, if_pos e]
        · rw [if_neg (fun w => e w.2), if_neg e]
      have h24 : ∀ x, kRem (wr (wr Z 20 c 2) 24 c (wr Z 20 c 2 13 4)) l (t - 1) m 24 x = if x = c then Z 13 4 else Z 24 x := fun x => by
        rw [kRem_ne _ _ _ _ (by decide) (by decide), wr_at]
        by_cases e : x = c
        · rw [if_pos ⟨rfl, e⟩, if_pos e]; rfl
        · rw [if_neg (fun w => e w.2), if_neg e]; rfl
      have h29 : ∀ l2, kRem (wr (wr Z 20 c 2) 24 c (wr Z 20 c 2 13 4)) l (t - 1) m 29 l2 = if l2 = l then nI (t - 1) else Z 29 l2 := fun l2 => by
        rw [kRem_29, up_if]; rfl
      have h28 : ∀ j, kRem (wr (wr Z 20 c 2) 24 c (wr Z 20 c 2 13 4)) l (t - 1) m 28 j = if l * 60 + m ≤ j ∧ j < l * 60 + (t - 1) then Z 28 (j + 1) else Z 28 j := fun j => by
        rw [kRem_28, rmv]; rfl
      generalize kRem (wr (wr Z 20 c 2) 24 c (wr Z 20 c 2 13 4)) l (t - 1) m = Z' at hrw ho h20 h24 h29 h28 ⊢
      have o19 := ho 19 (by decide) (by decide) (by decide) (by decide)
      have o21 := ho 21 (by decide) (by decide) (by decide) (by decide)
      have o16 := ho 16 (by decide) (by decide) (by decide) (by decide)
      have o1 := ho 1 (by decide) (by decide) (by decide) (by decide)
      have o13 := ho 13 (by decide) (by decide) (by decide) (by decide)
      have ere : ∀ x, k_re Z' x = k_re Z x := fun x => by unfold k_re; rw [o21, o16]
      have k1 : LaneOK Z' N l (t - 1) := by
        refine ⟨fun j hj => ?_, fun x x1 x2 x3 => ?_, fun j hj => ?_⟩
        · rw [hrw j hj]
          by_cases w : j < m
          · rw [if_pos w, h20, if_neg (hinj j (by omega) (by omega)), o19]
            exact h1.1 j (by omega)
          · rw [if_neg w, h20, if_neg (hinj (j + 1) (by omega) (by omega)), o19]
            exact h1.1 (j + 1) (by omega)
        · rw [h20] at x2
          rw [o19] at x3
          by_cases w : x = c
          · rw [if_pos w] at x2; exact absurd x2 (by decide)
          · rw [if_neg w] at x2
            obtain ⟨j, hj, e⟩ := h1.2.1 x x1 x2 x3
            have hjm : j ≠ m := fun e2 => w (by rw [← e, e2, hc])
            by_cases w2 : j < m
            · exact ⟨j, by omega, by rw [hrw j (by omega), if_pos w2, e]⟩
            · exact ⟨j - 1, by omega, by rw [hrw (j - 1) (by omega), if_neg (by omega), show j - 1 + 1 = j by omega, e]⟩
        · rw [hrw j (by omega), hrw (j + 1) hj, o21, o16]
          by_cases w : j + 1 < m
          · rw [if_pos w, if_pos (show j < m by omega)]
            exact h1.ord h2 (by omega) (by omega)
          · rw [if_neg w]
            by_cases w2 : j < m
            · rw [if_pos w2]
              exact h1.ord h2 (by omega) (by omega)
            · rw [if_neg w2]
              exact h1.ord h2 (by omega) (by omega)
      have k2 : ∀ x, x < N → CB Z' x := fun x hx => by
        have := h2 x hx
        unfold CB at this ⊢
        rw [o16, o21, ho 17 (by decide) (by decide) (by decide) (by decide), ho 18 (by decide) (by decide) (by decide) (by decide), ho 22 (by decide) (by decide) (by decide) (by decide)]
        exact this
      have k5 : ∀ j, j < t - 1 → Z' 28 (l * 60 + j) = nI (rw_ Z' l j) := fun j hj => by
        rw [hrw j hj, h28]
        by_cases w : j < m
        · rw [if_neg (by omega), if_pos w]; exact h5 j (by omega)
        · rw [if_pos (by omega), if_neg w]; exact h5 (j + 1) (by omega)
      have k7 : ∀ j, m ≤ j → j < t - 1 → ¬ Z' 1 5 < k_re Z' (rw_ Z' l j) := fun j hj hj2 => by
        rw [o1, ere, hrw j hj2, if_neg (by omega)]
        exact h7 (j + 1) (by omega) (by omega)
      obtain ⟨i1, i2, i3, i4, i5⟩ := k_lo_at hl m Z' (t - 1) k1 k2 (by rw [h29, if_pos rfl]) (by omega) k5 (by omega) k7
      generalize (k_lo l m Z' (t - 1)).1 = Y at i1 i2 i3 i4 i5 ⊢
      refine ⟨fun k a b d e => (i1 k a b d e).trans (ho k a b d e), i2, fun l2 x1 x2 => ?_, fun x hx => ?_, fun j hj => ?_⟩
      · obtain ⟨y1, y2⟩ := i3 l2 x1 x2
        refine ⟨by rw [y1, h29, if_neg x2], fun j hj => ?_⟩
        rw [y2 j hj, h28, if_neg (by omega)]
      · rcases i4 x hx with ⟨y1, y2⟩ | ⟨y1, y2, y3, y4, y5⟩
        · rw [h20] at y1
          rw [h24] at y2
          by_cases w : x = c
          · rw [if_pos w] at y1 y2
            exact .inr ⟨by rw [w]; exact c2, by rw [w]; exact c3, by rw [w]; exact q, y1, y2⟩
          · rw [if_neg w] at y1 y2
            exact .inl ⟨y1, y2⟩
        · rw [h20] at y1
          rw [o19] at y2
          rw [o1, ere] at y3
          rw [o13] at y5
          by_cases w : x = c
          · rw [if_pos w] at y1; exact absurd y1 (by decide)
          · rw [if_neg w] at y1
            exact .inr ⟨y1, y2, y3, y4, y5⟩
      · have := i5 j hj
        rw [o1, ere] at this
        exact this
    · rw [if_neg q]
      refine k_lo_at hl m Z t h1 h2 h3 h4 h5 (by omega) (fun j hj hj2 => ?_)
      by_cases e : j = m
      · rw [e]; exact q
      · exact h7 j (by omega) hj2
/-- near misses of a lane's rows -/
def NS (X : Nat → Nat → Int32) (l : Nat) : Int32 := sm (fun r => bI (k_nrP X (rw_ X l r) (rw_ X l (r + 1)))) (szI X l - 1)
theorem k_fn_at {X : Nat → Nat → Int32} {l : Nat} : ∀ n, (∀ k, k ≠ 13 → k_fn X l n k = X k) ∧ (∀ j, j ≠ 5 → k_fn X l n 13 j = X 13 j) ∧ k_fn X l n 13 5 = X 13 5 + sm (fun r => bI (k_nrP X (rw_ X l r) (rw_ X l (r + 1)))) n
  | 0 => ⟨fun _ _ => rfl, fun _ _ => rfl, (Int32.add_zero _).symm⟩
  | n + 1 => by
    obtain ⟨i1, i2, i3⟩ := k_fn_at (X := X) (l := l) n
    rw [k_fn]
    generalize k_fn X l n = Y at i1 i2 i3 ⊢
    have hrow : ∀ j, rw_ Y l j = rw_ X l j := fun j => by unfold rw_; rw [i1 28 (by decide)]
    have hp : ∀ f c, k_nrP Y f c ↔ k_nrP X f c := fun f c => by unfold k_nrP k_re; rw [i1 22 (by decide), i1 21 (by decide), i1 16 (by decide)]
    rw [hrow, hrow]
    by_cases h : k_nrP X (rw_ X l n) (rw_ X l (n + 1))
    · rw [if_pos ((hp _ _).mpr h)]
      refine ⟨fun k hk => by rw [wr_ne _ _ _ hk, i1 k hk], fun j hj => by rw [wr_at, if_neg (fun w => hj w.2), i2 j hj], ?_⟩
      rw [wr_at, if_pos ⟨rfl, rfl⟩, i3, sm, bI_t h, Int32.add_assoc]
    · rw [if_neg (fun w => h ((hp _ _).mp w))]
      refine ⟨i1, i2, ?_⟩
      rw [i3, sm, bI_f h, Int32.add_zero]
