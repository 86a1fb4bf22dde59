/-! pure: one lane's cars move, leave, come near: the class -/
theorem k_pl_at {I : Nat → Nat → Int32} {l : Nat} {b a : Int32} (hl : l < 3) : ∀ n, (∀ k, k ≠ 31 → k_pl I l b a n k = I k) ∧ ∀ k l2, l2 < 3 → k_pl I l b a n 31 (k * 3 + l2) = if l2 = l ∧ k < n then I 31 (k * 3 + l2) + bI (b ≤ I 12 k ∧ I 12 k < a) else I 31 (k * 3 + l2)
  | 0 => ⟨fun _ _ => rfl, fun k l2 _ => (if_neg (fun q => absurd q.2 (by omega))).symm⟩
  | n + 1 => by
    obtain ⟨i1, i2⟩ := k_pl_at (I := I) (b := b) (a := a) hl n
    rw [k_pl]
    generalize k_pl I l b a n = X at i1 i2 ⊢
    rw [i1 12 (by decide)]
    by_cases h : b ≤ I 12 n ∧ I 12 n < a
    · rw [if_pos h]
      refine ⟨fun k hk => by rw [wr_ne _ _ _ hk, i1 k hk], fun k l2 h2 => ?_⟩
      rw [wr_at]
      by_cases e : k = n ∧ l2 = l
      · rw [if_pos ⟨rfl, by rw [e.1, e.2]⟩, if_pos ⟨e.2, by omega⟩, e.1, e.2, i2 n l hl, if_neg (by omega), bI_t h]
      · rw [if_neg (fun q => e (by have := q.2; omega)), i2 k l2 h2]
        by_cases q : l2 = l ∧ k < n
        · rw [if_pos q, if_pos ⟨q.1, by omega⟩]
        · rw [if_neg q, if_neg (fun w => q ⟨w.1, by omega⟩)]
    · rw [if_neg h]
      refine ⟨i1, fun k l2 h2 => ?_⟩
      rw [i2 k l2 h2]
      by_cases q : l2 = l ∧ k < n
      · rw [if_pos q, if_pos ⟨q.1, by omega⟩]
      · rw [if_neg q]
        by_cases e : l2 = l ∧ k = n
        · rw [if_pos ⟨e.1, by omega⟩, e.2, bI_f h, Int32.add_zero]
        · rw [if_neg (fun w => e ⟨w.1, by omega⟩)]
theorem k_sa_at {I : Nat → Nat → Int32} {c : Nat} : ∀ n, n ≤ 4 → (∀ k, k ≠ 26 → k_sa I c n k = I k) ∧ ∀ d k, k < 4 → k_sa I c n 26 (d * 4 + k) = if (d = c ∧ k < n) ∧ (¬ I 10 k - I 21 c < 0 ∧ ¬ 400 < I 10 k - I 21 c) then I 26 (d * 4 + k) + 1 else I 26 (d * 4 + k)
  | 0, _ => ⟨fun _ _ => rfl, fun d k _ => (if_neg (fun q => absurd q.1.2 (by omega))).symm⟩
  | n + 1, hn => by
    obtain ⟨i1, i2⟩ := k_sa_at (I := I) (c := c) n (by omega)
    rw [k_sa]
    generalize k_sa I c n = X at i1 i2 ⊢
    rw [i1 10 (by decide), i1 21 (by decide)]
    by_cases h : ¬ I 10 n - I 21 c < 0 ∧ ¬ 400 < I 10 n - I 21 c
    · rw [if_pos h]
      refine ⟨fun k hk => by rw [wr_ne _ _ _ hk, i1 k hk], fun d k h2 => ?_⟩
      rw [wr_at]
      by_cases e : k = n ∧ d = c
      · rw [if_pos ⟨rfl, by rw [e.1, e.2]⟩, e.1, e.2, if_pos ⟨⟨rfl, by omega⟩, h⟩, i2 c n (by omega), if_neg (fun q => absurd q.1.2 (by omega))]
      · rw [if_neg (fun q => e (by have := q.2; omega)), i2 d k h2]
        by_cases q : (d = c ∧ k < n) ∧ (¬ I 10 k - I 21 c < 0 ∧ ¬ 400 < I 10 k - I 21 c)
        · rw [if_pos q, if_pos ⟨⟨q.1.1, by omega⟩, q.2⟩]
        · rw [if_neg q, if_neg (fun w => q ⟨⟨w.1.1, by omega⟩, w.2⟩)]
    · rw [if_neg h]
      refine ⟨i1, fun d k h2 => ?_⟩
      rw [i2 d k h2]
      by_cases q : (d = c ∧ k < n) ∧ (¬ I 10 k - I 21 c < 0 ∧ ¬ 400 < I 10 k - I 21 c)
      · rw [if_pos q, if_pos ⟨⟨q.1.1, by omega⟩, q.2⟩]
      · rw [if_neg q, if_neg (fun w => q ⟨⟨w.1.1, by
          have : k ≠ n := fun e => h (by rw [← e]; exact w.2)
          omega⟩, w.2⟩)]
abbrev nf (A : Nat → Nat → Int32) (c : Nat) : Int32 := A 21 c + A 22 c
abbrev outP (A : Nat → Nat → Int32) (c : Nat) : Prop := A 1 5 < nf A c - A 16 c
abbrev stP (A : Nat → Nat → Int32) (c k : Nat) : Prop := (A 15 c = 1 ∧ A 22 c = 0) ∧ (¬ A 10 k - nf A c < 0 ∧ ¬ 400 < A 10 k - nf A c)
abbrev psP (A : Nat → Nat → Int32) (c k : Nat) : Prop := A 21 c ≤ A 12 k ∧ A 12 k < nf A c
theorem k_mv1_at {X : Nat → Nat → Int32} {ns nn l c : Nat} (hl : l < 3) (hns : ns ≤ 4) : (∀ k, k ≠ 21 → k ≠ 26 → k ≠ 31 → k_mv1 X ns nn l c k = X k) ∧ (∀ d, k_mv1 X ns nn l c 21 d = if d = c then nf X c else X 21 d) ∧ (∀ d k, k < 4 → k_mv1 X ns nn l c 26 (d * 4 + k) = if (d = c ∧ k < ns) ∧ stP X c k then X 26 (d * 4 + k) + 1 else X 26 (d * 4 + k)) ∧ (∀ k l2, l2 < 3 → k_mv1 X ns nn l c 31 (k * 3 + l2) = if l2 = l ∧ k < nn then X 31 (k * 3 + l2) + bI (psP X c k) else X 31 (k * 3 + l2)) := by
  unfold k_mv1
  have e21 : ∀ d, wr X 21 c (X 21 c + X 22 c) 21 d = if d = c then nf X c else X 21 d := fun d => by
    rw [wr_at]
    by_cases e : d = c
    · rw [if_pos ⟨rfl, e⟩, if_pos e]
    · rw [if_neg (fun q => e q.2), if_neg e]
  have eo : ∀ k, k ≠ 21 → wr X 21 c (X 21 c + X 22 c) k = X k := fun k hk => wr_ne _ _ _ hk
  have ec : wr X 21 c (X 21 c + X 22 c) 21 c = nf X c := by rw [e21, if_pos rfl]
  rw [ec]
  obtain ⟨p1, p2⟩ := k_pl_at (I := wr X 21 c (X 21 c + X 22 c)) (b := X 21 c) (a := nf X c) hl nn
  rw [eo 12 (by decide), eo 31 (by decide)] at p2
  generalize k_pl (wr X 21 c (X 21 c + X 22 c)) l (X 21 c) (nf X c) nn = Y at p1 p2 ⊢
  generalize wr X 21 c (X 21 c + X 22 c) = W at e21 eo ec p1
  obtain ⟨s1, s2⟩ := k_sa_at (I := Y) (c := c) ns hns
  rw [p1 15 (by decide), eo 15 (by decide), p1 22 (by decide), eo 22 (by decide)]
  have y26 : Y 26 = X 26 := (p1 26 (by decide)).trans (eo 26 (by decide))
  have y10 : Y 10 = X 10 := (p1 10 (by decide)).trans (eo 10 (by decide))
  have y21c : Y 21 c = nf X c := by rw [p1 21 (by decide), ec]
  rw [y26, y10, y21c] at s2
  by_cases h : X 15 c = 1 ∧ X 22 c = 0
  · rw [if_pos h]
    refine ⟨fun k h1 h2 h3 => by rw [s1 k h2, p1 k h3, eo k h1], fun d => by rw [s1 21 (by decide), p1 21 (by decide), e21 d], fun d k hk => ?_, fun k l2 hl2 => by rw [s1 31 (by decide)]; exact p2 k l2 hl2⟩
    rw [s2 d k hk]
    by_cases q : (d = c ∧ k < ns) ∧ (¬ X 10 k - nf X c < 0 ∧ ¬ 400 < X 10 k - nf X c)
    · rw [if_pos q, if_pos ⟨q.1, h, q.2⟩]
    · rw [if_neg q, if_neg (fun w => q ⟨w.1, w.2.2⟩)]
  · rw [if_neg h]
    refine ⟨fun k h1 h2 h3 => by rw [p1 k h3, eo k h1], fun d => by rw [p1 21 (by decide), e21 d], fun d k hk => ?_, p2⟩
    rw [y26, if_neg (fun w => h w.2.1)]
/-- the rows of one lane move -/
theorem k_mv_at {X : Nat → Nat → Int32} {ns nn l s : Nat} (hl : l < 3) (hns : ns ≤ 4) (hinj : ∀ i j, i < s → j < s → rw_ X l i = rw_ X l j → i = j) : ∀ r, r ≤ s → (∀ k, k ≠ 21 → k ≠ 26 → k ≠ 31 → k_mv X ns nn l r k = X k) ∧ (∀ j, j < r → k_mv X ns nn l r 21 (rw_ X l j) = nf X (rw_ X l j)) ∧ (∀ c, (∀ j, j < r → rw_ X l j ≠ c) → k_mv X ns nn l r 21 c = X 21 c) ∧ (∀ j k, j < r → k < 4 → k_mv X ns nn l r 26 (rw_ X l j * 4 + k) = if k < ns ∧ stP X (rw_ X l j) k then X 26 (rw_ X l j * 4 + k) + 1 else X 26 (rw_ X l j * 4 + k)) ∧ (∀ c k, (∀ j, j < r → rw_ X l j ≠ c) → k < 4 → k_mv X ns nn l r 26 (c * 4 + k) = X 26 (c * 4 + k)) ∧ (∀ k l2, l2 < 3 → k_mv X ns nn l r 31 (k * 3 + l2) = if l2 = l ∧ k < nn then X 31 (k * 3 + l2) + sm (fun j => bI (psP X (rw_ X l j) k)) r else X 31 (k * 3 + l2))
  | 0, _ => ⟨fun _ _ _ _ => rfl, fun j hj => absurd hj (by omega), fun _ _ => rfl, fun j k hj => absurd hj (by omega), fun _ _ _ _ => rfl, fun k l2 _ => by
    split
    · exact (Int32.add_zero _).symm
    · rfl⟩
  | r + 1, hr => by
    obtain ⟨i1, i2, i3, i4, i5, i6⟩ := k_mv_at (nn := nn) hl hns hinj r (by omega)
    rw [k_mv]
    generalize k_mv X ns nn l r = Y at i1 i2 i3 i4 i5 i6 ⊢
    have hrow : rw_ Y l r = rw_ X l r := by unfold rw_; rw [i1 28 (by decide) (by decide) (by decide)]
    have hne : ∀ j, j < r → rw_ X l j ≠ rw_ X l r := fun j hj e => by have := hinj j r (by omega) (by omega) e; omega
    have y21 := i3 _ hne
    rw [hrow]
    obtain ⟨m1, m2, m3, m4⟩ := k_mv1_at (X := Y) (nn := nn) (c := rw_ X l r) hl hns
    have enf : nf Y (rw_ X l r) = nf X (rw_ X l r) := by unfold nf; rw [y21, i1 22 (by decide) (by decide) (by decide)]
    have est : ∀ k, stP Y (rw_ X l r) k ↔ stP X (rw_ X l r) k := fun k => by
      unfold stP
      rw [enf, i1 15 (by decide) (by decide) (by decide), i1 22 (by decide) (by decide) (by decide), i1 10 (by decide) (by decide) (by decide)]
    have eps : ∀ k, bI (psP Y (rw_ X l r) k) = bI (psP X (rw_ X l r) k) := fun k => by
      have : psP Y (rw_ X l r) k ↔ psP X (rw_ X l r) k := by unfold psP; rw [enf, y21, i1 12 (by decide) (by decide) (by decide)]
      by_cases q : psP X (rw_ X l r) k
      · rw [bI_t q, bI_t (this.mpr q)]
      · rw [bI_f q, bI_f (fun w => q (this.mp w))]
    generalize k_mv1 Y ns nn l (rw_ X l r) = Z at m1 m2 m3 m4 ⊢
    refine ⟨fun k h1 h2 h3 => (m1 k h1 h2 h3).trans (i1 k h1 h2 h3), fun j hj => ?_, fun c hc => ?_, fun j k hj hk => ?_, fun c k hc hk => ?_, fun k l2 hl2 => ?_⟩
    · rw [m2]
      by_cases e : j = r
      · rw [e, if_pos rfl, enf]
      · rw [if_neg (hne j (by omega)), i2 j (by omega)]
    · rw [m2, if_neg (fun e => hc r (by omega) e.symm), i3 c (fun j hj => hc j (by omega))]
    · rw [m3 _ k hk]
      by_cases e : j = r
      · rw [e, i5 _ k hne hk]
        by_cases q : k < ns ∧ stP X (rw_ X l r) k
        · rw [if_pos q, if_pos ⟨⟨rfl, q.1⟩, (est k).mpr q.2⟩]
        · rw [if_neg q, if_neg (fun w => q ⟨w.1.2, (est k).mp w.2⟩)]
      · rw [if_neg (fun w => hne j (by omega) w.1.1), i4 j k (by omega) hk]
    · rw [m3 c k hk, if_neg (fun w => hc r (by omega) w.1.1.symm), i5 c k (fun j hj => hc j (by omega)) hk]
    · rw [m4 k l2 hl2, i6 k l2 hl2]
      by_cases q : l2 = l ∧ k < nn
      · rw [if_pos q, if_pos q, if_pos q, sm, eps, Int32.add_assoc]
      · rw [if_neg q, if_neg q, if_neg q]
