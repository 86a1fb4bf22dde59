/-! pure: one lane moves -/
abbrev inl_ (X : Nat → Nat → Int32) (l c : Nat) : Prop := X 20 c = 1 ∧ X 19 c = nI l
theorem k_lane {X : Nat → Nat → Int32} {N ns nn l : Nat} (hl : l < 3) (hns : ns ≤ 4) (hb : ∀ c, c < N → CB X c) (hw : RW X N l) (hE : (X 1 5).toInt ≤ 100000) (hr : ∀ c, c < N → inl_ X l c → (X 21 c).toInt - (X 16 c).toInt ≤ (X 1 5).toInt) (hsp : ∀ j, j + 1 < szI X l → (X 21 (rw_ X l (j + 1))).toInt + (X 22 (rw_ X l (j + 1))).toInt ≤ (X 21 (rw_ X l j)).toInt - (X 16 (rw_ X l j)).toInt)
    {Y : Nat → Nat → Int32} (hY : Y = k_fn (k_out X ns nn l) l (szI (k_out X ns nn l) l - 1)) :
    (∀ k, k ≠ 13 → k ≠ 20 → k ≠ 21 → k ≠ 24 → k ≠ 26 → k ≠ 28 → k ≠ 29 → k ≠ 31 → Y k = X k) ∧ (∀ j, j ≠ 5 → Y 13 j = X 13 j) ∧
    (∀ c, c < N → Y 21 c = if inl_ X l c then nf X c else X 21 c) ∧ (∀ c, c < N → Y 20 c = if inl_ X l c ∧ outP X c then 2 else X 20 c) ∧ (∀ c, c < N → Y 24 c = if inl_ X l c ∧ outP X c then X 13 4 else X 24 c) ∧
    (∀ c k, c < N → k < 4 → Y 26 (c * 4 + k) = if inl_ X l c ∧ k < ns ∧ stP X c k then X 26 (c * 4 + k) + 1 else X 26 (c * 4 + k)) ∧ (∀ c k, N ≤ c → k < 4 → Y 26 (c * 4 + k) = X 26 (c * 4 + k)) ∧
    (∀ k l2, l2 < 3 → Y 31 (k * 3 + l2) = if l2 = l ∧ k < nn then X 31 (k * 3 + l2) + sm (fun c => if inl_ X l c then bI (psP X c k) else 0) N else X 31 (k * 3 + l2)) ∧
    RW Y N l ∧ (∀ l2, l2 < 3 → l2 ≠ l → Y 29 l2 = X 29 l2 ∧ ∀ j, j < 60 → Y 28 (l2 * 60 + j) = X 28 (l2 * 60 + j)) ∧ Y 13 5 = X 13 5 + NS Y l := by
  obtain ⟨w1, w2, w3, w4⟩ := hw
  have hinj : ∀ i j, i < szI X l → j < szI X l → rw_ X l i = rw_ X l j → i = j := fun i j h1 h2 e => w4.inj hb h1 h2 e
  obtain ⟨m1, m2, m3, m4, m5, m6⟩ := k_mv_at (nn := nn) hl hns hinj (szI X l) (Nat.le_refl _)
  have hno : ∀ c, ¬ (inl_ X l c ∧ c < N) → ∀ j, j < szI X l → rw_ X l j ≠ c := fun c hc j hj e => hc (by
    have := w4.1 j hj
    rw [e] at this
    exact ⟨this.2, this.1⟩)
  rw [k_out] at hY
  generalize k_mv X ns nn l (szI X l) = Z at m1 m2 m3 m4 m5 m6 hY
  have z21 : ∀ c, c < N → Z 21 c = if inl_ X l c then nf X c else X 21 c := fun c hc => by
    by_cases q : inl_ X l c
    · obtain ⟨j, hj, e⟩ := w4.2.1 c hc q.1 q.2
      rw [if_pos q, ← e, m2 j hj]
    · rw [if_neg q, m3 c (hno c (fun w => q w.1))]
  have o := fun k (h1 : k ≠ 21) (h2 : k ≠ 26) (h3 : k ≠ 31) => m1 k h1 h2 h3
  have o16 := o 16 (by decide) (by decide) (by decide)
  have o19 := o 19 (by decide) (by decide) (by decide)
  have o20 := o 20 (by decide) (by decide) (by decide)
  have o22 := o 22 (by decide) (by decide) (by decide)
  have o28 := o 28 (by decide) (by decide) (by decide)
  have o1 := o 1 (by decide) (by decide) (by decide)
  have o13 := o 13 (by decide) (by decide) (by decide)
  have hrow : ∀ j, rw_ Z l j = rw_ X l j := fun j => by unfold rw_; rw [o28]
  have tnf : ∀ c, c < N → (nf X c).toInt = (X 21 c).toInt + (X 22 c).toInt := fun c hc => by
    obtain ⟨-, -, -, b4, b5⟩ := hb c hc
    exact ti_add (by omega) (by omega)
  have cbZ : ∀ c, c < N → CB Z c := fun c hc => by
    have q := hb c hc
    have := tnf c hc
    unfold CB at q ⊢
    rw [o16, o 17 (by decide) (by decide) (by decide), o 18 (by decide) (by decide) (by decide), o22, z21 c hc]
    refine ⟨q.1, q.2.1, q.2.2.1, q.2.2.2.1, ?_⟩
    by_cases w : inl_ X l c
    · rw [if_pos w, this]
      have := hr c hc w
      omega
    · rw [if_neg w]; exact q.2.2.2.2
  have okZ : LaneOK Z N l (szI X l) := by
    refine ⟨fun j hj => ?_, fun c c1 c2 c3 => ?_, fun j hj => ?_⟩
    · rw [hrow, o20, o19]; exact w4.1 j hj
    · rw [o20] at c2
      rw [o19] at c3
      obtain ⟨j, hj, e⟩ := w4.2.1 c c1 c2 c3
      exact ⟨j, hj, by rw [hrow]; exact e⟩
    · have x1 := (w4.1 j (by omega)).1
      have y1 := (w4.1 (j + 1) hj).1
      rw [hrow, hrow, m2 j (by omega), m2 (j + 1) hj, o16, tnf _ x1, tnf _ y1]
      have := hsp j hj
      have := (hb _ x1).2.2.2.1
      omega
  have eout : ∀ c, c < N → inl_ X l c → (Z 1 5 < k_re Z c ↔ outP X c) := fun c hc q => by
    unfold outP k_re
    rw [o1, z21 c hc, if_pos q, o16]
  obtain ⟨l1, l2, l3, l4, l5⟩ := k_lo_at hl (szI X l) Z (szI X l) okZ cbZ (by rw [o 29 (by decide) (by decide) (by decide)]; exact w1) w2 (fun j hj => by rw [hrow, o28]; exact w3 j hj) (Nat.le_refl _) (fun j h1 h2 => absurd h1 (by omega))
  generalize (k_lo l (szI X l) Z (szI X l)).1 = W at l1 l2 l3 l4 l5 hY
  obtain ⟨f1, f2, f3⟩ := k_fn_at (X := W) (l := l) (szI W l - 1)
  rw [← hY] at f1 f2 f3
  have W19 : W 19 = X 19 := (l1 19 (by decide) (by decide) (by decide) (by decide)).trans o19
  have hin : ∀ c, c < N → inl_ X l c → outP X c → W 20 c = 2 ∧ W 24 c = X 13 4 := fun c hc q1 q2 => by
    rcases l4 c hc with ⟨a1, a2⟩ | ⟨a1, a2, a3, a4, a5⟩
    · obtain ⟨j, hj, e⟩ := l2.2.2.2.2.1 c hc (by rw [a1, o20]; exact q1.1) (by rw [W19]; exact q1.2)
      exact absurd ((eout c hc q1).mpr q2) (by rw [← e]; exact l5 j hj)
    · exact ⟨a4, by rw [a5, o13]⟩
  have hout : ∀ c, c < N → ¬ (inl_ X l c ∧ outP X c) → W 20 c = X 20 c ∧ W 24 c = X 24 c := fun c hc q => by
    rcases l4 c hc with ⟨a1, a2⟩ | ⟨a1, a2, a3, a4, a5⟩
    · exact ⟨by rw [a1, o20], by rw [a2, o 24 (by decide) (by decide) (by decide)]⟩
    · rw [o20] at a1
      rw [o19] at a2
      exact absurd ⟨⟨a1, a2⟩, (eout c hc ⟨a1, a2⟩).mp a3⟩ q
  refine ⟨fun k k1 k2 k3 k4 k5 k6 k7 k8 => ?_, fun j hj => ?_, fun c hc => ?_, fun c hc => ?_, fun c hc => ?_, fun c k hc hk => ?_, fun c k hc hk => ?_, fun k l2 hl2 => ?_, ?_, fun l2 h1 h2 => ?_, ?_⟩
  · rw [f1 k k1, l1 k k2 k4 k6 k7, o k k3 k5 k8]
  · rw [f2 j hj, l1 13 (by decide) (by decide) (by decide) (by decide), o13]
  · rw [f1 21 (by decide), l1 21 (by decide) (by decide) (by decide) (by decide), z21 c hc]
  · rw [f1 20 (by decide)]
    by_cases q : inl_ X l c ∧ outP X c
    · rw [if_pos q]; exact (hin c hc q.1 q.2).1
    · rw [if_neg q]; exact (hout c hc q).1
  · rw [f1 24 (by decide)]
    by_cases q : inl_ X l c ∧ outP X c
    · rw [if_pos q]; exact (hin c hc q.1 q.2).2
    · rw [if_neg q]; exact (hout c hc q).2
  · rw [f1 26 (by decide), l1 26 (by decide) (by decide) (by decide) (by decide)]
    by_cases q : inl_ X l c
    · obtain ⟨j, hj, e⟩ := w4.2.1 c hc q.1 q.2
      rw [← e, m4 j k hj hk]
      rw [← e] at q
      by_cases w : k < ns ∧ stP X (rw_ X l j) k
      · rw [if_pos w, if_pos ⟨q, w⟩]
      · rw [if_neg w, if_neg (fun z => w z.2)]
    · rw [if_neg (fun z => q z.1), m5 c k (hno c (fun w => q w.1)) hk]
  · rw [f1 26 (by decide), l1 26 (by decide) (by decide) (by decide) (by decide), m5 c k (hno c (fun w => absurd w.2 (by omega))) hk]
  · rw [f1 31 (by decide), l1 31 (by decide) (by decide) (by decide) (by decide), m6 k l2 hl2, w4.sum hb (fun c => bI (psP X c k))]
  · have q := l2
    have eR : ∀ j, rw_ Y l j = rw_ W l j := fun j => by unfold rw_; rw [f1 28 (by decide)]
    have eZ : szI Y l = szI W l := by unfold szI; rw [f1 29 (by decide)]
    unfold RW at q ⊢
    rw [eZ, f1 29 (by decide), f1 28 (by decide)]
    exact ⟨q.1, q.2.1, fun j hj => by rw [eR]; exact q.2.2.1 j hj, q.2.2.2.congr (fun j _ => eR j) (fun c _ => by rw [f1 20 (by decide), f1 19 (by decide)]) (fun c _ _ _ => by rw [f1 21 (by decide), f1 16 (by decide)]; exact ⟨rfl, rfl⟩)⟩
  · rw [f1 29 (by decide), f1 28 (by decide)]
    obtain ⟨a1, a2⟩ := l3 l2 h1 h2
    exact ⟨by rw [a1, o 29 (by decide) (by decide) (by decide)], fun j hj => by rw [a2 j hj, o28]⟩
  · rw [f3, l1 13 (by decide) (by decide) (by decide) (by decide), o13]
    congr 1
    have eR : ∀ j, rw_ Y l j = rw_ W l j := fun j => by unfold rw_; rw [f1 28 (by decide)]
    have eZ : szI Y l = szI W l := by unfold szI; rw [f1 29 (by decide)]
    unfold NS
    rw [eZ]
    refine sm_cg (fun r _ => ?_)
    rw [eR, eR]
    unfold k_nrP k_re
    rw [f1 22 (by decide), f1 21 (by decide), f1 16 (by decide)]
