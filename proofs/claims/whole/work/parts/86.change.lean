/-! pure: a car changes its lane -/
theorem rel_ch {A B A' B' : Nat → Nat → Int32} {N nl nc ns nn L l l2 r r2 s c : Nat} {M : Int} (h : Rel A B N nl nc ns nn L M) (hc : c < N) (hl : l < 3) (hl2 : l2 < L) (hne : l2 ≠ l) (hs : szI A l = s + 1) (hr : r ≤ s) (hrc : rw_ A l r = c) (hr2 : Rank A l2 (szI A l2) (A 21 c) r2)
    (hfb : ∀ q, r2 = q + 1 → (A 21 c).toInt ≤ (A 21 (rw_ A l2 q)).toInt - (A 16 (rw_ A l2 q)).toInt) (hbh : r2 < szI A l2 → (A 21 (rw_ A l2 r2)).toInt ≤ (A 21 c).toInt - (A 16 c).toInt)
    (hcw : CW A' N nl nc ns nn L (szI A')) (ak : ∀ k, (k ≤ 18 ∧ k ≠ 13) ∨ (20 ≤ k ∧ k ≤ 24) ∨ k = 26 ∨ k = 30 ∨ k = 31 → A' k = A k) (a13 : ∀ j, A' 13 j = if j = 7 then A 13 7 + 1 else A 13 j) (a19 : ∀ q, A' 19 q = if q = c then nI l2 else A 19 q) (a25 : ∀ q, A' 25 q = if q = c then A 13 4 else A 25 q)
    (as : ∀ q, szI A' q = if q = l then s else if q = l2 then szI A l2 + 1 else szI A q) (ar : ∀ j, j < s → rw_ A' l j = if j < r then rw_ A l j else rw_ A l (j + 1)) (ar2 : ∀ j, j ≤ szI A l2 → rw_ A' l2 j = if j < r2 then rw_ A l2 j else if j = r2 then c else rw_ A l2 (j - 1)) (aro : ∀ q j, q ≠ l → q ≠ l2 → j < 60 → rw_ A' q j = rw_ A q j)
    (bk : ∀ k, k ≠ 34 → B' k = B k) (bl : ∀ k, k < 20 → B' 34 k = if k = 5 then B 34 5 + 1 else B 34 k) (bp : ∀ p q, p < 20 → pt (B' 34) p q = if q = c ∧ p = 7 then A 13 4 else if q = c ∧ p = 1 then nI l2 else pt (B 34) p q) : Rel A' B' N nl nc ns nn L M := by
  obtain ⟨ht, ⟨hN1, hN2, hN60⟩, hst, hps, htm, hb, hp, hq, hS, hL, hz, hW, hR⟩ := h
  have hL3 : L ≤ 3 := ht.2.2.2.2.1.2.2.2.2
  have e16 := ak 16 (by omega); have e17 := ak 17 (by omega); have e18 := ak 18 (by omega); have e20 := ak 20 (by omega); have e21 := ak 21 (by omega); have e22 := ak 22 (by omega); have e23 := ak 23 (by omega); have e24 := ak 24 (by omega); have e26 := ak 26 (by omega); have e30 := ak 30 (by omega); have e31 := ak 31 (by omega); have e14 := ak 14 (by omega); have e15 := ak 15 (by omega); have e1 := ak 1 (by omega); have e11 := ak 11 (by omega)
  have e134 : A' 13 4 = A 13 4 := by rw [a13, if_neg (by decide)]
  have n19 : ∀ q, q ≠ c → A' 19 q = A 19 q := fun q hq => by rw [a19, if_neg hq]
  have n25 : ∀ q, q ≠ c → A' 25 q = A 25 q := fun q hq => by rw [a25, if_neg hq]
  have c19 : A' 19 c = nI l2 := by rw [a19, if_pos rfl]
  have c25 : A' 25 c = A 13 4 := by rw [a25, if_pos rfl]
  have nb : ∀ p q, p < 20 → q ≠ c → pt (B' 34) p q = pt (B 34) p q := fun p q h1 h2 => by rw [bp p q h1, if_neg (fun w => h2 w.1), if_neg (fun w => h2 w.1)]
  have cb : ∀ p q, p < 20 → p ≠ 7 → p ≠ 1 → pt (B' 34) p q = pt (B 34) p q := fun p q h1 h2 h3 => by rw [bp p q h1, if_neg (fun w => h2 w.2), if_neg (fun w => h3 w.2)]
  have cb7 : pt (B' 34) 7 c = A 13 4 := by rw [bp 7 c (by decide), if_pos ⟨rfl, rfl⟩]
  have cb1 : pt (B' 34) 1 c = nI l2 := by rw [bp 1 c (by decide), if_neg (by omega), if_pos ⟨rfl, rfl⟩]
  have xl := (hW l hl).2.2.2
  rw [hs] at xl
  have xl2 := (hW l2 (by omega)).2.2.2
  have c20 : A 20 c = 1 := by rw [← hrc]; exact (xl.1 r (by omega)).2.1
  have cl : A 19 c = nI l := by rw [← hrc]; exact (xl.1 r (by omega)).2.2
  have hnl : ¬ nI l2 = nI l := fun e => hne (nI_inj (by omega) (by omega) e)
  refine ⟨ht.congr (fun k hk => ak k (by omega)) (fun k h1 _ => bk k h1), ⟨by rw [e14]; exact hN1, by rw [bl 0 (by decide), if_neg (by decide)]; exact hN2, hN60⟩, ?_, ?_, ?_, ?_, ?_, ?_, ?_, ?_, ?_, ?_, ?_⟩
  · rw [bl 1 (by decide), bl 3 (by decide), bl 4 (by decide), bl 5 (by decide), if_neg (by decide), if_neg (by decide), if_neg (by decide), if_pos rfl, e134, a13 5, if_neg (by decide), a13 6, if_neg (by decide), a13 7, if_pos rfl, hst.2.2.2.1]
    exact ⟨hst.1, hst.2.1, hst.2.2.1, rfl, hst.2.2.2.2⟩
  · intro i hi
    rw [bl (6 + i) (by omega), if_neg (by omega), e31]
    exact hps i hi
  · rw [bl 2 (by decide), if_neg (by decide), htm]
    refine sm_cg (fun i hi => ?_)
    unfold tmF
    rw [e20, e24, e23]
  · intro q hq
    unfold CB
    rw [e16, e17, e18, e22, e21]
    exact hb q hq
  · intro q hq
    unfold RP
    rw [e20, e21, e16, cb 2 q (by decide) (by decide) (by decide), cb 3 q (by decide) (by decide) (by decide), cb 8 q (by decide) (by decide) (by decide)]
    by_cases e : q = c
    · subst e
      rw [cb1, c19]
      exact ⟨(hp q hq).1, rfl, (hp q hq).2.2⟩
    · rw [nb 1 q (by decide) e, n19 q e]
      exact hp q hq
  · intro q hq2
    unfold RQ
    rw [e15, e22, e23, e24, e20, e17, e18, cb 0 q (by decide) (by decide) (by decide), cb 4 q (by decide) (by decide) (by decide), cb 5 q (by decide) (by decide) (by decide), cb 6 q (by decide) (by decide) (by decide), cb 9 q (by decide) (by decide) (by decide), cb 10 q (by decide) (by decide) (by decide)]
    have x := hq q hq2
    by_cases e : q = c
    · subst e
      rw [cb7, c25]
      exact ⟨x.1, x.2.1, x.2.2.1, x.2.2.2.1, fun _ => rfl, x.2.2.2.2.2⟩
    · rw [nb 7 q (by decide) e, n25 q e]
      exact x
  · intro q hq2 k hk
    rw [e26, e134, e11, cb (11 + k) q (by omega) (by omega) (by omega)]
    exact hS q hq2 k hk
  · intro q hq2
    have x := hL q hq2
    unfold RL lnI
    rw [e20, e16, e21, e1]
    by_cases e : q = c
    · subst e
      rw [c19, cl_nI (by omega)]
      exact ⟨x.1, ⟨rfl, hl2⟩, x.2.2⟩
    · rw [n19 q e]
      exact x
  · intro i h1 h2
    rw [e26]
    exact hz i h1 h2
  · intro q hq2
    have hrow := hcw.2.2.2.2.2.2 q hq2
    refine ⟨hrow.1, hrow.2.1, fun j hj => (hrow.at hj).1, ?_⟩
    rw [as]
    by_cases e1 : q = l
    · subst e1
      rw [if_pos rfl]
      have ix : ∀ j, j < s → ∃ i, i < s + 1 ∧ i ≠ r ∧ rw_ A' q j = rw_ A q i ∧ ((j < r ∧ i = j) ∨ (r ≤ j ∧ i = j + 1)) := fun j hj => by
        rw [ar j hj]
        by_cases w : j < r
        · rw [if_pos w]; exact ⟨j, by omega, by omega, rfl, Or.inl ⟨w, rfl⟩⟩
        · rw [if_neg w]; exact ⟨j + 1, by omega, by omega, rfl, Or.inr ⟨by omega, rfl⟩⟩
      refine ⟨fun j hj => ?_, fun q2 h1 h2 h3 => ?_, fun j hj => ?_⟩
      · obtain ⟨i, hi, hir, ei, -⟩ := ix j hj
        obtain ⟨y1, y2, y3⟩ := xl.1 i hi
        have hnc : rw_ A q i ≠ c := fun e => hir (xl.inj hb hi (by omega) (e.trans hrc.symm))
        rw [ei, e20, n19 _ hnc]
        exact ⟨y1, y2, y3⟩
      · rw [e20] at h2
        have hq2c : q2 ≠ c := fun e => by rw [e, c19] at h3; exact hnl h3
        rw [n19 q2 hq2c] at h3
        obtain ⟨i, hi, ei⟩ := xl.2.1 q2 h1 h2 h3
        have hir : i ≠ r := fun e => hq2c (by rw [← ei, e, hrc])
        by_cases w : i < r
        · exact ⟨i, by omega, by rw [ar i (by omega), if_pos w]; exact ei⟩
        · exact ⟨i - 1, by omega, by rw [ar (i - 1) (by omega), if_neg (by omega), show i - 1 + 1 = i by omega]; exact ei⟩
      · obtain ⟨i, hi, -, ei, di⟩ := ix j (by omega)
        obtain ⟨i2, hi2, -, ei2, di2⟩ := ix (j + 1) hj
        rw [ei, ei2, e21, e16]
        exact xl.ord hb (by omega) hi2
    · rw [if_neg e1]
      by_cases e2 : q = l2
      · subst e2
        rw [if_pos rfl]
        have hr2s := hr2.1
        refine ⟨fun j hj => ?_, fun q2 h1 h2 h3 => ?_, fun j hj => ?_⟩
        · have old : ∀ i, i < szI A q → rw_ A q i < N ∧ A' 20 (rw_ A q i) = 1 ∧ A' 19 (rw_ A q i) = nI q := fun i hi => by
            obtain ⟨y1, y2, y3⟩ := xl2.1 i hi
            have hnc : rw_ A q i ≠ c := fun e => by rw [e, cl] at y3; exact hnl y3.symm
            rw [e20, n19 _ hnc]
            exact ⟨y1, y2, y3⟩
          rw [ar2 j (by omega)]
          by_cases w : j < r2
          · rw [if_pos w]; exact old j (by omega)
          · rw [if_neg w]
            by_cases w2 : j = r2
            · rw [if_pos w2, e20, c19]; exact ⟨hc, c20, rfl⟩
            · rw [if_neg w2]; exact old (j - 1) (by omega)
        · rw [e20] at h2
          by_cases e : q2 = c
          · exact ⟨r2, by omega, by rw [ar2 r2 hr2s, if_neg (by omega), if_pos rfl, e]⟩
          · rw [n19 q2 e] at h3
            obtain ⟨i, hi, ei⟩ := xl2.2.1 q2 h1 h2 h3
            by_cases w : i < r2
            · exact ⟨i, by omega, by rw [ar2 i (by omega), if_pos w]; exact ei⟩
            · exact ⟨i + 1, by omega, by rw [ar2 (i + 1) (by omega), if_neg (by omega), if_neg (by omega)]; exact ei⟩
        · rw [e21, e16, ar2 j (by omega), ar2 (j + 1) (by omega)]
          by_cases w : j + 1 < r2
          · rw [if_pos (show j < r2 by omega), if_pos w]; exact xl2.2.2 j (by omega)
          · rw [if_neg w]
            by_cases w2 : j + 1 = r2
            · rw [if_pos (show j < r2 by omega), if_pos w2]; exact hfb j w2.symm
            · rw [if_neg w2, if_neg (show ¬ j < r2 by omega)]
              by_cases w3 : j = r2
              · rw [if_pos w3, show j + 1 - 1 = r2 by omega]; exact hbh (by omega)
              · rw [if_neg w3]
                have := xl2.2.2 (j - 1) (by omega)
                rw [show j - 1 + 1 = j + 1 - 1 by omega] at this
                exact this
      · rw [if_neg e2]
        have x := hW q hq2
        refine x.2.2.2.congr (fun j hj => aro q j e1 e2 (by have := x.2.1; omega)) (fun q2 h1 => ?_) (fun q2 h1 h2 h3 => by rw [e21, e16]; exact ⟨rfl, rfl⟩)
        rw [e20]
        by_cases e : q2 = c
        · subst e
          rw [c19, cl]
          exact ⟨fun w => absurd (nI_inj (by omega) (by omega) w.2).symm e2, fun w => absurd (nI_inj (by omega) (by omega) w.2).symm e1⟩
        · rw [n19 q2 e]
  · intro q hq2
    obtain ⟨x1, x2, x3⟩ := hR q hq2
    unfold RN k0I
    rw [e30, e20]
    refine ⟨x1, x2, fun q2 hq3 w => ?_⟩
    by_cases e : q2 = c
    · rw [e, c20] at w
      exact absurd w.1 (by decide)
    · rw [n19 q2 e] at w
      exact x3 q2 hq3 w
