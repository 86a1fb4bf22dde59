/-! pure: a car comes in -/
theorem sm_cg {f g : Nat → Int32} : ∀ {N : Nat}, (∀ i, i < N → f i = g i) → sm f N = sm g N
  | 0, _ => rfl
  | N + 1, h => by
    rw [sm, sm, sm_cg (fun i hi => h i (by omega)), h N (by omega)]
theorem nI_inj {a b : Nat} (ha : a < 2147483648) (hb : b < 2147483648) (h : nI a = nI b) : a = b := by
  have := congrArg Int32.toInt h
  rw [ti_nI ha, ti_nI hb] at this
  omega
theorem rel_in {A B A' B' : Nat → Nat → Int32} {N nl nc ns nn L l w : Nat} {M : Int} (h : Rel A B N nl nc ns nn L M) (hw : w < N) (hl : l < L) (w0 : A 20 w = 0) (wl : A 19 w = nI l) (hroom : ∀ s, szI A l = s + 1 → (A 16 w).toInt ≤ (A 21 (rw_ A l s)).toInt - (A 16 (rw_ A l s)).toInt) (hs60 : szI A l < 60)
    (ak : ∀ k, k ≤ 19 ∨ k = 22 ∨ k = 24 ∨ k = 26 ∨ k = 30 ∨ k = 31 → A' k = A k) (a20 : ∀ c, A' 20 c = if c = w then 1 else A 20 c) (a21 : ∀ c, A' 21 c = if c = w then A 16 w else A 21 c) (a23 : ∀ c, A' 23 c = if c = w then A 13 4 else A 23 c) (a25 : ∀ c, A' 25 c = if c = w then A 13 4 else A 25 c)
    (a29 : ∀ l2, A' 29 l2 = if l2 = l then nI (szI A l + 1) else A 29 l2) (a28 : ∀ j, A' 28 j = if j = l * 60 + szI A l then nI w else A 28 j)
    (bk : ∀ k, k ≠ 34 → B' k = B k) (bl : ∀ k, k < 20 → B' 34 k = B 34 k) (bp : ∀ p c, p < 20 → pt (B' 34) p c = if c = w ∧ p = 7 then A 13 4 else if c = w ∧ p = 5 then A 13 4 else if c = w ∧ p = 3 then A 16 w else if c = w ∧ p = 2 then 1 else pt (B 34) p c) : Rel A' B' N nl nc ns nn L M := by
  obtain ⟨ht, ⟨hN1, hN2, hN60⟩, hst, hps, htm, hb, hp, hq, hS, hL, hz, hW, hR⟩ := h
  have hL3 : L ≤ 3 := ht.2.2.2.2.1.2.2.2.2
  have e16 := ak 16 (by omega); have e17 := ak 17 (by omega); have e18 := ak 18 (by omega); have e19 := ak 19 (by omega); have e22 := ak 22 (by omega); have e24 := ak 24 (by omega); have e26 := ak 26 (by omega); have e30 := ak 30 (by omega); have e31 := ak 31 (by omega); have e13 := ak 13 (by omega); have e14 := ak 14 (by omega); have e15 := ak 15 (by omega); have e1 := ak 1 (by omega); have e11 := ak 11 (by omega)
  have n20 : ∀ c, c ≠ w → A' 20 c = A 20 c := fun c hc => by rw [a20, if_neg hc]
  have n21 : ∀ c, c ≠ w → A' 21 c = A 21 c := fun c hc => by rw [a21, if_neg hc]
  have n23 : ∀ c, c ≠ w → A' 23 c = A 23 c := fun c hc => by rw [a23, if_neg hc]
  have n25 : ∀ c, c ≠ w → A' 25 c = A 25 c := fun c hc => by rw [a25, if_neg hc]
  have w20 : A' 20 w = 1 := by rw [a20, if_pos rfl]
  have w21 : A' 21 w = A 16 w := by rw [a21, if_pos rfl]
  have w23 : A' 23 w = A 13 4 := by rw [a23, if_pos rfl]
  have w25 : A' 25 w = A 13 4 := by rw [a25, if_pos rfl]
  have nb : ∀ p c, p < 20 → c ≠ w → pt (B' 34) p c = pt (B 34) p c := fun p c h1 h2 => by rw [bp p c h1, if_neg (fun q => h2 q.1), if_neg (fun q => h2 q.1), if_neg (fun q => h2 q.1), if_neg (fun q => h2 q.1)]
  have wb : ∀ p, p < 20 → p ≠ 7 → p ≠ 5 → p ≠ 3 → p ≠ 2 → pt (B' 34) p w = pt (B 34) p w := fun p h1 h2 h3 h4 h5 => by rw [bp p w h1, if_neg (fun q => h2 q.2), if_neg (fun q => h3 q.2), if_neg (fun q => h4 q.2), if_neg (fun q => h5 q.2)]
  have wb7 : pt (B' 34) 7 w = A 13 4 := by rw [bp 7 w (by decide), if_pos ⟨rfl, rfl⟩]
  have wb5 : pt (B' 34) 5 w = A 13 4 := by rw [bp 5 w (by decide), if_neg (by omega), if_pos ⟨rfl, rfl⟩]
  have wb3 : pt (B' 34) 3 w = A 16 w := by rw [bp 3 w (by decide), if_neg (by omega), if_neg (by omega), if_pos ⟨rfl, rfl⟩]
  have wb2 : pt (B' 34) 2 w = 1 := by rw [bp 2 w (by decide), if_neg (by omega), if_neg (by omega), if_neg (by omega), if_pos ⟨rfl, rfl⟩]
  have s29 : ∀ l2, szI A' l2 = if l2 = l then szI A l + 1 else szI A l2 := fun l2 => by
    unfold szI
    rw [a29]
    split
    · exact cl_nI (by show szI A l + 1 < _; omega)
    · rfl
  have r28 : ∀ l2 j, ¬ (l2 * 60 + j = l * 60 + szI A l) → rw_ A' l2 j = rw_ A l2 j := fun l2 j hj => by unfold rw_; rw [a28, if_neg hj]
  have rw28 : rw_ A' l (szI A l) = w := by unfold rw_; rw [a28, if_pos rfl, cl_nI (by omega)]
  have hbw := hb w hw
  refine ⟨ht.congr (fun k hk => ak k (by omega)) (fun k h1 _ => bk k h1), ⟨by rw [e14]; exact hN1, by rw [bl 0 (by decide)]; exact hN2, hN60⟩, ?_, ?_, ?_, ?_, ?_, ?_, ?_, ?_, ?_, ?_, ?_⟩
  · rw [bl 1 (by decide), bl 3 (by decide), bl 4 (by decide), bl 5 (by decide), e13]; exact hst
  · intro i hi
    rw [bl (6 + i) (by omega), e31]
    exact hps i hi
  · rw [bl 2 (by decide), htm]
    refine sm_cg (fun i hi => ?_)
    unfold tmF
    by_cases hiw : i = w
    · subst hiw
      rw [w20, w0]
      rfl
    · rw [n20 i hiw, n23 i hiw, e24]
  · intro c hc
    unfold CB
    rw [e16, e17, e18, e22]
    by_cases hcw : c = w
    · subst hcw
      rw [w21]
      have b := hb c hc
      refine ⟨b.1, b.2.1, b.2.2.1, b.2.2.2.1, by have := b.1; omega, by have := b.1; omega⟩
    · rw [n21 c hcw]; exact hb c hc
  · intro c hc
    unfold RP
    rw [e19, e16]
    by_cases hcw : c = w
    · subst hcw
      rw [wb2, wb3, wb 1 (by decide) (by decide) (by decide) (by decide) (by decide), wb 8 (by decide) (by decide) (by decide) (by decide) (by decide), w20, w21]
      exact ⟨rfl, (hp c hc).2.1, rfl, (hp c hc).2.2.2⟩
    · rw [nb 2 c (by decide) hcw, nb 1 c (by decide) hcw, nb 3 c (by decide) hcw, nb 8 c (by decide) hcw, n20 c hcw, n21 c hcw]; exact hp c hc
  · intro c hc
    unfold RQ
    rw [e15, e22, e24, e17, e18]
    by_cases hcw : c = w
    · subst hcw
      rw [wb5, wb7, wb 0 (by decide) (by decide) (by decide) (by decide) (by decide), wb 4 (by decide) (by decide) (by decide) (by decide) (by decide), wb 6 (by decide) (by decide) (by decide) (by decide) (by decide), wb 9 (by decide) (by decide) (by decide) (by decide) (by decide), wb 10 (by decide) (by decide) (by decide) (by decide) (by decide), w23, w25]
      have q := hq c hc
      exact ⟨q.1, q.2.1, rfl, q.2.2.2.1, fun _ => rfl, q.2.2.2.2.2⟩
    · rw [nb 0 c (by decide) hcw, nb 4 c (by decide) hcw, nb 5 c (by decide) hcw, nb 6 c (by decide) hcw, nb 7 c (by decide) hcw, nb 9 c (by decide) hcw, nb 10 c (by decide) hcw, n20 c hcw, n23 c hcw, n25 c hcw]; exact hq c hc
  · intro c hc k hk
    rw [e26, e13, e11]
    have e : pt (B' 34) (11 + k) c = pt (B 34) (11 + k) c := by
      by_cases hcw : c = w
      · subst hcw; exact wb (11 + k) (by omega) (by omega) (by omega) (by omega) (by omega)
      · exact nb (11 + k) c (by omega) hcw
    rw [e]
    exact hS c hc k hk
  · intro c hc
    unfold RL lnI
    rw [e19, e16, e1]
    by_cases hcw : c = w
    · subst hcw
      rw [w20, w21]
      have q := hL c hc
      have t6 := ht.2.2.2.2.2.1
      exact ⟨Or.inr (Or.inl rfl), q.2.1, fun _ => ⟨Int.le_refl _, by omega⟩⟩
    · rw [n20 c hcw, n21 c hcw]; exact hL c hc
  · intro i h1 h2
    rw [e26]
    exact hz i h1 h2
  · intro l2 hl2
    obtain ⟨x1, x2, x3, x4⟩ := hW l2 hl2
    unfold RW
    by_cases hll : l2 = l
    · subst hll
      rw [s29, if_pos rfl]
      refine ⟨by rw [a29, if_pos rfl], by omega, fun j hj => ?_, fun j hj => ?_, fun c h1 h2 h3 => ?_, fun j hj => ?_⟩
      · by_cases hjs : j = szI A l2
        · rw [hjs, rw28, a28, if_pos rfl]
        · rw [r28 l2 j (by omega), a28, if_neg (by omega)]; exact x3 j (by omega)
      · by_cases hjs : j = szI A l2
        · rw [hjs, rw28, e19]; exact ⟨hw, w20, wl⟩
        · obtain ⟨y1, y2, y3⟩ := x4.1 j (by omega)
          have hne : rw_ A l2 j ≠ w := fun e => by rw [e, w0] at y2; exact absurd y2 (by decide)
          rw [r28 l2 j (by omega), n20 _ hne, e19]
          exact ⟨y1, y2, y3⟩
      · by_cases hcw : c = w
        · exact ⟨szI A l2, by omega, by rw [rw28, hcw]⟩
        · rw [n20 c hcw] at h2
          rw [e19] at h3
          obtain ⟨j, hj, e⟩ := x4.2.1 c h1 h2 h3
          exact ⟨j, by omega, by rw [r28 l2 j (by omega)]; exact e⟩
      · obtain ⟨y1, y2, y3⟩ := x4.1 j (by omega)
        have hne : rw_ A l2 j ≠ w := fun e => by rw [e, w0] at y2; exact absurd y2 (by decide)
        rw [r28 l2 j (by omega), n21 _ hne, e16]
        by_cases hjs : j + 1 = szI A l2
        · rw [hjs, rw28, w21]
          exact hroom j hjs.symm
        · obtain ⟨z1, z2, z3⟩ := x4.1 (j + 1) (by omega)
          have hne2 : rw_ A l2 (j + 1) ≠ w := fun e => by rw [e, w0] at z2; exact absurd z2 (by decide)
          rw [r28 l2 (j + 1) (by omega), n21 _ hne2]
          exact x4.2.2 j (by omega)
    · have hl60 : ∀ j, j < 60 → ¬ (l2 * 60 + j = l * 60 + szI A l) := fun j hj => by omega
      rw [s29, if_neg hll]
      refine ⟨by rw [a29, if_neg hll]; exact x1, x2, fun j hj => ?_, x4.congr (fun j hj => r28 l2 j (hl60 j (by omega))) (fun c hc => ?_) (fun c h1 h2 h3 => ?_)⟩
      · rw [r28 l2 j (hl60 j (by omega)), a28, if_neg (hl60 j (by omega))]; exact x3 j hj
      · rw [e19]
        by_cases hcw : c = w
        · subst hcw
          have hne : ¬ A 19 c = nI l2 := fun e => hll (nI_inj (by omega) (by omega) (e.symm.trans wl))
          exact ⟨fun q => absurd q.2 hne, fun q => absurd q.2 hne⟩
        · rw [n20 c hcw]
      · have hcw : c ≠ w := fun e => by rw [e, w0] at h2; exact absurd h2 (by decide)
        rw [n21 c hcw, e16]
        exact ⟨rfl, rfl⟩
  · intro l2 hl2
    obtain ⟨x1, x2, x3⟩ := hR l2 hl2
    unfold RN k0I
    rw [e30, e19]
    refine ⟨x1, x2, fun c hc q => ?_⟩
    by_cases hcw : c = w
    · rw [hcw, w20] at q
      exact absurd q.1 (by decide)
    · rw [n20 c hcw] at q
      exact x3 c hc q
/-- one speed, on both sides -/
theorem rel_sp {A B : Nat → Nat → Int32} {N nl nc ns nn L w : Nat} {M : Int} {v : Int32} (h : Rel A B N nl nc ns nn L M) (hv : 0 ≤ v.toInt ∧ v.toInt ≤ 200) : Rel (wr A 22 w v) (mp B w 4 v) N nl nc ns nn L M := by
  obtain ⟨ht, ⟨hN1, hN2, hN60⟩, hst, hps, htm, hb, hp, hq, hS, hL, hz, hW, hR⟩ := h
  have nb : ∀ p c, p < 20 → p ≠ 4 → pt (mp B w 4 v 34) p c = pt (B 34) p c := fun p c h1 h2 => by rw [mp_pt _ _ _ _ (by decide) h1, if_neg (fun q => h2 q.2)]
  refine ⟨ht.congr (fun k hk => wr_ne _ _ _ (by omega)) (fun k h1 _ => mp_ne _ _ _ _ h1), ⟨hN1, by rw [mp_lo _ _ _ _ (by decide)]; exact hN2, hN60⟩, ?_, ?_, ?_, ?_, ?_, ?_, ?_, ?_, hz, hW, hR⟩
  · rw [mp_lo _ _ _ _ (by decide), mp_lo _ _ _ _ (by decide), mp_lo _ _ _ _ (by decide), mp_lo _ _ _ _ (by decide)]; exact hst
  · intro i hi
    rw [mp_lo _ _ _ _ (by omega)]
    exact hps i hi
  · rw [mp_lo _ _ _ _ (by decide)]; exact htm
  · intro c hc
    obtain ⟨b1, b2, b3, b4, b5⟩ := hb c hc
    refine ⟨b1, b2, b3, ?_, b5⟩
    rw [wr_at]
    split
    · exact hv
    · exact b4
  · intro c hc
    unfold RP
    rw [nb 2 c (by decide) (by decide), nb 1 c (by decide) (by decide), nb 3 c (by decide) (by decide), nb 8 c (by decide) (by decide)]
    exact hp c hc
  · intro c hc
    obtain ⟨q1, q2, q3⟩ := hq c hc
    unfold RQ
    rw [nb 0 c (by decide) (by decide), nb 5 c (by decide) (by decide), nb 6 c (by decide) (by decide), nb 7 c (by decide) (by decide), nb 9 c (by decide) (by decide), nb 10 c (by decide) (by decide), mp_pt _ _ _ _ (by decide) (by decide)]
    refine ⟨q1, ?_, q3⟩
    rw [wr_at]
    by_cases e : c = w
    · rw [if_pos ⟨e, rfl⟩, if_pos ⟨rfl, e⟩]
    · rw [if_neg (fun q => e q.1), if_neg (fun q => e q.2)]; exact q2
  · intro c hc k hk
    rw [nb (11 + k) c (by omega) (by omega)]
    exact hS c hc k hk
  · exact hL
/-- who waits longest -/
theorem k_fw_is {A : Nat → Nat → Int32} {l : Int32} : ∀ m k, k_fw A l m k < k + m → k_wt A l (k_fw A l m k)
  | 0, k, h => by rw [k_fw] at h; omega
  | m + 1, k, h => by
    rw [k_fw] at h ⊢
    split at h
    · next hw => rw [if_pos hw]; exact hw
    · next hw => rw [if_neg hw]; exact k_fw_is m (k + 1) (by omega)
theorem k_fw_no {A : Nat → Nat → Int32} {l : Int32} : ∀ m k j, k ≤ j → j < k_fw A l m k → ¬ k_wt A l j
  | 0, k, j, h1, h2 => by rw [k_fw] at h2; omega
  | m + 1, k, j, h1, h2 => by
    rw [k_fw] at h2
    split at h2
    · omega
    · next hw =>
      by_cases hj : j = k
      · rw [hj]; exact hw
      · exact k_fw_no m (k + 1) j (by omega) h2
theorem k_fw_ge {A : Nat → Nat → Int32} {l : Int32} : ∀ m k, k ≤ k_fw A l m k
  | 0, k => Nat.le_refl k
  | m + 1, k => by
    rw [k_fw]
    split
    · exact Nat.le_refl k
    · have := k_fw_ge (A := A) (l := l) m (k + 1)
      omega
theorem Rel.fw {A B : Nat → Nat → Int32} {N nl nc ns nn L l : Nat} {M : Int} (h : Rel A B N nl nc ns nn L M) (hl : l < 3) : k_fw A (nI l) (N - k0I A l) (k0I A l) = m_fw (B 34) (nI l) N 0 := by
  obtain ⟨-, -, -, -, -, -, hp, -, -, -, -, -, hR⟩ := h
  obtain ⟨-, x2, x3⟩ := hR l hl
  have a1 := k_fw_le (I := A) (l := nI l) (N - k0I A l) (k0I A l)
  have a2 := k_fw_is (A := A) (l := nI l) (N - k0I A l) (k0I A l)
  have a3 := k_fw_no (A := A) (l := nI l) (N - k0I A l) (k0I A l)
  have a4 := k_fw_ge (A := A) (l := nI l) (N - k0I A l) (k0I A l)
  have b1 := m_fw_le (c := B 34) (l := nI l) N 0
  have b2 := m_fw_is (c := B 34) (l := nI l) N 0
  have b3 := m_fw_no (c := B 34) (l := nI l) N 0
  generalize k_fw A (nI l) (N - k0I A l) (k0I A l) = w at a1 a2 a3 a4
  generalize m_fw (B 34) (nI l) N 0 = w' at b1 b2 b3
  have e : ∀ j, j < N → (m_wt (B 34) (nI l) j ↔ k_wt A (nI l) j) := fun j hj => by
    show pt (B 34) 2 j = 0 ∧ pt (B 34) 1 j = nI l ↔ A 20 j = 0 ∧ A 19 j = nI l
    rw [(hp j hj).1, (hp j hj).2.1]
  rcases Nat.lt_trichotomy w w' with q | q | q
  · exact absurd ((e w (by omega)).mpr (a2 (by omega))) (b3 w (by omega) q)
  · exact q
  · have q2 := (e w' (by omega)).mp (b2 (by omega))
    by_cases hk : w' < k0I A l
    · exact absurd q2 (x3 w' hk)
    · exact absurd q2 (a3 w' (by omega) q)
theorem rel_wt {A B : Nat → Nat → Int32} {N nl nc ns nn L l : Nat} {M : Int} (h : Rel A B N nl nc ns nn L M) (hl : l < 3) : Rel (wr A 30 l (nI (k_fw A (nI l) (N - k0I A l) (k0I A l)))) B N nl nc ns nn L M := by
  obtain ⟨ht, h2, hst, hps, htm, hb, hp, hq, hS, hL, hz, hW, hR⟩ := h
  obtain ⟨-, y2, y3⟩ := hR l hl
  have a1 := k_fw_le (I := A) (l := nI l) (N - k0I A l) (k0I A l)
  have a3 := k_fw_no (A := A) (l := nI l) (N - k0I A l) (k0I A l)
  generalize k_fw A (nI l) (N - k0I A l) (k0I A l) = w at a1 a3
  refine ⟨ht.congr (fun k hk => wr_ne _ _ _ (by omega)) (fun _ _ _ => rfl), h2, hst, hps, htm, hb, hp, hq, hS, hL, hz, hW, fun l2 hl2 => ?_⟩
  obtain ⟨x1, x2, x3⟩ := hR l2 hl2
  have hN60 := h2.2.2
  unfold RN k0I
  rw [wr_at]
  by_cases e : l2 = l
  · rw [if_pos ⟨rfl, e⟩, cl_nI (by omega)]
    refine ⟨rfl, by omega, fun c hc q => ?_⟩
    rw [e] at q
    by_cases hk : c < k0I A l
    · exact y3 c hk q
    · exact a3 c (by omega) hc q
  · rw [if_neg (fun q => e q.2)]
    exact ⟨x1, x2, x3⟩
