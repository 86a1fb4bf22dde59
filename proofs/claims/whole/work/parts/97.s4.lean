/-! pure: a step's end -/
theorem lsr_more {s d : Int32} {p : Prop} [Decidable p] (hs : 0 ≤ s.toInt) (hs2 : s.toInt < 2147483647) : lsr s d + bI (p ∧ lsr s d < d) = lsr (if p then s + 1 else s) d := by
  have e1 : (s + 1).toInt = s.toInt + 1 := ti_add (by have : (1 : Int32).toInt = 1 := by decide
                                                      omega) (by have : (1 : Int32).toInt = 1 := by decide
                                                                 omega)
  by_cases h : p
  · rw [if_pos h]
    unfold lsr
    by_cases q : s < d
    · rw [if_pos q, bI_t ⟨h, q⟩]
      rw [ti_lt] at q
      by_cases w : s + 1 < d
      · rw [if_pos w]
      · rw [if_neg w, ti_eq]
        rw [ti_lt] at w
        omega
    · rw [if_neg q, bI_f (fun w => absurd (ti_lt.mp w.2) (by omega)), Int32.add_zero]
      rw [ti_lt] at q
      rw [if_neg (fun w => by rw [ti_lt] at w; omega)]
  · rw [if_neg h, bI_f (fun w => h w.1), Int32.add_zero]
theorem s4 {A B : Nat → Nat → Int32} {N nl nc ns nn L : Nat} {M : Int} (h : Rel A B N nl nc ns nn L M) (hsp : SPok A) (hM : M < 2147483647) : Rel (wr (k_s4 A ns nn L) 13 4 (k_s4 A ns nn L 13 4 + 1)) (m_nr (mci (m_mv B ns nn N) 1 1) N N) N nl nc ns nn L (M + 1) := by
  obtain ⟨ht, ⟨hN1, hN2, hN60⟩, ⟨s1, s2, s3, s4, s5, s6⟩, hps, htm, hb, hp, hq, hS, hL, hz, hW, hR⟩ := h
  have hL3 := ht.2.2.2.2.1.2.2.2.2
  have hns := ht.2.2.1.2.2
  have hnn := ht.2.2.2.1.2.2
  obtain ⟨-, tE1, -, tE2⟩ := ht.2.2.2.2.2.1
  have tS := ht.2.2.2.2.2.2.2.2.1
  have tN := ht.2.2.2.2.2.2.2.2.2
  obtain ⟨i1, i2, i3, i4, i5, i6, i7, i8, i9, i10, i11⟩ := k_s4_at (nn := nn) hns hL3 hb hW tE2 hL hsp L (Nat.le_refl _)
  obtain ⟨j1, j2, j3, j4, j5⟩ := m_mv_at (X := B) (N := N) hns hnn (fun c hc => ⟨lnI A c, by have := (hL c hc).2.1.2; omega, by rw [(hp c hc).2.1]; exact (hL c hc).2.1.1⟩) N (Nat.le_refl _)
  generalize k_s4 A ns nn L = X at i1 i2 i3 i4 i5 i6 i7 i8 i9 i10 i11 ⊢
  generalize m_mv B ns nn N = V at j1 j2 j3 j4 j5 ⊢
  obtain ⟨n1, n2, n3⟩ := m_nr_at (X := mci V 1 1) (N := N) N
  generalize hB' : m_nr (mci V 1 1) N N = B' at n1 n2 n3 ⊢
  have b0 : ∀ k, k ≠ 34 → B' k = B k := fun k hk => by rw [n1 k hk, mci_ne _ _ _ hk, j1 k hk]
  have bi : ∀ i, i ≠ 3 → i ≠ 1 → B' 34 i = V 34 i := fun i h1 h2 => by rw [n2 i h1, mci_at, if_neg h2]
  have bp : ∀ p c, pt (B' 34) p c = pt (V 34) p c := fun p c => bi _ (by omega) (by omega)
  have bp2 : ∀ p c, p < 20 → c < N → pt (B' 34) p c = if A 20 c = 1 then mvp B ns c p else pt (B 34) p c := fun p c h1 h2 => by
    rw [bp, j5 p c h1, (hp c h2).1]
    exact ite_cg ⟨fun w => w.2, fun w => ⟨h2, w⟩⟩
  have mst : ∀ p c, p < 20 → c < N → p ≠ 3 → p ≠ 2 → p ≠ 6 → ¬ (11 ≤ p ∧ p < 11 + ns) → pt (B' 34) p c = pt (B 34) p c := fun p c h1 h2 h3 h4 h5 h6 => by
    rw [bp2 p c h1 h2]
    split
    · unfold mvp
      rw [if_neg h3, if_neg h4, if_neg h5, if_neg h6]
    · rfl
  have b1 : B' 34 1 = B 34 1 + 1 := by rw [n2 1 (by decide), mci_at, if_pos rfl, j2 1 (by decide) (by decide)]
  have x0 : ∀ k, k ≠ 13 → wr X 13 4 (X 13 4 + 1) k = X k := fun k hk => wr_ne _ _ _ hk
  have x13 : ∀ j, wr X 13 4 (X 13 4 + 1) 13 j = if j = 4 then A 13 4 + 1 else X 13 j := fun j => by
    rw [wr_at, i2 4 (by decide)]
    exact ite_cg ⟨fun w => w.2, fun w => ⟨rfl, w⟩⟩
  generalize wr X 13 4 (X 13 4 + 1) = A' at x0 x13 ⊢
  have a0 := fun k (h1 : k ≠ 13) (h2 : k ≠ 20) (h3 : k ≠ 21) (h4 : k ≠ 24) (h5 : k ≠ 26) (h6 : k ≠ 28) (h7 : k ≠ 29) (h8 : k ≠ 31) => (x0 k h1).trans (i1 k h1 h2 h3 h4 h5 h6 h7 h8)
  have a16 := a0 16 (by decide) (by decide) (by decide) (by decide) (by decide) (by decide) (by decide) (by decide)
  have a19 := a0 19 (by decide) (by decide) (by decide) (by decide) (by decide) (by decide) (by decide) (by decide)
  have a22 := a0 22 (by decide) (by decide) (by decide) (by decide) (by decide) (by decide) (by decide) (by decide)
  have a1 := a0 1 (by decide) (by decide) (by decide) (by decide) (by decide) (by decide) (by decide) (by decide)
  have a11 := a0 11 (by decide) (by decide) (by decide) (by decide) (by decide) (by decide) (by decide) (by decide)
  have eL : ∀ c, lnI A' c = lnI A c := fun c => by unfold lnI; rw [a19]
  have edn : ∀ c, c < N → (dn_ A L c ↔ A 20 c = 1) := fun c hc => ⟨fun w => w.1, fun w => ⟨w, (hL c hc).2.1.2⟩⟩
  have a21 : ∀ c, c < N → A' 21 c = if A 20 c = 1 then nf A c else A 21 c := fun c hc => by
    rw [x0 21 (by decide), i3 c hc]
    exact ite_cg (edn c hc)
  have a20 : ∀ c, c < N → A' 20 c = if A 20 c = 1 ∧ outP A c then 2 else A 20 c := fun c hc => by
    rw [x0 20 (by decide), i4 c hc]
    exact ite_cg (and_congr (edn c hc) Iff.rfl)
  have a24 : ∀ c, c < N → A' 24 c = if A 20 c = 1 ∧ outP A c then A 13 4 else A 24 c := fun c hc => by
    rw [x0 24 (by decide), i5 c hc]
    exact ite_cg (and_congr (edn c hc) Iff.rfl)
  have a26 : ∀ c k, c < N → k < 4 → A' 26 (c * 4 + k) = if A 20 c = 1 ∧ k < ns ∧ stP A c k then A 26 (c * 4 + k) + 1 else A 26 (c * 4 + k) := fun c k hc hk => by
    rw [x0 26 (by decide), i6 c k hc hk]
    exact ite_cg (and_congr (edn c hc) Iff.rfl)
  have enf : ∀ c, c < N → nfm B c = nf A c := fun c hc => by unfold nfm nf; rw [(hp c hc).2.2.1, (hq c hc).2.1]
  have eout : ∀ c, c < N → (outm B c ↔ outP A c) := fun c hc => by unfold outm outP; rw [enf c hc, tE1, (hp c hc).2.2.2]
  have t1 : (A 13 4 + 1).toInt = (A 13 4).toInt + 1 := by
    have : (1 : Int32).toInt = 1 := by decide
    rw [ti_add (by omega) (by omega), this]
  have cb : ∀ c, c < N → CB A' c := fun c hc => by
    have q := hb c hc
    unfold CB at q ⊢
    rw [a16, a0 17 (by decide) (by decide) (by decide) (by decide) (by decide) (by decide) (by decide) (by decide), a0 18 (by decide) (by decide) (by decide) (by decide) (by decide) (by decide) (by decide) (by decide), a22, a21 c hc]
    refine ⟨q.1, q.2.1, q.2.2.1, q.2.2.2.1, ?_⟩
    by_cases w : A 20 c = 1
    · rw [if_pos w, nf, ti_add (by omega) (by omega)]
      have := (hL c hc).2.2 w
      omega
    · rw [if_neg w]; exact q.2.2.2.2
  have rp : ∀ c, c < N → RP A' (B' 34) c := fun c hc => by
    obtain ⟨p1, p2, p3, p4⟩ := hp c hc
    refine ⟨?_, ?_, ?_, ?_⟩
    · rw [bp2 2 c (by decide) hc, a20 c hc]
      by_cases w : A 20 c = 1
      · rw [if_pos w]
        unfold mvp
        rw [if_neg (by decide), if_pos rfl, p1]
        exact ite_cg ⟨fun z => ⟨w, (eout c hc).mp z⟩, fun z => (eout c hc).mpr z.2⟩
      · rw [if_neg w, if_neg (fun z => w z.1), p1]
    · rw [mst 1 c (by decide) hc (by decide) (by decide) (by decide) (by omega), a19, p2]
    · rw [bp2 3 c (by decide) hc, a21 c hc]
      by_cases w : A 20 c = 1
      · rw [if_pos w, if_pos w]
        unfold mvp
        rw [if_pos rfl, enf c hc]
      · rw [if_neg w, if_neg w, p3]
    · rw [mst 8 c (by decide) hc (by decide) (by decide) (by decide) (by omega), a16, p4]
  have rq : ∀ c, c < N → pt (B' 34) 4 c = A' 22 c := fun c hc => by
    rw [mst 4 c (by decide) hc (by decide) (by decide) (by decide) (by omega), a22, (hq c hc).2.1]
  have rl : ∀ c, c < N → A' 19 c = nI (lnI A' c) ∧ lnI A' c < L := fun c hc => by rw [a19, eL]; exact (hL c hc).2.1
  have rw' : ∀ l, l < 3 → RW A' N l := fun l hl => by
    have q := i9 l hl
    have eZ : szI A' l = szI X l := by unfold szI; rw [x0 29 (by decide)]
    have eR : ∀ j, rw_ A' l j = rw_ X l j := fun j => by unfold rw_; rw [x0 28 (by decide)]
    unfold RW at q ⊢
    rw [eZ, x0 29 (by decide), x0 28 (by decide)]
    exact ⟨q.1, q.2.1, fun j hj => by rw [eR]; exact q.2.2.1 j hj, q.2.2.2.congr (fun j _ => eR j) (fun c _ => by rw [x0 20 (by decide), x0 19 (by decide)]) (fun c _ _ _ => by rw [x0 21 (by decide), x0 16 (by decide)]; exact ⟨rfl, rfl⟩)⟩
  refine ⟨ht.congr (fun k hk => a0 k (by omega) (by omega) (by omega) (by omega) (by omega) (by omega) (by omega) (by omega)) (fun k h1 _ => b0 k h1), ⟨?_, ?_, hN60⟩, ⟨?_, ?_, ?_, ?_, ?_, ?_⟩, ?_, ?_, cb, rp, ?_, ?_, ?_, ?_, rw', ?_⟩
  · rw [a0 14 (by decide) (by decide) (by decide) (by decide) (by decide) (by decide) (by decide) (by decide)]; exact hN1
  · rw [bi 0 (by decide) (by decide), j2 0 (by decide) (by decide)]; exact hN2
  · rw [b1, x13, if_pos rfl, s1]
  · rw [n3, mci_at, if_neg (by decide), j2 3 (by decide) (by decide), s2, x13, if_neg (by decide), i11]
    congr 1
    have e1 : sm (fun l2 => NS X l2) L = sm (fun l2 => NS A' l2) L := sm_cg (fun l hl => (NS_cg (Y := A') (i9 l (by omega)) (by rw [x0 29 (by decide)]) (fun j _ => by rw [x0 28 (by decide)]) (x0 22 (by decide)) (x0 16 (by decide)) (fun c _ _ => by rw [x0 21 (by decide)])).symm)
    rw [e1, near_eq hL3 cb rp rq rl (fun l hl => (rw' l hl).2.2.2)]
    refine sm_cg (fun c _ => bI_cg ?_)
    rw [m_near_cg (b := mci V 1 1 34) (b' := B' 34) (fun p c => n2 _ (by omega))]
  · rw [bi 4 (by decide) (by decide), j2 4 (by decide) (by decide), x13, if_neg (by decide), i2 6 (by decide), s3]
  · rw [bi 5 (by decide) (by decide), j2 5 (by decide) (by decide), x13, if_neg (by decide), i2 7 (by decide), s4]
  · rw [x13, if_pos rfl]; omega
  · rw [x13, if_pos rfl]; omega
  · intro i hi
    obtain ⟨k, l2, hk, hl2, rfl⟩ : ∃ k l2, k < 4 ∧ l2 < 3 ∧ i = k * 3 + l2 := ⟨i / 3, i % 3, by omega, by omega, by omega⟩
    obtain ⟨q1, q2⟩ := hps _ hi
    have e : 6 + (k * 3 + l2) = 6 + 3 * k + l2 := by omega
    rw [bi _ (by omega) (by omega), e, j4 k l2 hk hl2, x0 31 (by decide), i8 k l2 hl2, ← e, q1]
    by_cases w : k < nn
    · rw [if_pos w]
      refine ⟨?_, fun z => absurd z (by omega)⟩
      by_cases w2 : l2 < L
      · rw [if_pos ⟨w2, w⟩]
        congr 1
        refine sm_cg (fun c hc => ite_cg2 ?_ (bI_cg ?_) rfl)
        · rw [(hp c hc).1, (hp c hc).2.1]
        · unfold mps psP
          rw [enf c hc, (hp c hc).2.2.1, tN k w]
      · rw [if_neg (fun z => w2 z.1), sm_zero (fun c hc => if_neg (fun z => ?_)), Int32.add_zero]
        have z2 := z.2
        rw [(hp c hc).2.1, (hL c hc).2.1.1] at z2
        have := nI_inj (by have := (hL c hc).2.1.2; omega) (by omega) z2
        have := (hL c hc).2.1.2
        omega
    · rw [if_neg w, if_neg (fun z => w z.2)]
      exact ⟨rfl, q2⟩
  · rw [bi 2 (by decide) (by decide), j3, htm, sm_add]
    refine sm_cg (fun c hc => ?_)
    obtain ⟨p1, p2, p3, p4⟩ := hp c hc
    rw [p1, s1, (hq c hc).2.2.1]
    unfold tmF
    rw [a20 c hc, a24 c hc, a0 23 (by decide) (by decide) (by decide) (by decide) (by decide) (by decide) (by decide) (by decide)]
    by_cases w : A 20 c = 1 ∧ outP A c
    · have e2 : ¬ A 20 c = 2 := by rw [w.1]; decide
      rw [if_neg e2, if_pos (show A 20 c = 1 ∧ outm B c from ⟨w.1, (eout c hc).mpr w.2⟩), if_pos (show (if A 20 c = 1 ∧ outP A c then (2 : Int32) else A 20 c) = 2 by rw [if_pos w]), if_pos w, Int32.zero_add]
    · rw [if_neg w, if_neg w, if_neg (show ¬ (A 20 c = 1 ∧ outm B c) from fun z => w ⟨z.1, (eout c hc).mp z.2⟩), Int32.add_zero]
  · intro c hc
    obtain ⟨q1, q2, q3, q4, q5, q6, q7⟩ := hq c hc
    refine ⟨?_, rq c hc, ?_, ?_, fun z => ?_, ?_, ?_⟩
    · rw [mst 0 c (by decide) hc (by decide) (by decide) (by decide) (by omega), a0 15 (by decide) (by decide) (by decide) (by decide) (by decide) (by decide) (by decide) (by decide), q1]
    · rw [mst 5 c (by decide) hc (by decide) (by decide) (by decide) (by omega), a0 23 (by decide) (by decide) (by decide) (by decide) (by decide) (by decide) (by decide) (by decide), q3]
    · rw [bp2 6 c (by decide) hc, a24 c hc]
      by_cases w : A 20 c = 1
      · rw [if_pos w]
        unfold mvp
        rw [if_neg (by decide), if_neg (by decide), if_pos rfl, q4, s1]
        exact ite_cg ⟨fun z => ⟨w, (eout c hc).mp z⟩, fun z => (eout c hc).mpr z.2⟩
      · rw [if_neg w, if_neg (fun z => w z.1), q4]
    · rw [mst 7 c (by decide) hc (by decide) (by decide) (by decide) (by omega), a0 25 (by decide) (by decide) (by decide) (by decide) (by decide) (by decide) (by decide) (by decide)]
      refine q5 (fun w => z ?_)
      rw [a20 c hc, if_neg (fun y => absurd (w.symm.trans y.1) (by decide))]
      exact w
    · rw [mst 9 c (by decide) hc (by decide) (by decide) (by decide) (by omega), a0 17 (by decide) (by decide) (by decide) (by decide) (by decide) (by decide) (by decide) (by decide), q6]
    · rw [mst 10 c (by decide) hc (by decide) (by decide) (by decide) (by omega), a0 18 (by decide) (by decide) (by decide) (by decide) (by decide) (by decide) (by decide) (by decide), q7]
  · intro c hc k hk
    obtain ⟨r1, r2, r3, r4⟩ := hS c hc k hk
    rw [a26 c k hc hk, x13, if_pos rfl, a11]
    have e1 : (A 26 (c * 4 + k) + 1).toInt = (A 26 (c * 4 + k)).toInt + 1 := by
      have : (1 : Int32).toInt = 1 := by decide
      rw [ti_add (by omega) (by omega), this]
    refine ⟨?_, ?_, fun z => ?_, fun z => ?_⟩
    · split <;> omega
    · split <;> omega
    · rw [bp2 (11 + k) c (by omega) hc]
      by_cases w : A 20 c = 1
      · rw [if_pos w]
        unfold mvp
        rw [if_neg (by omega), if_neg (by omega), if_neg (by omega), if_pos (by omega), show 11 + k - 11 = k by omega]
        obtain ⟨t1, t2, t3, t4, t5⟩ := tS k z
        obtain ⟨b1, -, -, b4, b5⟩ := hb c hc
        have em : m_std B c (nfm B c) k ↔ stP A c k := by
          unfold m_std stP
          rw [enf c hc, (hq c hc).1, (hq c hc).2.1, t1]
          rw [ti_le, ti_le, ti_lt, ti_lt, t0]
          constructor
          · rintro ⟨x1, x2, x3, x4⟩
            exact ⟨⟨x1, x2⟩, by omega, by omega⟩
          · rintro ⟨⟨x1, x2⟩, x3, x4⟩
            exact ⟨x1, x2, by omega, by omega⟩
        have e2 : bI (m_more B c (nfm B c) k) = bI (stP A c k ∧ lsr (A 26 (c * 4 + k)) (A 11 k) < A 11 k) := by
          refine bI_cg ?_
          unfold m_more
          rw [r3 z, t2]
          exact and_congr em Iff.rfl
        rw [e2, r3 z, lsr_more r1 (by omega)]
        congr 1
        exact ite_cg ⟨fun y => ⟨w, z, y⟩, fun y => y.2.2⟩
      · rw [if_neg w, if_neg (fun y => w y.1)]
        exact r3 z
    · rw [if_neg (fun y => absurd y.2.1 (by omega)), mst (11 + k) c (by omega) hc (by omega) (by omega) (by omega) (by omega)]
      exact r4 z
  · intro c hc
    obtain ⟨r1, r2, r3⟩ := hL c hc
    refine ⟨?_, rl c hc, fun z => ?_⟩
    · rw [a20 c hc]
      split
      · exact .inr (.inr rfl)
      · exact r1
    · rw [a20 c hc] at z
      by_cases w : A 20 c = 1 ∧ outP A c
      · rw [if_pos w] at z; exact absurd z (by decide)
      · rw [if_neg w] at z
        have w2 : ¬ outP A c := fun y => w ⟨z, y⟩
        have r := r3 z
        obtain ⟨b1, -, -, b4, b5⟩ := hb c hc
        have e1 : (nf A c).toInt = (A 21 c).toInt + (A 22 c).toInt := ti_add (by omega) (by omega)
        unfold outP at w2
        rw [ti_lt, ti_sub (by omega) (by omega), e1] at w2
        rw [a21 c hc, if_pos z, a16, a1, e1]
        omega
  · intro i h1 h2
    rw [x0 26 (by decide), show i = i / 4 * 4 + i % 4 by omega, i7 (i / 4) (i % 4) (by omega) (by omega), show i / 4 * 4 + i % 4 = i by omega]
    exact hz i h1 h2
  · intro l hl
    obtain ⟨r1, r2, r3⟩ := hR l hl
    have e30 := a0 30 (by decide) (by decide) (by decide) (by decide) (by decide) (by decide) (by decide) (by decide)
    have eK : k0I A' l = k0I A l := by unfold k0I; rw [e30]
    unfold RN
    rw [eK, e30]
    refine ⟨r1, r2, fun c hc => ?_⟩
    rw [a20 c (by omega), a19]
    intro w
    by_cases y : A 20 c = 1 ∧ outP A c
    · rw [if_pos y] at w; exact absurd w.1 (by decide)
    · rw [if_neg y] at w; exact r3 c hc w
