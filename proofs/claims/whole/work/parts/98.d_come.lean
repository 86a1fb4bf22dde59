/-! pure: a car comes to be -/
theorem hiP_bd (y : Int64) : 0 ≤ (hiP (y &&& 2147483647)).toInt ∧ (hiP (y &&& 2147483647)).toInt ≤ 32767 := by
  have hm : (2147483647 : Int64).toBitVec.toNat = 2147483647 := by decide
  have hn : (y &&& 2147483647).toBitVec.toNat ≤ 2147483647 := by
    rw [Int64.toBitVec_and, BitVec.toNat_and, hm]
    exact Nat.and_le_right
  have hx : (y &&& 2147483647).toInt = ((y &&& 2147483647).toBitVec.toNat : Int) := by
    rw [← Int64.toInt_toBitVec]
    exact BitVec.toInt_eq_toNat_of_lt (by omega)
  have e6 : (65536 : Int64).toInt = 65536 := by decide
  have hd : ((y &&& 2147483647) / 65536).toInt = (y &&& 2147483647).toInt.tdiv 65536 := by
    rw [Int64.toInt_div_of_ne_right _ _ (by decide), e6]
  have hq : 0 ≤ (y &&& 2147483647).toInt.tdiv 65536 ∧ (y &&& 2147483647).toInt.tdiv 65536 ≤ 32767 := by
    rw [hx, Int.tdiv_eq_ediv_of_nonneg (by omega)]
    omega
  unfold hiP
  rw [Int64.toInt_toInt32, hd]
  have : ((y &&& 2147483647).toInt.tdiv 65536).bmod (2 ^ 32) = (y &&& 2147483647).toInt.tdiv 65536 := Int.bmod_eq_of_le (by omega) (by omega)
  rw [this]
  exact hq
theorem rmI_bd {a b : Int32} (ha : 0 ≤ a.toInt ∧ a.toInt ≤ 32767) (hb : 1 ≤ b.toInt ∧ b.toInt ≤ 200) : 0 ≤ (rmI a b).toInt ∧ (rmI a b).toInt < b.toInt := by
  have hd : (a / b).toInt = a.toInt.tdiv b.toInt := Int32.toInt_div_of_ne_left _ _ (fun q => by
    rw [q] at ha
    exact absurd ha.1 (by decide))
  have h1 := Int.tmod_add_mul_tdiv a.toInt b.toInt
  have h2 := Int.tmod_nonneg b.toInt ha.1
  have h3 := Int.tmod_lt_of_pos a.toInt (show 0 < b.toInt by omega)
  have h4 : 0 ≤ a.toInt.tdiv b.toInt := Int.tdiv_nonneg ha.1 (by omega)
  have h5 : a.toInt.tdiv b.toInt * b.toInt = a.toInt - a.toInt.tmod b.toInt := by
    rw [Int.mul_comm]
    omega
  have hm : (a / b * b).toInt = a.toInt - a.toInt.tmod b.toInt := by
    rw [ti_mul (by rw [hd, h5]; omega) (by rw [hd, h5]; omega), hd, h5]
  unfold rmI
  rw [ti_sub (by omega) (by omega), hm]
  omega
theorem nxt_nx2 (x : Int64) : nxt x = nx2 (x &&& 2147483647) := rfl
theorem nx2_and (x : Int64) : nx2 x &&& 2147483647 = nx2 x := by
  unfold nx2
  rw [Int64.and_assoc, Int64.and_self]
theorem m_z_at (I : Nat → Nat → Int32) (i : Nat) : ∀ n, n ≤ 20 → (∀ k, k ≠ 34 → m_z I i n k = I k) ∧ (∀ j, j < 20 → m_z I i n 34 j = I 34 j) ∧ ∀ p c, p < 20 → pt (m_z I i n 34) p c = if c = i ∧ p < n then 0 else pt (I 34) p c
  | 0, _ => ⟨fun _ _ => rfl, fun _ _ => rfl, fun p c _ => (if_neg (by omega)).symm⟩
  | n + 1, hn => by
    obtain ⟨i1, i2, i3⟩ := m_z_at I i n (by omega)
    rw [m_z]
    refine ⟨fun k hk => (mp_ne _ _ _ _ hk).trans (i1 k hk), fun j hj => by rw [mp_at, if_neg (by omega)]; exact i2 j hj, fun p c hp => ?_⟩
    rw [mp_pt _ _ _ _ (by omega) hp, i3 p c hp]
    by_cases q : c = i ∧ p = n
    · rw [if_pos q, if_pos (by omega)]
    · rw [if_neg q]
      exact ite_cg (by omega)
theorem rel_new {A B A' B' : Nat → Nat → Int32} {N nl nc ns nn L l : Nat} {M : Int} {kd le wi de : Int32} (h : Rel A B N nl nc ns nn L M) (hN : N < 60) (hl : l < L)
    (hle : 400 ≤ le.toInt ∧ le.toInt ≤ 1200) (hwi : 40 ≤ wi.toInt ∧ wi.toInt ≤ 200) (hde : 1 ≤ de.toInt ∧ de.toInt ≤ 9)
    (ak : ∀ k, k ≤ 13 → A' k = A k) (a14 : A' 14 12 = nI (N + 1)) (ao : ∀ k, 15 ≤ k → k ≤ 25 → ∀ c, c ≠ N → A' k c = A k c) (a26 : A' 26 = A 26) (a28 : A' 28 = A 28) (a29 : A' 29 = A 29) (a30 : A' 30 = A 30) (a31 : A' 31 = A 31)
    (n15 : A' 15 N = kd) (n16 : A' 16 N = le) (n17 : A' 17 N = wi) (n18 : A' 18 N = de) (n19 : A' 19 N = nI l) (n20 : A' 20 N = 0) (n21 : A' 21 N = 0) (n22 : A' 22 N = 0) (n23 : A' 23 N = -1) (n24 : A' 24 N = -1)
    (bk : ∀ k, k ≠ 34 → B' k = B k) (b0 : B' 34 0 = nI (N + 1)) (bi : ∀ i, 1 ≤ i → i < 20 → B' 34 i = B 34 i) (bo : ∀ p c, p < 20 → c ≠ N → pt (B' 34) p c = pt (B 34) p c)
    (m0 : pt (B' 34) 0 N = kd) (m1 : pt (B' 34) 1 N = nI l) (m2 : pt (B' 34) 2 N = 0) (m3 : pt (B' 34) 3 N = 0) (m4 : pt (B' 34) 4 N = 0) (m5 : pt (B' 34) 5 N = -1) (m6 : pt (B' 34) 6 N = -1) (m8 : pt (B' 34) 8 N = le) (m9 : pt (B' 34) 9 N = wi) (m10 : pt (B' 34) 10 N = de) (m11 : ∀ k, k < 4 → pt (B' 34) (11 + k) N = 0) : Rel A' B' (N + 1) nl nc ns nn L M := by
  obtain ⟨ht, ⟨hN1, hN2, hN60⟩, ⟨s1, s2, s3, s4, s5, s6⟩, hps, htm, hb, hp, hq, hS, hL, hz, hW, hR⟩ := h
  have hL3 := ht.2.2.2.2.1.2.2.2.2
  have cs : ∀ {P : Nat → Prop} (c : Nat), c < N + 1 → (∀ c, c < N → P c) → P N → P c := fun {P} c hc h1 h2 => by
    by_cases e : c = N
    · rw [e]; exact h2
    · exact h1 c (by omega)
  have xo : ∀ k c, 15 ≤ k → k ≤ 25 → c < N → A' k c = A k c := fun k c h1 h2 h3 => ao k h1 h2 c (by omega)
  have yo : ∀ p c, p < 20 → c < N → pt (B' 34) p c = pt (B 34) p c := fun p c h1 h2 => bo p c h1 (by omega)
  have eL : ∀ c, c < N → lnI A' c = lnI A c := fun c hc => by unfold lnI; rw [xo 19 c (by decide) (by decide) hc]
  have eZ : ∀ l, szI A' l = szI A l := fun l => by unfold szI; rw [a29]
  have eK : ∀ l, k0I A' l = k0I A l := fun l => by unfold k0I; rw [a30]
  have eR : ∀ l j, rw_ A' l j = rw_ A l j := fun l j => by unfold rw_; rw [a28]
  refine ⟨ht.cg (fun k hk => ak k (by omega)) (fun k _ _ h3 _ => bk k h3), ⟨a14, b0, by omega⟩, ?_, ?_, ?_, fun c hc => cs (P := CB A') c hc ?_ ?_, fun c hc => cs (P := RP A' (B' 34)) c hc ?_ ?_, fun c hc => cs (P := RQ A' (B' 34)) c hc ?_ ?_, fun c hc => cs (P := RS A' (B' 34) ns) c hc ?_ ?_, fun c hc => cs (P := RL A' L) c hc ?_ ?_, ?_, ?_, ?_⟩
  · rw [bi 1 (by decide) (by decide), bi 3 (by decide) (by decide), bi 4 (by decide) (by decide), bi 5 (by decide) (by decide), ak 13 (by decide)]
    exact ⟨s1, s2, s3, s4, s5, s6⟩
  · intro i hi
    rw [bi (6 + i) (by omega) (by omega), a31]
    exact hps i hi
  · rw [bi 2 (by decide) (by decide), htm, sm]
    have : tmF A' N = 0 := by unfold tmF; rw [n20, if_neg (by decide)]
    rw [this, Int32.add_zero]
    refine sm_cg (fun c hc => ?_)
    unfold tmF
    rw [xo 20 c (by decide) (by decide) hc, xo 24 c (by decide) (by decide) hc, xo 23 c (by decide) (by decide) hc]
  · intro c hc
    unfold CB
    rw [xo 16 c (by decide) (by decide) hc, xo 17 c (by decide) (by decide) hc, xo 18 c (by decide) (by decide) hc, xo 22 c (by decide) (by decide) hc, xo 21 c (by decide) (by decide) hc]
    exact hb c hc
  · unfold CB
    rw [n16, n17, n18, n22, n21, t0]
    exact ⟨hle, hwi, hde, by decide, by decide⟩
  · intro c hc
    unfold RP
    rw [yo 2 c (by decide) hc, yo 1 c (by decide) hc, yo 3 c (by decide) hc, yo 8 c (by decide) hc, xo 20 c (by decide) (by decide) hc, xo 19 c (by decide) (by decide) hc, xo 21 c (by decide) (by decide) hc, xo 16 c (by decide) (by decide) hc]
    exact hp c hc
  · unfold RP
    rw [m2, m1, m3, m8, n20, n19, n21, n16]
    exact ⟨rfl, rfl, rfl, rfl⟩
  · intro c hc
    unfold RQ
    rw [yo 0 c (by decide) hc, yo 4 c (by decide) hc, yo 5 c (by decide) hc, yo 6 c (by decide) hc, yo 7 c (by decide) hc, yo 9 c (by decide) hc, yo 10 c (by decide) hc, xo 15 c (by decide) (by decide) hc, xo 22 c (by decide) (by decide) hc, xo 23 c (by decide) (by decide) hc, xo 24 c (by decide) (by decide) hc, xo 25 c (by decide) (by decide) hc, xo 17 c (by decide) (by decide) hc, xo 18 c (by decide) (by decide) hc, xo 20 c (by decide) (by decide) hc]
    exact hq c hc
  · unfold RQ
    rw [m0, m4, m5, m6, m9, m10, n15, n22, n23, n24, n17, n18, n20]
    exact ⟨rfl, rfl, rfl, rfl, fun q => absurd rfl q, rfl, rfl⟩
  · intro c hc k hk
    rw [yo (11 + k) c (by omega) hc, a26, ak 13 (by decide), ak 11 (by decide)]
    exact hS c hc k hk
  · intro k hk
    rw [m11 k hk, a26, ak 13 (by decide), ak 11 (by decide), hz (N * 4 + k) (by omega) (by omega), t0]
    refine ⟨by decide, s5, fun z => ?_, fun _ => ⟨rfl, rfl⟩⟩
    have := (ht.2.2.2.2.2.2.2.2.1 k z).2.2.2.2
    rw [lsr, if_pos (by rw [ti_lt, t0]; omega)]
  · intro c hc
    unfold RL
    rw [eL c hc, xo 20 c (by decide) (by decide) hc, xo 19 c (by decide) (by decide) hc, xo 21 c (by decide) (by decide) hc, xo 16 c (by decide) (by decide) hc, ak 1 (by decide)]
    exact hL c hc
  · have e : lnI A' N = l := by unfold lnI; rw [n19, cl_nI (by omega)]
    unfold RL
    rw [n20, n19, e]
    exact ⟨.inl rfl, ⟨rfl, hl⟩, fun q => absurd q (by decide)⟩
  · intro i h1 h2
    rw [a26]
    exact hz i (by omega) h2
  · intro l2 hl2
    obtain ⟨w1, w2, w3, w4⟩ := hW l2 hl2
    unfold RW
    rw [eZ, a29, a28]
    refine ⟨w1, w2, fun j hj => by rw [eR]; exact w3 j hj, fun j hj => ?_, fun c c1 c2 c3 => ?_, fun j hj => ?_⟩
    · obtain ⟨q1, q2, q3⟩ := w4.1 j hj
      rw [eR, xo 20 _ (by decide) (by decide) q1, xo 19 _ (by decide) (by decide) q1]
      exact ⟨by omega, q2, q3⟩
    · have hc : c < N := by
        by_cases e : c = N
        · rw [e, n20] at c2; exact absurd c2 (by decide)
        · omega
      rw [xo 20 c (by decide) (by decide) hc] at c2
      rw [xo 19 c (by decide) (by decide) hc] at c3
      obtain ⟨j, hj, e⟩ := w4.2.1 c hc c2 c3
      exact ⟨j, hj, by rw [eR]; exact e⟩
    · obtain ⟨q1, -, -⟩ := w4.1 j (by omega)
      obtain ⟨r1, -, -⟩ := w4.1 (j + 1) hj
      rw [eR, eR, xo 21 _ (by decide) (by decide) q1, xo 21 _ (by decide) (by decide) r1, xo 16 _ (by decide) (by decide) q1]
      exact w4.2.2 j hj
  · intro l2 hl2
    obtain ⟨w1, w2, w3⟩ := hR l2 hl2
    unfold RN
    rw [eK, a30]
    refine ⟨w1, by omega, fun c hc => ?_⟩
    rw [xo 20 c (by decide) (by decide) (by omega), xo 19 c (by decide) (by decide) (by omega)]
    exact w3 c hc
theorem wr_i (X : Nat → Nat → Int32) (a i : Nat) (v : Int32) (j : Nat) : wr X a i v a j = if j = i then v else X a j := by
  rw [wr_at]
  exact ite_cg ⟨fun w => w.2, fun w => ⟨rfl, w⟩⟩
theorem rel_come {A B : Nat → Nat → Int32} {N nl nc ns nn L l : Nat} {M : Int} {kd : Int32} {seed : Int64} (h : Rel A B N nl nc ns nn L M) (hN : N < 60) (hl : l < L) : Rel (k_add A seed N (nI l) kd) (m_come B seed N (nI l) kd) (N + 1) nl nc ns nn L M := by
  have b0 := h.2.1.2.1
  have e15 : k_ad0 A N (nI l) kd 15 N = kd := by
    show (if N = N then kd else A 15 N) = kd
    rw [if_pos rfl]
  have q1 := nxt_nx2 (seed + 7919 * (nI N).toInt64)
  have q2 : nxt (nxt (seed + 7919 * (nI N).toInt64)) = nx2 (nx2 ((seed + 7919 * (nI N).toInt64) &&& 2147483647)) := by rw [nxt_nx2, q1, nx2_and]
  have q3 : nxt (nxt (nxt (seed + 7919 * (nI N).toInt64))) = nx2 (nx2 (nx2 ((seed + 7919 * (nI N).toInt64) &&& 2147483647))) := by rw [nxt_nx2, q2, nx2_and]
  have ea : k_add A seed N (nI l) kd = wr (wr (wr (k_ad0 A N (nI l) kd) 16 N (if kd = 1 then 1200 else 400 + rmI (hiP (nx2 ((seed + 7919 * (nI N).toInt64) &&& 2147483647))) 121)) 17 N (80 + rmI (hiP (nx2 (nx2 ((seed + 7919 * (nI N).toInt64) &&& 2147483647)))) 120 - (if kd = 1 then 40 else 0))) 18 N (1 + rmI (hiP (nx2 (nx2 (nx2 ((seed + 7919 * (nI N).toInt64) &&& 2147483647))))) 9) := by
    unfold k_add k_drw
    simp only [e15]
    rw [q3, q2, q1]
  have em : m_come B seed N (nI l) kd = m_c4 (m_c3 (m_z B N 20) ((seed + 7919 * (nI N).toInt64) &&& 2147483647) N kd) N (nI l) kd := rfl
  generalize (seed + 7919 * (nI N).toInt64) &&& 2147483647 = x at ea em
  have u1 : 0 ≤ (rmI (hiP (nx2 x)) 121).toInt ∧ (rmI (hiP (nx2 x)) 121).toInt < 121 := rmI_bd (b := 121) (hiP_bd _) (by decide)
  have u2 : 0 ≤ (rmI (hiP (nx2 (nx2 x))) 120).toInt ∧ (rmI (hiP (nx2 (nx2 x))) 120).toInt < 120 := rmI_bd (b := 120) (hiP_bd _) (by decide)
  have u3 : 0 ≤ (rmI (hiP (nx2 (nx2 (nx2 x)))) 9).toInt ∧ (rmI (hiP (nx2 (nx2 (nx2 x)))) 9).toInt < 9 := rmI_bd (b := 9) (hiP_bd _) (by decide)
  unfold m_c4 m_c3 at em
  generalize rmI (hiP (nx2 x)) 121 = r1 at ea em u1
  generalize rmI (hiP (nx2 (nx2 x))) 120 = r2 at ea em u2
  generalize rmI (hiP (nx2 (nx2 (nx2 x)))) 9 = r3 at ea em u3
  have v1 : 400 ≤ (if kd = 1 then 1200 else 400 + r1 : Int32).toInt ∧ (if kd = 1 then 1200 else 400 + r1 : Int32).toInt ≤ 1200 := by
    have e4 : (400 : Int32).toInt = 400 := by decide
    split
    · decide
    · rw [ti_add (by omega) (by omega), e4]
      omega
  have v2 : 40 ≤ (80 + r2 - (if kd = 1 then 40 else 0) : Int32).toInt ∧ (80 + r2 - (if kd = 1 then 40 else 0) : Int32).toInt ≤ 200 := by
    have e8 : (80 : Int32).toInt = 80 := by decide
    have e4 : (if kd = 1 then 40 else 0 : Int32).toInt = 40 ∨ (if kd = 1 then 40 else 0 : Int32).toInt = 0 := by
      split
      · exact .inl (by decide)
      · exact .inr (by decide)
    have ea : (80 + r2).toInt = 80 + r2.toInt := by rw [ti_add (by omega) (by omega), e8]
    rw [ti_sub (by omega) (by omega), ea]
    omega
  have v3 : 1 ≤ (1 + r3).toInt ∧ (1 + r3).toInt ≤ 9 := by
    have e1 : (1 : Int32).toInt = 1 := by decide
    rw [ti_add (by omega) (by omega), e1]
    omega
  generalize (if kd = 1 then 1200 else 400 + r1 : Int32) = le at ea em v1
  generalize (80 + r2 - (if kd = 1 then 40 else 0) : Int32) = wi at ea em v2
  generalize 1 + r3 = de at ea em v3
  obtain ⟨z1, z2, z3⟩ := m_z_at B N 20 (Nat.le_refl _)
  generalize m_z B N 20 = Z at z1 z2 z3 em
  have cells : ∀ k, k ≠ 14 → (k < 15 ∨ 25 < k) → k_add A seed N (nI l) kd k = A k := fun k h1 h2 => by
    rw [ea]
    unfold k_ad0
    rw [wr_ne _ _ _ (by omega), wr_ne _ _ _ (by omega), wr_ne _ _ _ (by omega), wr_ne _ _ _ (by omega), wr_ne _ _ _ (by omega), wr_ne _ _ _ (by omega), wr_ne _ _ _ (by omega), wr_ne _ _ _ (by omega), wr_ne _ _ _ (by omega), wr_ne _ _ _ (by omega), wr_ne _ _ _ (by omega), wr_ne _ _ _ h1]
  have others : ∀ k c, c ≠ N → k ≠ 14 → k_add A seed N (nI l) kd k c = A k c := fun k c h1 h2 => by
    rw [ea]
    unfold k_ad0
    simp only [wr_at, h1, h2, and_false, false_and, if_false]
  have cpt : ∀ p c, p < 20 → pt (m_come B seed N (nI l) kd 34) p c = if c = N ∧ p = 6 then -1 else if c = N ∧ p = 5 then -1 else if c = N ∧ p = 1 then nI l else if c = N ∧ p = 0 then kd else if c = N ∧ p = 10 then de else if c = N ∧ p = 9 then wi else if c = N ∧ p = 8 then le else if c = N then 0 else pt (B 34) p c := fun p c hp => by
    rw [em, mci_pt _ _ (by decide), mp_pt _ _ _ _ (by decide) hp, mp_pt _ _ _ _ (by decide) hp, mp_pt _ _ _ _ (by decide) hp, mp_pt _ _ _ _ (by decide) hp, mp_pt _ _ _ _ (by decide) hp, mp_pt _ _ _ _ (by decide) hp, mp_pt _ _ _ _ (by decide) hp, z3 p c hp]
    have : (if c = N ∧ p < 20 then 0 else pt (B 34) p c) = if c = N then 0 else pt (B 34) p c := ite_cg ⟨fun w => w.1, fun w => ⟨w, hp⟩⟩
    rw [this]
  have clo : ∀ i, i < 20 → m_come B seed N (nI l) kd 34 i = if i = 0 then nI (N + 1) else B 34 i := fun i hi => by
    rw [em, mci_at, mp_lo _ _ _ _ hi, mp_lo _ _ _ _ hi, mp_lo _ _ _ _ hi, mp_lo _ _ _ _ hi, mp_lo _ _ _ _ hi, mp_lo _ _ _ _ hi, mp_lo _ _ _ _ hi, z2 i hi, mp_lo _ _ _ _ (by decide), mp_lo _ _ _ _ (by decide), mp_lo _ _ _ _ (by decide), mp_lo _ _ _ _ (by decide), mp_lo _ _ _ _ (by decide), mp_lo _ _ _ _ (by decide), mp_lo _ _ _ _ (by decide), z2 0 (by decide), b0, nI_1]
  have cne : ∀ k, k ≠ 34 → m_come B seed N (nI l) kd k = B k := fun k hk => by
    rw [em, mci_ne _ _ _ hk, mp_ne _ _ _ _ hk, mp_ne _ _ _ _ hk, mp_ne _ _ _ _ hk, mp_ne _ _ _ _ hk, mp_ne _ _ _ _ hk, mp_ne _ _ _ _ hk, mp_ne _ _ _ _ hk, z1 k hk]
  have nw : ∀ k, k_add A seed N (nI l) kd k N = wr (wr (wr (k_ad0 A N (nI l) kd) 16 N le) 17 N wi) 18 N de k N := fun k => by rw [ea]
  refine rel_new (kd := kd) (le := le) (wi := wi) (de := de) h hN hl v1 v2 v3 (fun k hk => cells k (by omega) (by omega)) ?_ (fun k h1 h2 c hc => others k c hc (by omega)) (cells 26 (by decide) (by decide)) (cells 28 (by decide) (by decide)) (cells 29 (by decide) (by decide)) (cells 30 (by decide) (by decide)) (cells 31 (by decide) (by decide))
    ?_ ?_ ?_ ?_ ?_ ?_ ?_ ?_ ?_ ?_ cne (by rw [clo 0 (by decide), if_pos rfl]) (fun i h1 h2 => by rw [clo i h2, if_neg (by omega)]) (fun p c hp hc => ?_) ?_ ?_ ?_ ?_ ?_ ?_ ?_ ?_ ?_ ?_ (fun k hk => ?_)
  · rw [ea]; rfl
  · rw [nw]; exact if_pos rfl
  · rw [nw]; exact if_pos rfl
  · rw [nw]; exact if_pos rfl
  · rw [nw]; exact if_pos rfl
  · rw [nw]; exact if_pos rfl
  · rw [nw]; exact if_pos rfl
  · rw [nw]; exact if_pos rfl
  · rw [nw]; exact if_pos rfl
  · rw [nw]; exact if_pos rfl
  · rw [nw]; exact if_pos rfl
  · rw [cpt p c hp]
    simp only [hc, false_and, if_false]
  · rw [cpt 0 N (by decide)]
    simp
  · rw [cpt 1 N (by decide)]
    simp
  · rw [cpt 2 N (by decide)]
    simp
  · rw [cpt 3 N (by decide)]
    simp
  · rw [cpt 4 N (by decide)]
    simp
  · rw [cpt 5 N (by decide)]
    simp
  · rw [cpt 6 N (by decide)]
    simp
  · rw [cpt 8 N (by decide)]
    simp
  · rw [cpt 9 N (by decide)]
    simp
  · rw [cpt 10 N (by decide)]
    simp
  · rw [cpt (11 + k) N (by omega), if_neg (by omega), if_neg (by omega), if_neg (by omega), if_neg (by omega), if_neg (by omega), if_neg (by omega), if_neg (by omega), if_pos rfl]
