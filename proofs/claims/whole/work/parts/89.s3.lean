/-! pure: the new speeds -/
theorem k_nl_cg {X A : Nat → Nat → Int32} (h3 : X 3 = A 3) (h4 : X 4 = A 4) (h5 : X 5 = A 5) (f t a : Int32) : ∀ k, k_nl X f t a k = k_nl A f t a k
  | 0 => rfl
  | k + 1 => by simp only [k_nl, k_red, k_nl_cg h3 h4 h5 f t a k, h3, h4, h5]
theorem k_nc_cg {X A : Nat → Nat → Int32} (h6 : X 6 = A 6) (h7 : X 7 = A 7) (h8 : X 8 = A 8) (h9 : X 9 = A 9) (l f t a : Int32) : ∀ k, k_nc X l f t a k = k_nc A l f t a k
  | 0 => rfl
  | k + 1 => by simp only [k_nc, k_shut, k_nc_cg h6 h7 h8 h9 l f t a k, h6, h7, h8, h9]
theorem k_ns_cg {X A : Nat → Nat → Int32} (h10 : X 10 = A 10) (h11 : X 11 = A 11) (h21 : X 21 = A 21) (h26 : X 26 = A 26) (c : Nat) (a : Int32) : ∀ k, k_ns X c a k = k_ns A c a k
  | 0 => rfl
  | k + 1 => by simp only [k_ns, k_ns_cg h10 h11 h21 h26 c a k, h10, h11, h21, h26]
theorem k_ld_cg {X A : Nat → Nat → Int32} (h28 : X 28 = A 28) (l : Nat) : ∀ r, k_ld X l r = k_ld A l r
  | 0 => rfl
  | r + 1 => by simp only [k_ld, rw_, h28]
theorem k_g0_cg {X A : Nat → Nat → Int32} (h21 : X 21 = A 21) (h16 : X 16 = A 16) (c : Nat) : ∀ o, k_g0 X c o = k_g0 A c o
  | none => rfl
  | some f => by unfold k_g0 k_re; rw [h21, h16]
/-- the gap doesn't hang on speeds or counts -/
theorem k_gap_cg {X A : Nat → Nat → Int32} (hx : ∀ k, k ≠ 22 → k ≠ 13 → X k = A k) (h13 : X 13 4 = A 13 4) (nl nc ns l r c : Nat) : k_gap X nl nc ns l r c = k_gap A nl nc ns l r c := by
  unfold k_gap
  dsimp only
  rw [hx 21 (by decide) (by decide), hx 15 (by decide) (by decide), h13, k_ld_cg (hx 28 (by decide) (by decide)), k_g0_cg (hx 21 (by decide) (by decide)) (hx 16 (by decide) (by decide)), k_nl_cg (hx 3 (by decide) (by decide)) (hx 4 (by decide) (by decide)) (hx 5 (by decide) (by decide)), k_nc_cg (hx 6 (by decide) (by decide)) (hx 7 (by decide) (by decide)) (hx 8 (by decide) (by decide)) (hx 9 (by decide) (by decide)), k_ns_cg (hx 10 (by decide) (by decide)) (hx 11 (by decide) (by decide)) (hx 21 (by decide) (by decide)) (hx 26 (by decide) (by decide))]
theorem k_spd_cg {X A : Nat → Nat → Int32} (hx : ∀ k, k ≠ 22 → k ≠ 13 → X k = A k) (h13 : X 13 4 = A 13 4) {c : Nat} (h22 : X 22 c = A 22 c) (nl nc ns l r : Nat) : k_spd X nl nc ns l r c = k_spd A nl nc ns l r c := by
  unfold k_spd
  rw [k_gap_cg hx h13]
  have e : k_want X c = k_want A c := by
    unfold k_want k_tick
    simp only [h22, h13, hx 17 (by decide) (by decide), hx 18 (by decide) (by decide)]
  rw [e]
theorem k_ms1_at (I : Nat → Nat → Int32) (c : Nat) (a : Int32) : (∀ k, k ≠ 22 → k ≠ 13 → k_ms1 I c a k = I k) ∧ (∀ j, j ≠ 6 → k_ms1 I c a 13 j = I 13 j) ∧ (∀ d, k_ms1 I c a 22 d = if d = c then a else I 22 d) ∧ k_ms1 I c a 13 6 = I 13 6 + bI (¬ I 22 c - a < 20) := by
  unfold k_ms1
  by_cases h : I 22 c - a < 20
  · rw [if_pos h, bI_f (fun q => q h)]
    refine ⟨fun k h1 h2 => wr_ne _ _ _ h1, fun j _ => rfl, fun d => rfl, ?_⟩
    exact (Int32.add_zero _).symm
  · rw [if_neg h, bI_t h]
    refine ⟨fun k h1 h2 => by rw [wr_ne _ _ _ h2, wr_ne _ _ _ h1], fun j hj => ?_, fun d => rfl, rfl⟩
    rw [wr_at, if_neg (fun q => hj q.2)]
    rfl
/-- one lane's speeds -/
theorem k_ms_at {A : Nat → Nat → Int32} {N nl nc ns l s : Nat} (h : LaneOK A N l s) (hb : ∀ c, c < N → CB A c) : ∀ r, r ≤ s → (∀ k, k ≠ 22 → k ≠ 13 → k_ms A nl nc ns l r k = A k) ∧ (∀ j, j ≠ 6 → k_ms A nl nc ns l r 13 j = A 13 j) ∧ (∀ c, (∀ j, j < r → rw_ A l j ≠ c) → k_ms A nl nc ns l r 22 c = A 22 c) ∧ (∀ j, j < r → k_ms A nl nc ns l r 22 (rw_ A l j) = k_spd A nl nc ns l j (rw_ A l j)) ∧ k_ms A nl nc ns l r 13 6 = A 13 6 + sm (fun j => bI (¬ A 22 (rw_ A l j) - k_spd A nl nc ns l j (rw_ A l j) < 20)) r
  | 0, _ => ⟨fun _ _ _ => rfl, fun _ _ => rfl, fun _ _ => rfl, fun j hj => absurd hj (by omega), (Int32.add_zero _).symm⟩
  | r + 1, hr => by
    obtain ⟨i1, i2, i3, i4, i5⟩ := k_ms_at (nl := nl) (nc := nc) (ns := ns) h hb r (by omega)
    rw [k_ms]
    generalize k_ms A nl nc ns l r = X at i1 i2 i3 i4 i5 ⊢
    have hrow : rw_ X l r = rw_ A l r := by unfold rw_; rw [i1 28 (by decide) (by decide)]
    have h22 : X 22 (rw_ A l r) = A 22 (rw_ A l r) := i3 _ (fun j hj e => by have := h.inj hb (by omega) (by omega) e; omega)
    have hsp := k_spd_cg i1 (i2 4 (by decide)) h22 nl nc ns l r
    rw [hrow, hsp]
    obtain ⟨m1, m2, m3, m4⟩ := k_ms1_at X (rw_ A l r) (k_spd A nl nc ns l r (rw_ A l r))
    generalize k_ms1 X (rw_ A l r) (k_spd A nl nc ns l r (rw_ A l r)) = Y at m1 m2 m3 m4 ⊢
    refine ⟨fun k h1 h2 => (m1 k h1 h2).trans (i1 k h1 h2), fun j hj => (m2 j hj).trans (i2 j hj), fun c hc => ?_, fun j hj => ?_, ?_⟩
    · rw [m3, if_neg (fun e => hc r (by omega) e.symm)]
      exact i3 c (fun j hj => hc j (by omega))
    · rw [m3]
      by_cases e : j = r
      · rw [e, if_pos rfl]
      · rw [if_neg (fun q => e (h.inj hb (by omega) (by omega) q))]
        exact i4 j (by omega)
    · rw [m4, i5, h22, sm, Int32.add_assoc]
/-- a car's new speed -/
def nsp (A : Nat → Nat → Int32) (nl nc ns c : Nat) : Int32 := k_spd A nl nc ns (lnI A c) (k_rk A (lnI A c) (A 21 c) (szI A (lnI A c)) 0) c
def hrd (A : Nat → Nat → Int32) (nl nc ns c : Nat) : Int32 := bI (¬ A 22 c - nsp A nl nc ns c < 20)
theorem k_s3_at {A : Nat → Nat → Int32} {N nl nc ns L : Nat} (hb : ∀ c, c < N → CB A c) (hW : ∀ l, l < 3 → LaneOK A N l (szI A l)) (hL : ∀ c, c < N → A 19 c = nI (lnI A c) ∧ lnI A c < L) (hL3 : L ≤ 3) : ∀ l, l ≤ L → (∀ k, k ≠ 22 → k ≠ 13 → k_s3 A nl nc ns l k = A k) ∧ (∀ j, j ≠ 6 → k_s3 A nl nc ns l 13 j = A 13 j) ∧ (∀ c, c < N → k_s3 A nl nc ns l 22 c = if A 20 c = 1 ∧ lnI A c < l then nsp A nl nc ns c else A 22 c) ∧ k_s3 A nl nc ns l 13 6 = A 13 6 + sm (fun c => if A 20 c = 1 ∧ lnI A c < l then hrd A nl nc ns c else 0) N
  | 0, _ => by
    refine ⟨fun _ _ _ => rfl, fun _ _ => rfl, fun c _ => (if_neg (fun q => absurd q.2 (by omega))).symm, ?_⟩
    rw [sm_zero (fun c _ => if_neg (fun q => absurd q.2 (by omega)))]
    exact (Int32.add_zero _).symm
  | l + 1, hl => by
    obtain ⟨i1, i2, i3, i4⟩ := k_s3_at (nl := nl) (nc := nc) (ns := ns) hb hW hL hL3 l (by omega)
    have hl3 : l < 3 := by omega
    have ho := hW l hl3
    rw [k_s3]
    generalize k_s3 A nl nc ns l = X at i1 i2 i3 i4 ⊢
    have e28 := i1 28 (by decide) (by decide); have e29 := i1 29 (by decide) (by decide); have e20 := i1 20 (by decide) (by decide); have e19 := i1 19 (by decide) (by decide); have e21 := i1 21 (by decide) (by decide); have e16 := i1 16 (by decide) (by decide)
    have hsz : szI X l = szI A l := by unfold szI; rw [e29]
    have hrw : ∀ j, rw_ X l j = rw_ A l j := fun j => by unfold rw_; rw [e28]
    have hoX : LaneOK X N l (szI A l) := ho.congr (fun j _ => hrw j) (fun c _ => by rw [e20, e19]) (fun c _ _ _ => by rw [e21, e16]; exact ⟨rfl, rfl⟩)
    have hbX : ∀ c, c < N → (400 ≤ (X 16 c).toInt ∧ (X 16 c).toInt ≤ 1200) := fun c hc => by rw [e16]; exact (hb c hc).1
    have lnl : ∀ j, j < szI A l → lnI A (rw_ A l j) = l := fun j hj => by
      obtain ⟨y1, -, y3⟩ := ho.1 j hj
      have q := hL _ y1
      exact nI_inj (by omega) (by omega) (q.1.symm.trans y3)
    have h22 : ∀ c, c < N → lnI A c = l → X 22 c = A 22 c := fun c hc e => by rw [i3 c hc, if_neg (fun q => by have := q.2; omega)]
    have hnsp : ∀ j, j < szI A l → k_spd X nl nc ns l j (rw_ A l j) = nsp A nl nc ns (rw_ A l j) := fun j hj => by
      have y1 := (ho.1 j hj).1
      rw [k_spd_cg i1 (i2 4 (by decide)) (h22 _ y1 (lnl j hj))]
      unfold nsp
      rw [lnl j hj, ho.own_rk hb hj]
    have hinj : ∀ i j, i < szI A l → j < szI A l → rw_ A l i = rw_ A l j → i = j := fun i j h1 h2 e => ho.inj hb h1 h2 e
    have hgen : ∀ r, r ≤ szI A l → (∀ k, k ≠ 22 → k ≠ 13 → k_ms X nl nc ns l r k = X k) ∧ (∀ j, j ≠ 6 → k_ms X nl nc ns l r 13 j = X 13 j) ∧ (∀ c, (∀ j, j < r → rw_ A l j ≠ c) → k_ms X nl nc ns l r 22 c = X 22 c) ∧ (∀ j, j < r → k_ms X nl nc ns l r 22 (rw_ A l j) = nsp A nl nc ns (rw_ A l j)) ∧ k_ms X nl nc ns l r 13 6 = X 13 6 + sm (fun j => hrd A nl nc ns (rw_ A l j)) r := by
      intro r
      induction r with
      | zero => exact fun _ => ⟨fun _ _ _ => rfl, fun _ _ => rfl, fun _ _ => rfl, fun j hj => absurd hj (by omega), (Int32.add_zero _).symm⟩
      | succ r ih =>
        intro hr
        obtain ⟨j1, j2, j3, j4, j5⟩ := ih (by omega)
        rw [k_ms]
        generalize k_ms X nl nc ns l r = Z at j1 j2 j3 j4 j5 ⊢
        have hrow : rw_ Z l r = rw_ A l r := by unfold rw_; rw [j1 28 (by decide) (by decide), e28]
        have hz22 : Z 22 (rw_ A l r) = X 22 (rw_ A l r) := j3 _ (fun j hj e => by have := hinj j r (by omega) (by omega) e; omega)
        have hsp := k_spd_cg j1 (j2 4 (by decide)) hz22 nl nc ns l r
        rw [hrow, hsp, hnsp r (by omega)]
        obtain ⟨m1, m2, m3, m4⟩ := k_ms1_at Z (rw_ A l r) (nsp A nl nc ns (rw_ A l r))
        generalize k_ms1 Z (rw_ A l r) (nsp A nl nc ns (rw_ A l r)) = Y at m1 m2 m3 m4 ⊢
        refine ⟨fun k h1 h2 => (m1 k h1 h2).trans (j1 k h1 h2), fun j hj => (m2 j hj).trans (j2 j hj), fun c hc => ?_, fun j hj => ?_, ?_⟩
        · rw [m3, if_neg (fun e => hc r (by omega) e.symm)]
          exact j3 c (fun j hj => hc j (by omega))
        · rw [m3]
          by_cases e : j = r
          · rw [e, if_pos rfl]
          · rw [if_neg (fun q => e (hinj j r (by omega) (by omega) q))]
            exact j4 j (by omega)
        · rw [m4, j5, hz22, h22 _ (ho.1 r (by omega)).1 (lnl r (by omega)), sm, Int32.add_assoc]
          rfl
    rw [hsz]
    obtain ⟨j1, j2, j3, j4, j5⟩ := hgen (szI A l) (Nat.le_refl _)
    refine ⟨fun k h1 h2 => (j1 k h1 h2).trans (i1 k h1 h2), fun j hj => (j2 j hj).trans (i2 j hj), fun c hc => ?_, ?_⟩
    · by_cases hin : A 20 c = 1 ∧ lnI A c = l
      · obtain ⟨j, hj, e⟩ := ho.2.1 c hc hin.1 (by rw [← hin.2]; exact (hL c hc).1)
        rw [← e, j4 j hj, if_pos ⟨by rw [e]; exact hin.1, by rw [e]; omega⟩]
      · rw [j3 c (fun j hj e => hin (by
          have y := ho.1 j hj
          have w := lnl j hj
          rw [e] at y w
          exact ⟨y.2.1, w⟩)), i3 c hc]
        by_cases q : A 20 c = 1 ∧ lnI A c < l
        · rw [if_pos q, if_pos ⟨q.1, by omega⟩]
        · rw [if_neg q, if_neg (fun w => ?_)]
          by_cases e : lnI A c = l
          · exact hin ⟨w.1, e⟩
          · exact q ⟨w.1, by omega⟩
    · rw [j5, i4, ho.sum hb (hrd A nl nc ns), Int32.add_assoc, sm_lane hL hL3 hl3]
