/-! pure: the new speeds, the reference's half -/
theorem m_gl_cg {X B : Nat → Nat → Int32} (hx : ∀ k, k ≠ 46 → X k = B k) (f g : Int32) : ∀ k, m_gl X f g k = m_gl B f g k
  | 0 => rfl
  | k + 1 => by simp only [m_gl, m_red, m_gl_cg hx f g k, hx 34 (by decide), hx 36 (by decide), hx 37 (by decide), hx 38 (by decide)]
theorem m_gc_cg {X B : Nat → Nat → Int32} (hx : ∀ k, k ≠ 46 → X k = B k) (f l g : Int32) : ∀ k, m_gc X f l g k = m_gc B f l g k
  | 0 => rfl
  | k + 1 => by simp only [m_gc, m_shut, m_gc_cg hx f l g k, hx 34 (by decide), hx 39 (by decide), hx 40 (by decide), hx 41 (by decide), hx 42 (by decide)]
theorem m_gs_cg {X B : Nat → Nat → Int32} (hx : ∀ k, k ≠ 46 → X k = B k) (f : Int32) (a : Nat) (g : Int32) : ∀ k, m_gs X f a g k = m_gs B f a g k
  | 0 => rfl
  | k + 1 => by simp only [m_gs, m_stop, m_gs_cg hx f a g k, hx 34 (by decide), hx 43 (by decide), hx 44 (by decide)]
theorem m_gap_cg {X B : Nat → Nat → Int32} (hx : ∀ k, k ≠ 46 → X k = B k) (N nl nc ns a : Nat) (l : Int32) : m_gap X N nl nc ns a l = m_gap B N nl nc ns a l := by
  unfold m_gap
  rw [m_gs_cg hx, m_gc_cg hx, m_gl_cg hx, hx 34 (by decide)]
def nsm (B : Nat → Nat → Int32) (N nl nc ns c : Nat) : Int32 := lsr (m_want (B 34) c) (alw (m_gap B N nl nc ns c (pt (B 34) 1 c)))
theorem mf_neq (I : Nat → Nat → Int32) (c : Nat) (v : Int32) {k : Nat} (h : k ≠ 46) : mf I c v k = I k := va_up_ne _ _ h
theorem mf_46i (I : Nat → Nat → Int32) (c : Nat) (v : Int32) (j : Nat) : mf I c v 46 j = if j = c then v else I 46 j := by
  unfold mf
  rw [va_up_self]
  rfl
theorem m_s1_at {B : Nat → Nat → Int32} {N nl nc ns : Nat} : ∀ m, (∀ k, k ≠ 46 → m_s1 B N nl nc ns m k = B k) ∧ ∀ j, j < m → pt (B 34) 2 j = 1 → m_s1 B N nl nc ns m 46 j = nsm B N nl nc ns j
  | 0 => ⟨fun _ _ => rfl, fun j hj => absurd hj (by omega)⟩
  | m + 1 => by
    obtain ⟨i1, i2⟩ := m_s1_at (B := B) (N := N) (nl := nl) (nc := nc) (ns := ns) m
    rw [m_s1]
    generalize m_s1 B N nl nc ns m = X at i1 i2 ⊢
    rw [i1 34 (by decide), m_gap_cg i1]
    by_cases h : pt (B 34) 2 m = 1
    · rw [if_pos h]
      refine ⟨fun k hk => (mf_neq _ _ _ hk).trans (i1 k hk), fun j hj h2 => ?_⟩
      rw [mf_46i]
      by_cases e : j = m
      · rw [if_pos e, e]; rfl
      · rw [if_neg e]; exact i2 j (by omega) h2
    · rw [if_neg h]
      refine ⟨i1, fun j hj h2 => ?_⟩
      by_cases e : j = m
      · rw [e] at h2; exact absurd h2 h
      · exact i2 j (by omega) h2
theorem mci_at (I : Nat → Nat → Int32) (k : Nat) (d : Int32) (j : Nat) : mci I k d 34 j = if j = k then I 34 k + d else I 34 j := by
  unfold mci
  rw [va_up_self]
  rfl
theorem mp_at (I : Nat → Nat → Int32) (i p : Nat) (v : Int32) (j : Nat) : mp I i p v 34 j = if j = 20 + 20 * i + p then v else I 34 j := by
  unfold mp
  rw [va_up_self]
  rfl
theorem m_s2_at {X : Nat → Nat → Int32} : ∀ m, (∀ k, k ≠ 34 → m_s2 X m k = X k) ∧ (∀ i, i < 20 → i ≠ 4 → m_s2 X m 34 i = X 34 i) ∧ (∀ p c, p < 20 → pt (m_s2 X m 34) p c = if p = 4 ∧ c < m ∧ pt (X 34) 2 c = 1 then X 46 c else pt (X 34) p c) ∧ m_s2 X m 34 4 = X 34 4 + sm (fun c => if pt (X 34) 2 c = 1 then bI (¬ pt (X 34) 4 c - X 46 c < 20) else 0) m
  | 0 => ⟨fun _ _ => rfl, fun _ _ _ => rfl, fun p c _ => (if_neg (fun q => absurd q.2.1 (by omega))).symm, (Int32.add_zero _).symm⟩
  | m + 1 => by
    obtain ⟨i1, i2, i3, i4⟩ := m_s2_at (X := X) m
    rw [m_s2]
    generalize m_s2 X m = Y at i1 i2 i3 i4 ⊢
    have e2 : pt (Y 34) 2 m = pt (X 34) 2 m := by rw [i3 2 m (by decide), if_neg (fun q => absurd q.1 (by decide))]
    have e4 : pt (Y 34) 4 m = pt (X 34) 4 m := by rw [i3 4 m (by decide), if_neg (fun q => absurd q.2.1 (by omega))]
    rw [e2, e4, mci_ne _ _ _ (show (46 : Nat) ≠ 34 by decide), i1 46 (by decide)]
    by_cases h : pt (X 34) 2 m = 1
    · rw [if_pos h]
      refine ⟨fun k hk => ?_, fun i h1 h2 => ?_, fun p c hp => ?_, ?_⟩
      · rw [mp_ne _ _ _ _ hk, mci_ne _ _ _ hk, i1 k hk]
      · rw [mp_at, if_neg (by omega), mci_at, if_neg h2, i2 i h1 h2]
      · show mp _ _ _ _ 34 (20 + 20 * c + p) = _
        rw [mp_at, mci_at, if_neg (show ¬ 20 + 20 * c + p = 4 by omega)]
        have i3' : Y 34 (20 + 20 * c + p) = if p = 4 ∧ c < m ∧ pt (X 34) 2 c = 1 then X 46 c else X 34 (20 + 20 * c + p) := i3 p c hp
        rw [i3']
        by_cases e : c = m ∧ p = 4
        · rw [if_pos (by omega), e.1, if_pos ⟨e.2, by omega, h⟩]
        · rw [if_neg (by omega)]
          by_cases q : p = 4 ∧ c < m ∧ pt (X 34) 2 c = 1
          · rw [if_pos q, if_pos ⟨q.1, by omega, q.2.2⟩]
          · rw [if_neg q, if_neg (fun w => q ⟨w.1, by omega, w.2.2⟩)]
      · rw [mp_at, if_neg (by omega), mci_at, if_pos rfl, i4, sm, if_pos h, Int32.add_assoc]
    · rw [if_neg h]
      refine ⟨i1, i2, fun p c hp => ?_, ?_⟩
      · rw [i3 p c hp]
        by_cases q : p = 4 ∧ c < m ∧ pt (X 34) 2 c = 1
        · rw [if_pos q, if_pos ⟨q.1, by omega, q.2.2⟩]
        · rw [if_neg q, if_neg (fun w => q ⟨w.1, by
            have : c ≠ m := fun e => h (by rw [← e]; exact w.2.2)
            omega, w.2.2⟩)]
      · rw [i4, sm, if_neg h, Int32.add_zero]
theorem k_st_le {a q : Int32} {p : Prop} [Decidable p] : (k_st a q p).toInt ≤ a.toInt := by
  unfold k_st
  split
  · rename_i h
    have := ti_lt.mp h.1.2
    omega
  · exact Int.le_refl _
theorem k_nl_le (A : Nat → Nat → Int32) (f t a : Int32) : ∀ k, (k_nl A f t a k).toInt ≤ a.toInt
  | 0 => Int.le_refl _
  | k + 1 => Int.le_trans (k_st_le) (k_nl_le A f t a k)
theorem k_nc_le (A : Nat → Nat → Int32) (l f t a : Int32) : ∀ k, (k_nc A l f t a k).toInt ≤ a.toInt
  | 0 => Int.le_refl _
  | k + 1 => Int.le_trans (k_st_le) (k_nc_le A l f t a k)
theorem k_ns_le (A : Nat → Nat → Int32) (c : Nat) (a : Int32) : ∀ k, (k_ns A c a k).toInt ≤ a.toInt
  | 0 => Int.le_refl _
  | k + 1 => Int.le_trans (k_st_le) (k_ns_le A c a k)
theorem k_gap_le (A : Nat → Nat → Int32) (nl nc ns l r c : Nat) : (k_gap A nl nc ns l r c).toInt ≤ (k_g0 A c (k_ld A l r)).toInt := by
  unfold k_gap
  dsimp only
  have h1 := k_nc_le A (nI l) (A 21 c) (A 13 4) (k_nl A (A 21 c) (A 13 4) (k_g0 A c (k_ld A l r)) nl) nc
  have h2 := k_nl_le A (A 21 c) (A 13 4) (k_g0 A c (k_ld A l r)) nl
  split
  · exact Int.le_trans (k_ns_le _ _ _ _) (Int.le_trans h1 h2)
  · exact Int.le_trans h1 h2
/-- a car's new speed is the reference's -/
theorem rel_nsp {A B : Nat → Nat → Int32} {N nl nc ns nn L c : Nat} {M : Int} (h : Rel A B N nl nc ns nn L M) (hc : c < N) : nsp A nl nc ns c = nsm B N nl nc ns c ∧ 0 ≤ (nsp A nl nc ns c).toInt ∧ (nsp A nl nc ns c).toInt ≤ 200 ∧ (nsp A nl nc ns c).toInt ≤ (alw (k_gap A nl nc ns (lnI A c) (k_rk A (lnI A c) (A 21 c) (szI A (lnI A c)) 0) c)).toInt := by
  have h0 := h
  obtain ⟨ht, hN, hst, -, -, hb, hp, hq, -, hL, -, hW, -⟩ := h
  have h3 := ht.2.2.2.2.1.2.2.2.2
  obtain ⟨-, ⟨hl1, hl2⟩, -⟩ := hL c hc
  have hl3 : lnI A c < 3 := by omega
  have hg := h0.gap (nl := nl) (nc := nc) (ns := ns) hl3 hc ((hW _ hl3).2.2.2.rank hb (A 21 c))
  obtain ⟨a1, a2, a3, a4⟩ := alw_eq hg.2
  obtain ⟨q1, q2, q3, q4, q5, q6, q7⟩ := hq c hc
  obtain ⟨-, p2, -, -⟩ := hp c hc
  obtain ⟨b1, b2, b3, b4, b5⟩ := hb c hc
  have htk : k_tick A c ↔ m_tick (B 34) c := by
    unfold k_tick m_tick
    rw [q7, hst.1]
    exact ⟨fun w => w.2, fun w => ⟨by rw [ti_lt, t0]; omega, w⟩⟩
  have et : (if k_tick A c then (6 : Int32) else 0) = if m_tick (B 34) c then 6 else 0 := by
    by_cases w : k_tick A c
    · rw [if_pos w, if_pos (htk.mp w)]
    · rw [if_neg w, if_neg (fun q => w (htk.mpr q))]
  have et2 : 0 ≤ (if k_tick A c then (6 : Int32) else 0).toInt ∧ (if k_tick A c then (6 : Int32) else 0).toInt ≤ 6 := by
    split <;> decide
  have ewant : k_want A c = lsr (A 17 c) (A 22 c + (if k_tick A c then 6 else 0)) := min_eq _ _
  have wb : 0 ≤ (k_want A c).toInt ∧ (k_want A c).toInt ≤ 200 := by
    rw [ewant]
    generalize (if k_tick A c then (6 : Int32) else 0) = d at et2 ⊢
    rw [lsr_le, ti_add (by omega) (by omega)]
    split <;> omega
  have ewant2 : k_want A c = m_want (B 34) c := by
    rw [ewant, et, m_want, q6, q2]
  have e1 : nsp A nl nc ns c = lsr (k_want A c) (alw (k_gap A nl nc ns (lnI A c) (k_rk A (lnI A c) (A 21 c) (szI A (lnI A c)) 0) c)) := by
    unfold nsp k_spd
    rw [a1]
    rfl
  refine ⟨?_, ?_, ?_, ?_⟩
  · rw [e1, ewant2, hg.1, nsm, p2, ← hl1]
  · rw [e1, lsr_le]; split <;> omega
  · rw [e1, lsr_le]; split <;> omega
  · rw [e1, lsr_le]; split <;> omega
/-- what a lane's rows keep when all of a lane move -/
def SPok (X : Nat → Nat → Int32) : Prop := ∀ l, l < 3 → ∀ j, j + 1 < szI X l → (X 21 (rw_ X l (j + 1))).toInt + (X 22 (rw_ X l (j + 1))).toInt ≤ (X 21 (rw_ X l j)).toInt - (X 16 (rw_ X l j)).toInt
theorem rel_sps {A B A' B' : Nat → Nat → Int32} {N nl nc ns nn L : Nat} {M : Int} (h : Rel A B N nl nc ns nn L M)
    (ak : ∀ k, k ≠ 22 → k ≠ 13 → A' k = A k) (a13 : ∀ j, j ≠ 6 → A' 13 j = A 13 j) (a22 : ∀ c, c < N → 0 ≤ (A' 22 c).toInt ∧ (A' 22 c).toInt ≤ 200)
    (bk : ∀ k, k ≠ 34 → k ≠ 46 → B' k = B k) (b0 : ∀ i, i < 20 → i ≠ 4 → B' 34 i = B 34 i) (bp : ∀ p c, c < N → p < 20 → p ≠ 4 → pt (B' 34) p c = pt (B 34) p c) (b4 : ∀ c, c < N → pt (B' 34) 4 c = A' 22 c) (bh : B' 34 4 = A' 13 6) : Rel A' B' N nl nc ns nn L M := by
  obtain ⟨ht, ⟨hN1, hN2, hN60⟩, ⟨s1, s2, s3, s4, s5, s6⟩, hps, htm, hb, hp, hq, hS, hL, hz, hW, hR⟩ := h
  have eL : ∀ c, lnI A' c = lnI A c := fun c => by unfold lnI; rw [ak 19 (by decide) (by decide)]
  have eZ : ∀ l, szI A' l = szI A l := fun l => by unfold szI; rw [ak 29 (by decide) (by decide)]
  have eK : ∀ l, k0I A' l = k0I A l := fun l => by unfold k0I; rw [ak 30 (by decide) (by decide)]
  have eR : ∀ l j, rw_ A' l j = rw_ A l j := fun l j => by unfold rw_; rw [ak 28 (by decide) (by decide)]
  refine ⟨ht.congr (fun k hk => ak k (by omega) (by omega)) bk, ⟨by rw [ak 14 (by decide) (by decide)]; exact hN1, by rw [b0 0 (by decide) (by decide)]; exact hN2, hN60⟩, ?_, ?_, ?_, ?_, ?_, ?_, ?_, ?_, ?_, ?_, ?_⟩
  · rw [b0 1 (by decide) (by decide), b0 3 (by decide) (by decide), b0 5 (by decide) (by decide), a13 4 (by decide), a13 5 (by decide), a13 7 (by decide)]
    exact ⟨s1, s2, bh, s4, s5, s6⟩
  · intro i hi
    rw [b0 (6 + i) (by omega) (by omega), ak 31 (by decide) (by decide)]
    exact hps i hi
  · rw [b0 2 (by decide) (by decide), htm]
    refine sm_cg (fun i _ => ?_)
    unfold tmF
    rw [ak 20 (by decide) (by decide), ak 24 (by decide) (by decide), ak 23 (by decide) (by decide)]
  · intro c hc
    obtain ⟨b1, b2, b3, b4, b5⟩ := hb c hc
    unfold CB
    rw [ak 16 (by decide) (by decide), ak 17 (by decide) (by decide), ak 18 (by decide) (by decide), ak 21 (by decide) (by decide)]
    exact ⟨b1, b2, b3, a22 c hc, b5⟩
  · intro c hc
    unfold RP
    rw [bp 2 c hc (by decide) (by decide), bp 1 c hc (by decide) (by decide), bp 3 c hc (by decide) (by decide), bp 8 c hc (by decide) (by decide), ak 20 (by decide) (by decide), ak 19 (by decide) (by decide), ak 21 (by decide) (by decide), ak 16 (by decide) (by decide)]
    exact hp c hc
  · intro c hc
    obtain ⟨q1, q2, q3⟩ := hq c hc
    unfold RQ
    rw [bp 0 c hc (by decide) (by decide), bp 5 c hc (by decide) (by decide), bp 6 c hc (by decide) (by decide), bp 7 c hc (by decide) (by decide), bp 9 c hc (by decide) (by decide), bp 10 c hc (by decide) (by decide), ak 15 (by decide) (by decide), ak 23 (by decide) (by decide), ak 24 (by decide) (by decide), ak 25 (by decide) (by decide), ak 17 (by decide) (by decide), ak 18 (by decide) (by decide), ak 20 (by decide) (by decide)]
    exact ⟨q1, b4 c hc, q3⟩
  · intro c hc k hk
    rw [bp (11 + k) c hc (by omega) (by omega), ak 26 (by decide) (by decide), ak 11 (by decide) (by decide), a13 4 (by decide)]
    exact hS c hc k hk
  · intro c hc
    unfold RL
    rw [eL, ak 20 (by decide) (by decide), ak 19 (by decide) (by decide), ak 21 (by decide) (by decide), ak 16 (by decide) (by decide), ak 1 (by decide) (by decide)]
    exact hL c hc
  · rw [ak 26 (by decide) (by decide)]; exact hz
  · intro l hl
    obtain ⟨w1, w2, w3, w4⟩ := hW l hl
    unfold RW
    rw [eZ, ak 29 (by decide) (by decide), ak 28 (by decide) (by decide)]
    refine ⟨w1, w2, fun j hj => by rw [eR]; exact w3 j hj, w4.congr (fun j _ => eR l j) (fun c _ => by rw [ak 20 (by decide) (by decide), ak 19 (by decide) (by decide)]) (fun c _ _ _ => by rw [ak 21 (by decide) (by decide), ak 16 (by decide) (by decide)]; exact ⟨rfl, rfl⟩)⟩
  · intro l hl
    unfold RN
    rw [eK, ak 30 (by decide) (by decide), ak 20 (by decide) (by decide), ak 19 (by decide) (by decide)]
    exact hR l hl
theorem s3 {A B : Nat → Nat → Int32} {N nl nc ns nn L : Nat} {M : Int} (h : Rel A B N nl nc ns nn L M) : Rel (k_s3 A nl nc ns L) (m_spd B N nl nc ns) N nl nc ns nn L M ∧ SPok (k_s3 A nl nc ns L) := by
  have h0 := h
  obtain ⟨ht, hN, hst, -, -, hb, hp, hq, -, hL, -, hW, -⟩ := h
  have h3 := ht.2.2.2.2.1.2.2.2.2
  obtain ⟨c1, c2, c3, c4⟩ := k_s3_at (nl := nl) (nc := nc) (ns := ns) hb (fun l hl => (hW l hl).2.2.2) (fun c hc => (hL c hc).2.1) h3 L (Nat.le_refl _)
  obtain ⟨d1, d2⟩ := m_s1_at (B := B) (N := N) (nl := nl) (nc := nc) (ns := ns) N
  obtain ⟨e1, e2, e3, e4⟩ := m_s2_at (X := m_s1 B N nl nc ns N) N
  rw [d1 34 (by decide)] at e2 e3 e4
  have c3' : ∀ c, c < N → k_s3 A nl nc ns L 22 c = if A 20 c = 1 then nsp A nl nc ns c else A 22 c := fun c hc => by
    rw [c3 c hc]
    by_cases w : A 20 c = 1
    · rw [if_pos w, if_pos ⟨w, (hL c hc).2.1.2⟩]
    · rw [if_neg w, if_neg (fun q => w q.1)]
  have p2 : ∀ c, c < N → pt (B 34) 2 c = A 20 c := fun c hc => (hp c hc).1
  constructor
  · refine rel_sps h0 c1 c2 (fun c hc => ?_) (fun k h1 h2 => (e1 k h1).trans (d1 k h2)) e2 (fun p c hc hp h4 => ?_) (fun c hc => ?_) ?_
    · rw [c3' c hc]
      split
      · exact ⟨(rel_nsp h0 hc).2.1, (rel_nsp h0 hc).2.2.1⟩
      · exact (hb c hc).2.2.2.1
    · rw [m_spd, e3 p c hp, if_neg (fun q => h4 q.1)]
    · rw [m_spd, e3 4 c (by decide), c3' c hc, p2 c hc]
      by_cases w : A 20 c = 1
      · rw [if_pos ⟨rfl, hc, w⟩, if_pos w, d2 c hc (by rw [p2 c hc]; exact w)]
        exact (rel_nsp h0 hc).1.symm
      · rw [if_neg (fun q => w q.2.2), if_neg w]
        exact (hq c hc).2.1
    · rw [m_spd, e4, c4, hst.2.2.1]
      congr 1
      refine sm_cg (fun c hc => ?_)
      show (if pt (B 34) 2 c = 1 then _ else _) = if _ then _ else _
      rw [p2 c hc]
      by_cases w : A 20 c = 1
      · rw [if_pos w, if_pos ⟨w, (hL c hc).2.1.2⟩, d2 c hc (by rw [p2 c hc]; exact w), hrd, (hq c hc).2.1, (rel_nsp h0 hc).1]
      · rw [if_neg w, if_neg (fun q => w q.1)]
  · intro l hl j hj
    have eZ : szI (k_s3 A nl nc ns L) l = szI A l := by unfold szI; rw [c1 29 (by decide) (by decide)]
    have eR : ∀ j, rw_ (k_s3 A nl nc ns L) l j = rw_ A l j := fun j => by unfold rw_; rw [c1 28 (by decide) (by decide)]
    rw [eZ] at hj
    obtain ⟨w1, w2, w3, w4⟩ := hW l hl
    rw [eR, eR, c1 21 (by decide) (by decide), c1 16 (by decide) (by decide)]
    obtain ⟨x1, x2, x3⟩ := w4.1 j (by omega)
    obtain ⟨y1, y2, y3⟩ := w4.1 (j + 1) hj
    rw [c3' _ y1, if_pos y2]
    have eln : lnI A (rw_ A l (j + 1)) = l := nI_inj (by have := (hL _ y1).2.1.2; omega) (by omega) ((hL _ y1).2.1.1.symm.trans y3)
    obtain ⟨n1, n2, n3, n4⟩ := rel_nsp h0 y1
    rw [eln, w4.own_rk hb hj] at n4
    have hg := h0.gap (nl := nl) (nc := nc) (ns := ns) hl y1 (w4.own hb hj)
    obtain ⟨a1, a2, a3, a4⟩ := alw_eq hg.2
    have hle := k_gap_le A nl nc ns l (j + 1) (rw_ A l (j + 1))
    have g0 : (k_g0 A (rw_ A l (j + 1)) (k_ld A l (j + 1))).toInt ≤ (A 21 (rw_ A l j)).toInt - (A 16 (rw_ A l j)).toInt - (A 21 (rw_ A l (j + 1))).toInt := by
      have r := (hb _ x1).re
      obtain ⟨b1, -, -, -, b5⟩ := hb _ x1
      obtain ⟨-, -, -, -, d5⟩ := hb _ y1
      have e : (k_re A (rw_ A l j) - A 21 (rw_ A l (j + 1))).toInt = (A 21 (rw_ A l j)).toInt - (A 16 (rw_ A l j)).toInt - (A 21 (rw_ A l (j + 1))).toInt := by
        rw [ti_sub (by omega) (by omega), r]
      show (if k_re A (rw_ A l j) - A 21 (rw_ A l (j + 1)) < 1000000 then _ else _ : Int32).toInt ≤ _
      split
      · omega
      · rename_i w
        rw [ti_lt] at w
        have : (1000000 : Int32).toInt = 1000000 := by decide
        omega
    have hord := w4.2.2 j hj
    by_cases q : (k_gap A nl nc ns l (j + 1) (rw_ A l (j + 1))).toInt < 200
    · have := a3 q
      omega
    · have := a4 (by omega)
      omega
