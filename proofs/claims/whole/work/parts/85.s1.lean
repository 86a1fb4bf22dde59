/-! pure: the class's letIn and the reference's enter -/
theorem min_eq (a b : Int32) : (if b < a then b else a) = lsr a b := by
  rw [ti_eq, lsr_le]
  by_cases h : b < a
  · rw [if_pos h]
    rw [ti_lt] at h
    rw [if_neg (by omega)]
  · rw [if_neg h]
    rw [ti_lt] at h
    split
    · rfl
    · omega
theorem Rel.room {A B : Nat → Nat → Int32} {N nl nc ns nn L l w : Nat} {M : Int} (h : Rel A B N nl nc ns nn L M) (hl : l < 3) (hw : w < N) : k_room A (A 16 w) (k_ld A l (szI A l)) = true ↔ ∀ j, j < N → ¬ m_blk (B 34) (nI l) w j := by
  obtain ⟨-, -, -, -, -, hb, hp, -, -, -, -, hW, -⟩ := h
  obtain ⟨-, -, -, x4⟩ := hW l hl
  have bw := (hb w hw).1
  have e200 : (200 : Int32).toInt = 200 := by decide
  have el : (A 16 w + 200).toInt = (A 16 w).toInt + 200 := by rw [ti_add (by rw [e200]; omega) (by rw [e200]; omega), e200]
  have hblk : ∀ j, j < N → (m_blk (B 34) (nI l) w j ↔ (A 20 j = 1 ∧ A 19 j = nI l) ∧ (k_re A j).toInt < (A 16 w).toInt + 200) := fun j hj => by
    obtain ⟨p1, p2, p3, p4⟩ := hp j hj
    show (pt (B 34) 2 j = 1 ∧ pt (B 34) 1 j = nI l) ∧ rr (B 34) j < pt (B 34) 8 w + 200 ↔ _
    rw [p1, p2, (hp j hj).rr, (hp w hw).2.2.2, ti_lt, el]
  cases hs : szI A l with
  | zero =>
    refine ⟨fun _ j hj q => ?_, fun _ => rfl⟩
    obtain ⟨⟨q1, q2⟩, -⟩ := (hblk j hj).mp q
    obtain ⟨i, hi, -⟩ := x4.2.1 j hj q1 q2
    omega
  | succ s =>
    rw [hs] at x4
    obtain ⟨y1, y2, y3⟩ := x4.1 s (by omega)
    have hlast : k_room A (A 16 w) (k_ld A l (s + 1)) = true ↔ ¬ (k_re A (rw_ A l s)).toInt < (A 16 w).toInt + 200 := by
      show decide (¬ k_re A (rw_ A l s) < A 16 w + 200) = true ↔ _
      rw [decide_eq_true_iff, ti_lt, el]
    rw [hlast]
    constructor
    · intro q j hj q2
      obtain ⟨⟨q3, q4⟩, q5⟩ := (hblk j hj).mp q2
      obtain ⟨i, hi, ei⟩ := x4.2.1 j hj q3 q4
      by_cases e : i = s
      · rw [e] at ei
        rw [ei] at q
        exact q q5
      · have o := x4.ord hb (i := i) (j := s) (by omega) (by omega)
        rw [ei] at o
        rw [(hb j hj).re] at q5
        rw [(hb _ y1).re] at q
        have b1 := (hb _ y1).1
        omega
    · intro q q2
      exact q _ y1 ((hblk _ y1).mpr ⟨⟨y2, y3⟩, q2⟩)
theorem Rel.rg {A B : Nat → Nat → Int32} {N nl nc ns nn L c : Nat} {M : Int} (h : Rel A B N nl nc ns nn L M) (hc : c < N) : RG A B ns c := by
  obtain ⟨ht, -, -, -, -, -, -, hq, hS, -⟩ := h
  have hns := ht.2.2.1.2.2
  exact ⟨(hq c hc).1, fun k hk => (hS c hc k (by omega)).2.2.1 hk⟩
theorem Rel.gap {A B : Nat → Nat → Int32} {N nl nc ns nn L l r c : Nat} {M : Int} (h : Rel A B N nl nc ns nn L M) (hl : l < 3) (hc : c < N) (hr : Rank A l (szI A l) (A 21 c) r) : k_gap A nl nc ns l r c = m_gap B N nl nc ns c (nI l) ∧ GB (k_gap A nl nc ns l r c) := by
  have hg := h.rg hc
  obtain ⟨ht, -, hst, -, -, hb, hp, -, -, -, -, hW, -⟩ := h
  exact gap_eq ht hst.1 (hW l hl).2.2.2 hb hp hc hg hr
theorem k_ld_wr {A : Nat → Nat → Int32} {l k : Nat} {v : Int32} : ∀ r, k_ld (wr A 30 k v) l r = k_ld A l r
  | 0 => rfl
  | _ + 1 => rfl
set_option maxRecDepth 100000 in
set_option maxHeartbeats 4000000 in
theorem s1 {A B : Nat → Nat → Int32} {N nl nc ns nn L l : Nat} {M : Int} (h : Rel A B N nl nc ns nn L M) (hl : l < L) : Rel (k_letIn A N nl nc ns l (szI A l) (k0I A l)) (m_enter B N nl nc ns (nI l)) N nl nc ns nn L M ∧ (k_fw A (nI l) (N - k0I A l) (k0I A l) < N → szI A l < 60) := by
  have hL3 : L ≤ 3 := h.1.2.2.2.2.1.2.2.2.2
  have hN60 : N ≤ 60 := h.2.1.2.2
  have ew := h.fw (show l < 3 by omega)
  have h0 := rel_wt h (show l < 3 by omega)
  have a2 := k_fw_is (A := A) (l := nI l) (N - k0I A l) (k0I A l)
  have hk0 : k0I A l ≤ N := (h.2.2.2.2.2.2.2.2.2.2.2.2 l (by omega)).2.1
  have hcap : k_fw A (nI l) (N - k0I A l) (k0I A l) < N → szI A l < 60 := fun hlt => by
    have q := a2 (by omega)
    have hW := (h.2.2.2.2.2.2.2.2.2.2.2.1 l (by omega)).2.2.2
    have := hW.lt h.2.2.2.2.2.1 hlt (fun q2 => by rw [q.1] at q2; exact absurd q2.1 (by decide))
    omega
  refine ⟨?_, hcap⟩
  unfold k_letIn m_enter
  dsimp only
  rw [← ew]
  generalize hwd : k_fw A (nI l) (N - k0I A l) (k0I A l) = w at h0 hcap a2 ⊢
  have hsz : szI (wr A 30 l (nI w)) l = szI A l := rfl
  by_cases hlt : w < N
  · have hroom := h0.room (show l < 3 by omega) hlt
    obtain ⟨w0, wl⟩ := a2 (by omega)
    have hs60 := hcap hlt
    rw [hsz] at hroom
    by_cases hr : k_room (wr A 30 l (nI w)) (wr A 30 l (nI w) 16 w) (k_ld (wr A 30 l (nI w)) l (szI A l)) = true
    · rw [if_pos ⟨hlt, hr⟩, if_pos ⟨hlt, hroom.mp hr⟩]
      have w0' : wr A 30 l (nI w) 20 w = 0 := w0
      have wl' : wr A 30 l (nI w) 19 w = nI l := wl
      rw [← hsz] at hr hs60 ⊢
      generalize hA0 : wr A 30 l (nI w) = A0 at h0 hr hs60 w0' wl' ⊢
      clear hroom hcap hsz hA0 a2 ew h w0 wl hwd hk0
      have hb := h0.2.2.2.2.2.1
      have hp := h0.2.2.2.2.2.2.1
      have hst := h0.2.2.1
      have hrm : ∀ s, szI A0 l = s + 1 → (A0 16 w).toInt ≤ (A0 21 (rw_ A0 l s)).toInt - (A0 16 (rw_ A0 l s)).toInt := by
        intro s hs
        rw [hs] at hr
        have x4 := (h0.2.2.2.2.2.2.2.2.2.2.2.1 l (by omega)).2.2.2
        rw [hs] at x4
        obtain ⟨y1, -, -⟩ := x4.1 s (by omega)
        have q : ¬ k_re A0 (rw_ A0 l s) < A0 16 w + 200 := of_decide_eq_true hr
        have bw := (hb w hlt).1
        have e200 : (200 : Int32).toInt = 200 := by decide
        rw [ti_lt, ti_add (by rw [e200]; omega) (by rw [e200]; omega), e200, (hb _ y1).re] at q
        omega
      unfold k_in m_ent
      dsimp only
      have e8 : pt (mp B w 2 1 34) 8 w = A0 16 w := by rw [mp_pt _ _ _ _ (by decide) (by decide), if_neg (by omega), (hp w hlt).2.2.2]
      rw [e8]
      have en : mp (mp B w 2 1) w 3 (A0 16 w) 34 1 = A0 13 4 := by rw [mp_lo _ _ _ _ (by decide), mp_lo _ _ _ _ (by decide), hst.1]
      rw [en]
      have en2 : mp (mp (mp B w 2 1) w 3 (A0 16 w)) w 5 (A0 13 4) 34 1 = A0 13 4 := by rw [mp_lo _ _ _ _ (by decide), en]
      rw [en2]
      have f1 : wr A0 20 w 1 16 w = A0 16 w := rfl
      rw [f1]
      have f2 : wr (wr A0 20 w 1) 21 w (A0 16 w) 13 4 = A0 13 4 := rfl
      rw [f2]
      have f3 : wr (wr (wr A0 20 w 1) 21 w (A0 16 w)) 23 w (A0 13 4) 13 4 = A0 13 4 := rfl
      rw [f3]
      have h5 : Rel (kIns (wr (wr (wr (wr A0 20 w 1) 21 w (A0 16 w)) 23 w (A0 13 4)) 25 w (A0 13 4)) l (szI A0 l) (szI A0 l) (nI w)) (mp (mp (mp (mp B w 2 1) w 3 (A0 16 w)) w 5 (A0 13 4)) w 7 (A0 13 4)) N nl nc ns nn L M := by
        refine rel_in h0 hlt hl w0' wl' hrm hs60 ?_ (fun _ => rfl) (fun _ => rfl) (fun _ => rfl) (fun _ => rfl) ?_ ?_ ?_ ?_ ?_
        · intro k hk
          rw [kIns_ne _ _ _ _ _ (by omega) (by omega), wr_ne _ _ _ (by omega), wr_ne _ _ _ (by omega), wr_ne _ _ _ (by omega), wr_ne _ _ _ (by omega)]
        · intro l2
          rw [kIns_29, up_if]
          rfl
        · intro j
          rw [kIns_28, ins_at]
          split
          · rfl
          · rw [if_neg (by omega)]
            rfl
        · intro k hk
          rw [mp_ne _ _ _ _ hk, mp_ne _ _ _ _ hk, mp_ne _ _ _ _ hk, mp_ne _ _ _ _ hk]
        · intro k hk
          rw [mp_lo _ _ _ _ hk, mp_lo _ _ _ _ hk, mp_lo _ _ _ _ hk, mp_lo _ _ _ _ hk]
        · intro p c hp2
          rw [mp_pt _ _ _ _ (by decide) hp2, mp_pt _ _ _ _ (by decide) hp2, mp_pt _ _ _ _ (by decide) hp2, mp_pt _ _ _ _ (by decide) hp2]
      have hrow : rw_ (kIns (wr (wr (wr (wr A0 20 w 1) 21 w (A0 16 w)) 23 w (A0 13 4)) 25 w (A0 13 4)) l (szI A0 l) (szI A0 l) (nI w)) l (szI A0 l) = w := by
        rw [rw_ins hs60 (Nat.le_refl _) (by omega) (Nat.le_refl _), if_neg (by omega), if_pos rfl]
      have hsz5 : szI (kIns (wr (wr (wr (wr A0 20 w 1) 21 w (A0 16 w)) 23 w (A0 13 4)) 25 w (A0 13 4)) l (szI A0 l) (szI A0 l) (nI w)) l = szI A0 l + 1 := by rw [szI_ins hs60, if_pos rfl]
      generalize hA5 : kIns (wr (wr (wr (wr A0 20 w 1) 21 w (A0 16 w)) 23 w (A0 13 4)) 25 w (A0 13 4)) l (szI A0 l) (szI A0 l) (nI w) = A5 at h5 hrow hsz5 ⊢
      generalize hB4 : mp (mp (mp (mp B w 2 1) w 3 (A0 16 w)) w 5 (A0 13 4)) w 7 (A0 13 4) = B4 at h5 ⊢
      have x5 := (h5.2.2.2.2.2.2.2.2.2.2.2.1 l (by omega)).2.2.2
      have own := x5.own h5.2.2.2.2.2.1 (j := szI A0 l) (by omega)
      rw [hrow] at own
      obtain ⟨g1, g2⟩ := h5.gap (show l < 3 by omega) hlt own
      obtain ⟨q1, q2, q3, q4⟩ := alw_eq g2
      have e9 : pt (B4 34) 9 w = A5 17 w := (h5.2.2.2.2.2.2.2.1 w hlt).2.2.2.2.2.1
      rw [e9, q1, ← g1, min_eq]
      refine rel_sp h5 ?_
      have b2 := (h5.2.2.2.2.2.1 w hlt).2.1
      rw [lsr_le]
      split
      · omega
      · omega
    · rw [if_neg (fun q => hr q.2), if_neg (fun q => hr (hroom.mpr q.2))]
      exact h0
  · rw [if_neg (fun q => hlt q.1), if_neg (fun q => hlt q.1)]
    exact h0
